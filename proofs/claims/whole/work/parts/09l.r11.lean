theorem x_193_0 : decode (q_code 193) 0 = .ok (.aload_n 0, 1) := by decide +kernel
theorem x_193_1 : decode (q_code 193) 1 = .ok (.getfield 99, 3) := by decide +kernel
theorem x_193_4 : decode (q_code 193) 4 = .ok (.bipush 20, 2) := by decide +kernel
theorem x_193_6 : decode (q_code 193) 6 = .ok (.iadd, 1) := by decide +kernel
theorem x_193_7 : decode (q_code 193) 7 = .ok (.sipush 2000, 3) := by decide +kernel
theorem x_193_10 : decode (q_code 193) 10 = .ok (.if_icmp .le 5, 3) := by decide +kernel
theorem x_193_13 : decode (q_code 193) 13 = .ok (.iconst (-1), 1) := by decide +kernel
theorem x_193_14 : decode (q_code 193) 14 = .ok (.ireturn, 1) := by decide +kernel
theorem x_193_15 : decode (q_code 193) 15 = .ok (.aload_n 0, 1) := by decide +kernel
theorem x_193_16 : decode (q_code 193) 16 = .ok (.iload_n 1, 1) := by decide +kernel
theorem x_193_17 : decode (q_code 193) 17 = .ok (.invokevirtual 103, 3) := by decide +kernel
theorem x_193_20 : decode (q_code 193) 20 = .ok (.aload_n 0, 1) := by decide +kernel
theorem x_193_21 : decode (q_code 193) 21 = .ok (.iload_n 2, 1) := by decide +kernel
theorem x_193_22 : decode (q_code 193) 22 = .ok (.invokevirtual 103, 3) := by decide +kernel
theorem x_193_25 : decode (q_code 193) 25 = .ok (.aload_n 0, 1) := by decide +kernel
theorem x_193_26 : decode (q_code 193) 26 = .ok (.iload_n 3, 1) := by decide +kernel
theorem x_193_27 : decode (q_code 193) 27 = .ok (.invokevirtual 103, 3) := by decide +kernel
theorem x_193_30 : decode (q_code 193) 30 = .ok (.aload_n 0, 1) := by decide +kernel
theorem x_193_31 : decode (q_code 193) 31 = .ok (.iload 4, 2) := by decide +kernel
theorem x_193_33 : decode (q_code 193) 33 = .ok (.invokevirtual 103, 3) := by decide +kernel
theorem x_193_36 : decode (q_code 193) 36 = .ok (.aload_n 0, 1) := by decide +kernel
theorem x_193_37 : decode (q_code 193) 37 = .ok (.iload 5, 2) := by decide +kernel
theorem x_193_39 : decode (q_code 193) 39 = .ok (.invokevirtual 103, 3) := by decide +kernel
theorem x_193_42 : decode (q_code 193) 42 = .ok (.aload_n 0, 1) := by decide +kernel
theorem x_193_43 : decode (q_code 193) 43 = .ok (.getfield 99, 3) := by decide +kernel
theorem x_193_46 : decode (q_code 193) 46 = .ok (.ireturn, 1) := by decide +kernel
theorem x_194_0 : decode (q_code 194) 0 = .ok (.iconst 4, 1) := by decide +kernel
theorem x_194_1 : decode (q_code 194) 1 = .ok (.aload_n 0, 1) := by decide +kernel
theorem x_194_2 : decode (q_code 194) 2 = .ok (.getfield 99, 3) := by decide +kernel
theorem x_194_5 : decode (q_code 194) 5 = .ok (.iadd, 1) := by decide +kernel
theorem x_194_6 : decode (q_code 194) 6 = .ok (.istore_n 2, 1) := by decide +kernel
theorem x_194_7 : decode (q_code 194) 7 = .ok (.aload_n 0, 1) := by decide +kernel
theorem x_194_8 : decode (q_code 194) 8 = .ok (.getfield 16, 3) := by decide +kernel
theorem x_194_11 : decode (q_code 194) 11 = .ok (.iload_n 2, 1) := by decide +kernel
theorem x_194_12 : decode (q_code 194) 12 = .ok (.iload_n 1, 1) := by decide +kernel
theorem x_194_13 : decode (q_code 194) 13 = .ok (.bipush 24, 2) := by decide +kernel
theorem x_194_15 : decode (q_code 194) 15 = .ok (.ishr, 1) := by decide +kernel
theorem x_194_16 : decode (q_code 194) 16 = .ok (.i2b, 1) := by decide +kernel
theorem x_194_17 : decode (q_code 194) 17 = .ok (.bastore, 1) := by decide +kernel
theorem x_194_18 : decode (q_code 194) 18 = .ok (.aload_n 0, 1) := by decide +kernel
theorem x_194_19 : decode (q_code 194) 19 = .ok (.getfield 16, 3) := by decide +kernel
theorem x_194_22 : decode (q_code 194) 22 = .ok (.iload_n 2, 1) := by decide +kernel
theorem x_194_23 : decode (q_code 194) 23 = .ok (.iconst 1, 1) := by decide +kernel
theorem x_194_24 : decode (q_code 194) 24 = .ok (.iadd, 1) := by decide +kernel
theorem x_194_25 : decode (q_code 194) 25 = .ok (.iload_n 1, 1) := by decide +kernel
theorem x_194_26 : decode (q_code 194) 26 = .ok (.bipush 16, 2) := by decide +kernel
theorem x_194_28 : decode (q_code 194) 28 = .ok (.ishr, 1) := by decide +kernel
theorem x_194_29 : decode (q_code 194) 29 = .ok (.i2b, 1) := by decide +kernel
theorem x_194_30 : decode (q_code 194) 30 = .ok (.bastore, 1) := by decide +kernel
theorem x_194_31 : decode (q_code 194) 31 = .ok (.aload_n 0, 1) := by decide +kernel
theorem x_194_32 : decode (q_code 194) 32 = .ok (.getfield 16, 3) := by decide +kernel
theorem x_194_35 : decode (q_code 194) 35 = .ok (.iload_n 2, 1) := by decide +kernel
theorem x_194_36 : decode (q_code 194) 36 = .ok (.iconst 2, 1) := by decide +kernel
theorem x_194_37 : decode (q_code 194) 37 = .ok (.iadd, 1) := by decide +kernel
theorem x_194_38 : decode (q_code 194) 38 = .ok (.iload_n 1, 1) := by decide +kernel
theorem x_194_39 : decode (q_code 194) 39 = .ok (.bipush 8, 2) := by decide +kernel
theorem x_194_41 : decode (q_code 194) 41 = .ok (.ishr, 1) := by decide +kernel
theorem x_194_42 : decode (q_code 194) 42 = .ok (.i2b, 1) := by decide +kernel
theorem x_194_43 : decode (q_code 194) 43 = .ok (.bastore, 1) := by decide +kernel
theorem x_194_44 : decode (q_code 194) 44 = .ok (.aload_n 0, 1) := by decide +kernel
theorem x_194_45 : decode (q_code 194) 45 = .ok (.getfield 16, 3) := by decide +kernel
theorem x_194_48 : decode (q_code 194) 48 = .ok (.iload_n 2, 1) := by decide +kernel
theorem x_194_49 : decode (q_code 194) 49 = .ok (.iconst 3, 1) := by decide +kernel
theorem x_194_50 : decode (q_code 194) 50 = .ok (.iadd, 1) := by decide +kernel
theorem x_194_51 : decode (q_code 194) 51 = .ok (.iload_n 1, 1) := by decide +kernel
theorem x_194_52 : decode (q_code 194) 52 = .ok (.i2b, 1) := by decide +kernel
theorem x_194_53 : decode (q_code 194) 53 = .ok (.bastore, 1) := by decide +kernel
theorem x_194_54 : decode (q_code 194) 54 = .ok (.aload_n 0, 1) := by decide +kernel
theorem x_194_55 : decode (q_code 194) 55 = .ok (.dup, 1) := by decide +kernel
theorem x_194_56 : decode (q_code 194) 56 = .ok (.getfield 99, 3) := by decide +kernel
theorem x_194_59 : decode (q_code 194) 59 = .ok (.iconst 4, 1) := by decide +kernel
theorem x_194_60 : decode (q_code 194) 60 = .ok (.iadd, 1) := by decide +kernel
theorem x_194_61 : decode (q_code 194) 61 = .ok (.putfield 99, 3) := by decide +kernel
theorem x_194_64 : decode (q_code 194) 64 = .ok (.return_, 1) := by decide +kernel
theorem x_195_0 : decode (q_code 195) 0 = .ok (.iload_n 1, 1) := by decide +kernel
theorem x_195_1 : decode (q_code 195) 1 = .ok (.ifCond .lt 11, 3) := by decide +kernel
theorem x_195_4 : decode (q_code 195) 4 = .ok (.iload_n 1, 1) := by decide +kernel
theorem x_195_5 : decode (q_code 195) 5 = .ok (.aload_n 0, 1) := by decide +kernel
theorem x_195_6 : decode (q_code 195) 6 = .ok (.getfield 99, 3) := by decide +kernel
theorem x_195_9 : decode (q_code 195) 9 = .ok (.if_icmp .le 5, 3) := by decide +kernel
theorem x_195_12 : decode (q_code 195) 12 = .ok (.iconst (-1), 1) := by decide +kernel
theorem x_195_13 : decode (q_code 195) 13 = .ok (.ireturn, 1) := by decide +kernel
theorem x_195_14 : decode (q_code 195) 14 = .ok (.aload_n 0, 1) := by decide +kernel
theorem x_195_15 : decode (q_code 195) 15 = .ok (.iconst 0, 1) := by decide +kernel
theorem x_195_16 : decode (q_code 195) 16 = .ok (.putfield 99, 3) := by decide +kernel
theorem x_195_19 : decode (q_code 195) 19 = .ok (.aload_n 0, 1) := by decide +kernel
theorem x_195_20 : decode (q_code 195) 20 = .ok (.iconst 0, 1) := by decide +kernel
theorem x_195_21 : decode (q_code 195) 21 = .ok (.putfield 107, 3) := by decide +kernel
theorem x_195_24 : decode (q_code 195) 24 = .ok (.aload_n 0, 1) := by decide +kernel
theorem x_195_25 : decode (q_code 195) 25 = .ok (.getfield 24, 3) := by decide +kernel
theorem x_195_28 : decode (q_code 195) 28 = .ok (.iconst 0, 1) := by decide +kernel
theorem x_195_29 : decode (q_code 195) 29 = .ok (.sipush 8000, 3) := by decide +kernel
theorem x_195_32 : decode (q_code 195) 32 = .ok (.invokevirtual 110, 3) := by decide +kernel
theorem x_195_35 : decode (q_code 195) 35 = .ok (.aload_n 0, 1) := by decide +kernel
theorem x_195_36 : decode (q_code 195) 36 = .ok (.getfield 24, 3) := by decide +kernel
theorem x_195_39 : decode (q_code 195) 39 = .ok (.invokevirtual 114, 3) := by decide +kernel
theorem x_195_42 : decode (q_code 195) 42 = .ok (.pop, 1) := by decide +kernel
theorem x_195_43 : decode (q_code 195) 43 = .ok (.aload_n 0, 1) := by decide +kernel
theorem x_195_44 : decode (q_code 195) 44 = .ok (.getfield 33, 3) := by decide +kernel
theorem x_195_47 : decode (q_code 195) 47 = .ok (.iload_n 1, 1) := by decide +kernel
theorem x_195_48 : decode (q_code 195) 48 = .ok (.invokevirtual 118, 3) := by decide +kernel
theorem x_195_51 : decode (q_code 195) 51 = .ok (.ifCond .ne 24, 3) := by decide +kernel
theorem x_195_54 : decode (q_code 195) 54 = .ok (.aload_n 0, 1) := by decide +kernel
theorem x_195_55 : decode (q_code 195) 55 = .ok (.aload_n 0, 1) := by decide +kernel
theorem x_195_56 : decode (q_code 195) 56 = .ok (.getfield 33, 3) := by decide +kernel
theorem x_195_59 : decode (q_code 195) 59 = .ok (.getfield 122, 3) := by decide +kernel
theorem x_195_62 : decode (q_code 195) 62 = .ok (.aload_n 0, 1) := by decide +kernel
theorem x_195_63 : decode (q_code 195) 63 = .ok (.getfield 33, 3) := by decide +kernel
theorem x_195_66 : decode (q_code 195) 66 = .ok (.getfield 123, 3) := by decide +kernel
theorem x_195_69 : decode (q_code 195) 69 = .ok (.invokevirtual 126, 3) := by decide +kernel
theorem x_195_72 : decode (q_code 195) 72 = .ok (.goto 19, 3) := by decide +kernel
theorem x_195_75 : decode (q_code 195) 75 = .ok (.aload_n 0, 1) := by decide +kernel
theorem x_195_76 : decode (q_code 195) 76 = .ok (.invokevirtual 129, 3) := by decide +kernel
theorem x_195_79 : decode (q_code 195) 79 = .ok (.istore_n 2, 1) := by decide +kernel
theorem x_195_80 : decode (q_code 195) 80 = .ok (.iload_n 2, 1) := by decide +kernel
theorem x_195_81 : decode (q_code 195) 81 = .ok (.ifCond .lt 10, 3) := by decide +kernel
theorem x_195_84 : decode (q_code 195) 84 = .ok (.aload_n 0, 1) := by decide +kernel
theorem x_195_85 : decode (q_code 195) 85 = .ok (.bipush 9, 2) := by decide +kernel
theorem x_195_87 : decode (q_code 195) 87 = .ok (.iload_n 2, 1) := by decide +kernel
theorem x_195_88 : decode (q_code 195) 88 = .ok (.invokevirtual 132, 3) := by decide +kernel
theorem x_195_91 : decode (q_code 195) 91 = .ok (.aload_n 0, 1) := by decide +kernel
theorem x_195_92 : decode (q_code 195) 92 = .ok (.getfield 107, 3) := by decide +kernel
theorem x_195_95 : decode (q_code 195) 95 = .ok (.ifCond .ne 124, 3) := by decide +kernel
theorem x_195_98 : decode (q_code 195) 98 = .ok (.aload_n 0, 1) := by decide +kernel
theorem x_195_99 : decode (q_code 195) 99 = .ok (.getfield 135, 3) := by decide +kernel
theorem x_195_102 : decode (q_code 195) 102 = .ok (.tableswitch 113 1 9 #[50, 57, 64, 71, 78, 85, 92, 99, 106], 50) := by decide +kernel
theorem x_195_152 : decode (q_code 195) 152 = .ok (.aload_n 0, 1) := by decide +kernel
theorem x_195_153 : decode (q_code 195) 153 = .ok (.invokevirtual 138, 3) := by decide +kernel
theorem x_195_156 : decode (q_code 195) 156 = .ok (.goto 63, 3) := by decide +kernel
theorem x_195_159 : decode (q_code 195) 159 = .ok (.aload_n 0, 1) := by decide +kernel
theorem x_195_160 : decode (q_code 195) 160 = .ok (.invokevirtual 141, 3) := by decide +kernel
theorem x_195_163 : decode (q_code 195) 163 = .ok (.goto 56, 3) := by decide +kernel
theorem x_195_166 : decode (q_code 195) 166 = .ok (.aload_n 0, 1) := by decide +kernel
theorem x_195_167 : decode (q_code 195) 167 = .ok (.invokevirtual 144, 3) := by decide +kernel
theorem x_195_170 : decode (q_code 195) 170 = .ok (.goto 49, 3) := by decide +kernel
theorem x_195_173 : decode (q_code 195) 173 = .ok (.aload_n 0, 1) := by decide +kernel
theorem x_195_174 : decode (q_code 195) 174 = .ok (.invokevirtual 147, 3) := by decide +kernel
theorem x_195_177 : decode (q_code 195) 177 = .ok (.goto 42, 3) := by decide +kernel
theorem x_195_180 : decode (q_code 195) 180 = .ok (.aload_n 0, 1) := by decide +kernel
theorem x_195_181 : decode (q_code 195) 181 = .ok (.invokevirtual 150, 3) := by decide +kernel
theorem x_195_184 : decode (q_code 195) 184 = .ok (.goto 35, 3) := by decide +kernel
theorem x_195_187 : decode (q_code 195) 187 = .ok (.aload_n 0, 1) := by decide +kernel
theorem x_195_188 : decode (q_code 195) 188 = .ok (.invokevirtual 153, 3) := by decide +kernel
theorem x_195_191 : decode (q_code 195) 191 = .ok (.goto 28, 3) := by decide +kernel
theorem x_195_194 : decode (q_code 195) 194 = .ok (.aload_n 0, 1) := by decide +kernel
theorem x_195_195 : decode (q_code 195) 195 = .ok (.invokevirtual 156, 3) := by decide +kernel
theorem x_195_198 : decode (q_code 195) 198 = .ok (.goto 21, 3) := by decide +kernel
theorem x_195_201 : decode (q_code 195) 201 = .ok (.aload_n 0, 1) := by decide +kernel
theorem x_195_202 : decode (q_code 195) 202 = .ok (.invokevirtual 159, 3) := by decide +kernel
theorem x_195_205 : decode (q_code 195) 205 = .ok (.goto 14, 3) := by decide +kernel
theorem x_195_208 : decode (q_code 195) 208 = .ok (.aload_n 0, 1) := by decide +kernel
theorem x_195_209 : decode (q_code 195) 209 = .ok (.invokevirtual 162, 3) := by decide +kernel
theorem x_195_212 : decode (q_code 195) 212 = .ok (.goto 7, 3) := by decide +kernel
theorem x_195_215 : decode (q_code 195) 215 = .ok (.aload_n 0, 1) := by decide +kernel
theorem x_195_216 : decode (q_code 195) 216 = .ok (.invokevirtual 165, 3) := by decide +kernel
theorem x_195_219 : decode (q_code 195) 219 = .ok (.aload_n 0, 1) := by decide +kernel
theorem x_195_220 : decode (q_code 195) 220 = .ok (.getfield 24, 3) := by decide +kernel
theorem x_195_223 : decode (q_code 195) 223 = .ok (.iconst 0, 1) := by decide +kernel
theorem x_195_224 : decode (q_code 195) 224 = .ok (.invokevirtual 168, 3) := by decide +kernel
theorem x_195_227 : decode (q_code 195) 227 = .ok (.aload_n 0, 1) := by decide +kernel
theorem x_195_228 : decode (q_code 195) 228 = .ok (.getfield 107, 3) := by decide +kernel
theorem x_195_231 : decode (q_code 195) 231 = .ok (.ifCond .ne 20, 3) := by decide +kernel
theorem x_195_234 : decode (q_code 195) 234 = .ok (.aload_n 0, 1) := by decide +kernel
theorem x_195_235 : decode (q_code 195) 235 = .ok (.getfield 24, 3) := by decide +kernel
theorem x_195_238 : decode (q_code 195) 238 = .ok (.getfield 171, 3) := by decide +kernel
theorem x_195_241 : decode (q_code 195) 241 = .ok (.ifCond .eq 10, 3) := by decide +kernel
theorem x_195_244 : decode (q_code 195) 244 = .ok (.aload_n 0, 1) := by decide +kernel
theorem x_195_245 : decode (q_code 195) 245 = .ok (.bipush 40, 2) := by decide +kernel
theorem x_195_247 : decode (q_code 195) 247 = .ok (.iconst (-1), 1) := by decide +kernel
theorem x_195_248 : decode (q_code 195) 248 = .ok (.invokevirtual 126, 3) := by decide +kernel
theorem x_195_251 : decode (q_code 195) 251 = .ok (.aload_n 0, 1) := by decide +kernel
theorem x_195_252 : decode (q_code 195) 252 = .ok (.getfield 107, 3) := by decide +kernel
theorem x_195_255 : decode (q_code 195) 255 = .ok (.ifCond .eq 7, 3) := by decide +kernel
theorem x_195_258 : decode (q_code 195) 258 = .ok (.aload_n 0, 1) := by decide +kernel
theorem x_195_259 : decode (q_code 195) 259 = .ok (.invokevirtual 175, 3) := by decide +kernel
theorem x_195_262 : decode (q_code 195) 262 = .ok (.aload_n 0, 1) := by decide +kernel
theorem x_195_263 : decode (q_code 195) 263 = .ok (.getfield 24, 3) := by decide +kernel
theorem x_195_266 : decode (q_code 195) 266 = .ok (.getfield 178, 3) := by decide +kernel
theorem x_195_269 : decode (q_code 195) 269 = .ok (.ireturn, 1) := by decide +kernel
theorem x_196_0 : decode (q_code 196) 0 = .ok (.aload_n 0, 1) := by decide +kernel
theorem x_196_1 : decode (q_code 196) 1 = .ok (.getfield 24, 3) := by decide +kernel
theorem x_196_4 : decode (q_code 196) 4 = .ok (.iconst 0, 1) := by decide +kernel
theorem x_196_5 : decode (q_code 196) 5 = .ok (.sipush 8000, 3) := by decide +kernel
theorem x_196_8 : decode (q_code 196) 8 = .ok (.invokevirtual 110, 3) := by decide +kernel
theorem x_196_11 : decode (q_code 196) 11 = .ok (.aload_n 0, 1) := by decide +kernel
theorem x_196_12 : decode (q_code 196) 12 = .ok (.getfield 24, 3) := by decide +kernel
theorem x_196_15 : decode (q_code 196) 15 = .ok (.invokevirtual 114, 3) := by decide +kernel
theorem x_196_18 : decode (q_code 196) 18 = .ok (.pop, 1) := by decide +kernel
theorem x_196_19 : decode (q_code 196) 19 = .ok (.aload_n 0, 1) := by decide +kernel
theorem x_196_20 : decode (q_code 196) 20 = .ok (.getfield 24, 3) := by decide +kernel
theorem x_196_23 : decode (q_code 196) 23 = .ok (.ldc 181, 2) := by decide +kernel
theorem x_196_25 : decode (q_code 196) 25 = .ok (.aload_n 0, 1) := by decide +kernel
theorem x_196_26 : decode (q_code 196) 26 = .ok (.getfield 107, 3) := by decide +kernel
theorem x_196_29 : decode (q_code 196) 29 = .ok (.invokevirtual 182, 3) := by decide +kernel
theorem x_196_32 : decode (q_code 196) 32 = .ok (.aload_n 0, 1) := by decide +kernel
theorem x_196_33 : decode (q_code 196) 33 = .ok (.getfield 24, 3) := by decide +kernel
theorem x_196_36 : decode (q_code 196) 36 = .ok (.ldc 186, 2) := by decide +kernel
theorem x_196_38 : decode (q_code 196) 38 = .ok (.aload_n 0, 1) := by decide +kernel
theorem x_196_39 : decode (q_code 196) 39 = .ok (.getfield 187, 3) := by decide +kernel
theorem x_196_42 : decode (q_code 196) 42 = .ok (.invokevirtual 182, 3) := by decide +kernel
theorem x_196_45 : decode (q_code 196) 45 = .ok (.aload_n 0, 1) := by decide +kernel
theorem x_196_46 : decode (q_code 196) 46 = .ok (.getfield 24, 3) := by decide +kernel
theorem x_196_49 : decode (q_code 196) 49 = .ok (.iconst 0, 1) := by decide +kernel
theorem x_196_50 : decode (q_code 196) 50 = .ok (.invokevirtual 168, 3) := by decide +kernel
theorem x_196_53 : decode (q_code 196) 53 = .ok (.return_, 1) := by decide +kernel
theorem x_197_0 : decode (q_code 197) 0 = .ok (.aload_n 0, 1) := by decide +kernel
theorem x_197_1 : decode (q_code 197) 1 = .ok (.iload_n 1, 1) := by decide +kernel
theorem x_197_2 : decode (q_code 197) 2 = .ok (.putfield 107, 3) := by decide +kernel
theorem x_197_5 : decode (q_code 197) 5 = .ok (.aload_n 0, 1) := by decide +kernel
theorem x_197_6 : decode (q_code 197) 6 = .ok (.iload_n 2, 1) := by decide +kernel
theorem x_197_7 : decode (q_code 197) 7 = .ok (.putfield 187, 3) := by decide +kernel
theorem x_197_10 : decode (q_code 197) 10 = .ok (.return_, 1) := by decide +kernel
theorem x_198_0 : decode (q_code 198) 0 = .ok (.aload_n 0, 1) := by decide +kernel
theorem x_198_1 : decode (q_code 198) 1 = .ok (.iload_n 1, 1) := by decide +kernel
theorem x_198_2 : decode (q_code 198) 2 = .ok (.iload_n 2, 1) := by decide +kernel
theorem x_198_3 : decode (q_code 198) 3 = .ok (.iconst 4, 1) := by decide +kernel
theorem x_198_4 : decode (q_code 198) 4 = .ok (.isub, 1) := by decide +kernel
theorem x_198_5 : decode (q_code 198) 5 = .ok (.invokevirtual 126, 3) := by decide +kernel
theorem x_198_8 : decode (q_code 198) 8 = .ok (.return_, 1) := by decide +kernel
theorem x_199_0 : decode (q_code 199) 0 = .ok (.iload_n 1, 1) := by decide +kernel
theorem x_199_1 : decode (q_code 199) 1 = .ok (.ifCond .lt 42, 3) := by decide +kernel
theorem x_199_4 : decode (q_code 199) 4 = .ok (.iload_n 1, 1) := by decide +kernel
theorem x_199_5 : decode (q_code 199) 5 = .ok (.aload_n 0, 1) := by decide +kernel
theorem x_199_6 : decode (q_code 199) 6 = .ok (.getfield 24, 3) := by decide +kernel
theorem x_199_9 : decode (q_code 199) 9 = .ok (.getfield 178, 3) := by decide +kernel
theorem x_199_12 : decode (q_code 199) 12 = .ok (.if_icmp .ge 31, 3) := by decide +kernel
theorem x_199_15 : decode (q_code 199) 15 = .ok (.iload_n 1, 1) := by decide +kernel
theorem x_199_16 : decode (q_code 199) 16 = .ok (.aload_n 0, 1) := by decide +kernel
theorem x_199_17 : decode (q_code 199) 17 = .ok (.getfield 24, 3) := by decide +kernel
theorem x_199_20 : decode (q_code 199) 20 = .ok (.getfield 188, 3) := by decide +kernel
theorem x_199_23 : decode (q_code 199) 23 = .ok (.arraylength, 1) := by decide +kernel
theorem x_199_24 : decode (q_code 199) 24 = .ok (.if_icmp .ge 19, 3) := by decide +kernel
theorem x_199_27 : decode (q_code 199) 27 = .ok (.aload_n 0, 1) := by decide +kernel
theorem x_199_28 : decode (q_code 199) 28 = .ok (.getfield 24, 3) := by decide +kernel
theorem x_199_31 : decode (q_code 199) 31 = .ok (.getfield 188, 3) := by decide +kernel
theorem x_199_34 : decode (q_code 199) 34 = .ok (.iload_n 1, 1) := by decide +kernel
theorem x_199_35 : decode (q_code 199) 35 = .ok (.baload, 1) := by decide +kernel
theorem x_199_36 : decode (q_code 199) 36 = .ok (.sipush 255, 3) := by decide +kernel
theorem x_199_39 : decode (q_code 199) 39 = .ok (.iand, 1) := by decide +kernel
theorem x_199_40 : decode (q_code 199) 40 = .ok (.goto 4, 3) := by decide +kernel
theorem x_199_43 : decode (q_code 199) 43 = .ok (.iconst (-1), 1) := by decide +kernel
theorem x_199_44 : decode (q_code 199) 44 = .ok (.ireturn, 1) := by decide +kernel
theorem x_200_0 : decode (q_code 200) 0 = .ok (.iload_n 1, 1) := by decide +kernel
theorem x_200_1 : decode (q_code 200) 1 = .ok (.tableswitch 94 0 7 #[47, 47, 57, 57, 69, 69, 81, 89], 47) := by decide +kernel
theorem x_200_48 : decode (q_code 200) 48 = .ok (.aload_n 0, 1) := by decide +kernel
theorem x_200_49 : decode (q_code 200) 49 = .ok (.getfield 83, 3) := by decide +kernel
theorem x_200_52 : decode (q_code 200) 52 = .ok (.iload_n 1, 1) := by decide +kernel
theorem x_200_53 : decode (q_code 200) 53 = .ok (.aaload, 1) := by decide +kernel
theorem x_200_54 : decode (q_code 200) 54 = .ok (.getfield 189, 3) := by decide +kernel
theorem x_200_57 : decode (q_code 200) 57 = .ok (.ireturn, 1) := by decide +kernel
theorem x_200_58 : decode (q_code 200) 58 = .ok (.aload_n 0, 1) := by decide +kernel
theorem x_200_59 : decode (q_code 200) 59 = .ok (.getfield 83, 3) := by decide +kernel
theorem x_200_62 : decode (q_code 200) 62 = .ok (.iload_n 1, 1) := by decide +kernel
theorem x_200_63 : decode (q_code 200) 63 = .ok (.iconst 2, 1) := by decide +kernel
theorem x_200_64 : decode (q_code 200) 64 = .ok (.isub, 1) := by decide +kernel
theorem x_200_65 : decode (q_code 200) 65 = .ok (.aaload, 1) := by decide +kernel
theorem x_200_66 : decode (q_code 200) 66 = .ok (.getfield 191, 3) := by decide +kernel
theorem x_200_69 : decode (q_code 200) 69 = .ok (.ireturn, 1) := by decide +kernel
theorem x_200_70 : decode (q_code 200) 70 = .ok (.aload_n 0, 1) := by decide +kernel
theorem x_200_71 : decode (q_code 200) 71 = .ok (.getfield 83, 3) := by decide +kernel
theorem x_200_74 : decode (q_code 200) 74 = .ok (.iload_n 1, 1) := by decide +kernel
theorem x_200_75 : decode (q_code 200) 75 = .ok (.iconst 4, 1) := by decide +kernel
theorem x_200_76 : decode (q_code 200) 76 = .ok (.isub, 1) := by decide +kernel
theorem x_200_77 : decode (q_code 200) 77 = .ok (.aaload, 1) := by decide +kernel
theorem x_200_78 : decode (q_code 200) 78 = .ok (.invokevirtual 194, 3) := by decide +kernel
theorem x_200_81 : decode (q_code 200) 81 = .ok (.ireturn, 1) := by decide +kernel
theorem x_200_82 : decode (q_code 200) 82 = .ok (.aload_n 0, 1) := by decide +kernel
theorem x_200_83 : decode (q_code 200) 83 = .ok (.getfield 24, 3) := by decide +kernel
theorem x_200_86 : decode (q_code 200) 86 = .ok (.getfield 178, 3) := by decide +kernel
theorem x_200_89 : decode (q_code 200) 89 = .ok (.ireturn, 1) := by decide +kernel
theorem x_200_90 : decode (q_code 200) 90 = .ok (.aload_n 0, 1) := by decide +kernel
theorem x_200_91 : decode (q_code 200) 91 = .ok (.getfield 99, 3) := by decide +kernel
theorem x_200_94 : decode (q_code 200) 94 = .ok (.ireturn, 1) := by decide +kernel
theorem x_200_95 : decode (q_code 200) 95 = .ok (.iconst (-1), 1) := by decide +kernel
theorem x_200_96 : decode (q_code 200) 96 = .ok (.ireturn, 1) := by decide +kernel
theorem x_201_0 : decode (q_code 201) 0 = .ok (.aload_n 0, 1) := by decide +kernel
theorem x_201_1 : decode (q_code 201) 1 = .ok (.iload_n 1, 1) := by decide +kernel
theorem x_201_2 : decode (q_code 201) 2 = .ok (.iload_n 2, 1) := by decide +kernel
theorem x_201_3 : decode (q_code 201) 3 = .ok (.invokevirtual 197, 3) := by decide +kernel
theorem x_201_6 : decode (q_code 201) 6 = .ok (.ifCond .eq 17, 3) := by decide +kernel
theorem x_201_9 : decode (q_code 201) 9 = .ok (.aload_n 0, 1) := by decide +kernel
theorem x_201_10 : decode (q_code 201) 10 = .ok (.getfield 83, 3) := by decide +kernel
theorem x_201_13 : decode (q_code 201) 13 = .ok (.iload_n 1, 1) := by decide +kernel
theorem x_201_14 : decode (q_code 201) 14 = .ok (.aaload, 1) := by decide +kernel
theorem x_201_15 : decode (q_code 201) 15 = .ok (.getfield 201, 3) := by decide +kernel
theorem x_201_18 : decode (q_code 201) 18 = .ok (.iload_n 2, 1) := by decide +kernel
theorem x_201_19 : decode (q_code 201) 19 = .ok (.iaload, 1) := by decide +kernel
theorem x_201_20 : decode (q_code 201) 20 = .ok (.goto 4, 3) := by decide +kernel
theorem x_201_23 : decode (q_code 201) 23 = .ok (.iconst 0, 1) := by decide +kernel
theorem x_201_24 : decode (q_code 201) 24 = .ok (.ireturn, 1) := by decide +kernel
theorem x_202_0 : decode (q_code 202) 0 = .ok (.aload_n 0, 1) := by decide +kernel
theorem x_202_1 : decode (q_code 202) 1 = .ok (.iload_n 1, 1) := by decide +kernel
theorem x_202_2 : decode (q_code 202) 2 = .ok (.iload_n 2, 1) := by decide +kernel
theorem x_202_3 : decode (q_code 202) 3 = .ok (.invokevirtual 197, 3) := by decide +kernel
theorem x_202_6 : decode (q_code 202) 6 = .ok (.ifCond .eq 26, 3) := by decide +kernel
theorem x_202_9 : decode (q_code 202) 9 = .ok (.aload_n 0, 1) := by decide +kernel
theorem x_202_10 : decode (q_code 202) 10 = .ok (.getfield 16, 3) := by decide +kernel
theorem x_202_13 : decode (q_code 202) 13 = .ok (.aload_n 0, 1) := by decide +kernel
theorem x_202_14 : decode (q_code 202) 14 = .ok (.getfield 83, 3) := by decide +kernel
theorem x_202_17 : decode (q_code 202) 17 = .ok (.iload_n 1, 1) := by decide +kernel
theorem x_202_18 : decode (q_code 202) 18 = .ok (.aaload, 1) := by decide +kernel
theorem x_202_19 : decode (q_code 202) 19 = .ok (.getfield 204, 3) := by decide +kernel
theorem x_202_22 : decode (q_code 202) 22 = .ok (.iload_n 2, 1) := by decide +kernel
theorem x_202_23 : decode (q_code 202) 23 = .ok (.iaload, 1) := by decide +kernel
theorem x_202_24 : decode (q_code 202) 24 = .ok (.iconst 2, 1) := by decide +kernel
theorem x_202_25 : decode (q_code 202) 25 = .ok (.iadd, 1) := by decide +kernel
theorem x_202_26 : decode (q_code 202) 26 = .ok (.invokestatic 206, 3) := by decide +kernel
theorem x_202_29 : decode (q_code 202) 29 = .ok (.goto 4, 3) := by decide +kernel
theorem x_202_32 : decode (q_code 202) 32 = .ok (.iconst (-1), 1) := by decide +kernel
theorem x_202_33 : decode (q_code 202) 33 = .ok (.ireturn, 1) := by decide +kernel
theorem x_203_0 : decode (q_code 203) 0 = .ok (.aload_n 0, 1) := by decide +kernel
theorem x_203_1 : decode (q_code 203) 1 = .ok (.iload_n 1, 1) := by decide +kernel
theorem x_203_2 : decode (q_code 203) 2 = .ok (.iload_n 2, 1) := by decide +kernel
theorem x_203_3 : decode (q_code 203) 3 = .ok (.invokevirtual 197, 3) := by decide +kernel
theorem x_203_6 : decode (q_code 203) 6 = .ok (.ifCond .eq 7, 3) := by decide +kernel
theorem x_203_9 : decode (q_code 203) 9 = .ok (.iload_n 3, 1) := by decide +kernel
theorem x_203_10 : decode (q_code 203) 10 = .ok (.ifCond .ge 5, 3) := by decide +kernel
theorem x_203_13 : decode (q_code 203) 13 = .ok (.iconst (-1), 1) := by decide +kernel
theorem x_203_14 : decode (q_code 203) 14 = .ok (.ireturn, 1) := by decide +kernel
theorem x_203_15 : decode (q_code 203) 15 = .ok (.aload_n 0, 1) := by decide +kernel
theorem x_203_16 : decode (q_code 203) 16 = .ok (.getfield 83, 3) := by decide +kernel
theorem x_203_19 : decode (q_code 203) 19 = .ok (.iload_n 1, 1) := by decide +kernel
theorem x_203_20 : decode (q_code 203) 20 = .ok (.aaload, 1) := by decide +kernel
theorem x_203_21 : decode (q_code 203) 21 = .ok (.getfield 204, 3) := by decide +kernel
theorem x_203_24 : decode (q_code 203) 24 = .ok (.iload_n 2, 1) := by decide +kernel
theorem x_203_25 : decode (q_code 203) 25 = .ok (.iaload, 1) := by decide +kernel
theorem x_203_26 : decode (q_code 203) 26 = .ok (.iconst 2, 1) := by decide +kernel
theorem x_203_27 : decode (q_code 203) 27 = .ok (.iadd, 1) := by decide +kernel
theorem x_203_28 : decode (q_code 203) 28 = .ok (.istore 4, 2) := by decide +kernel
theorem x_203_30 : decode (q_code 203) 30 = .ok (.iload_n 3, 1) := by decide +kernel
theorem x_203_31 : decode (q_code 203) 31 = .ok (.aload_n 0, 1) := by decide +kernel
theorem x_203_32 : decode (q_code 203) 32 = .ok (.getfield 16, 3) := by decide +kernel
theorem x_203_35 : decode (q_code 203) 35 = .ok (.iload 4, 2) := by decide +kernel
theorem x_203_37 : decode (q_code 203) 37 = .ok (.invokestatic 206, 3) := by decide +kernel
theorem x_203_40 : decode (q_code 203) 40 = .ok (.if_icmp .ge 31, 3) := by decide +kernel
theorem x_203_43 : decode (q_code 203) 43 = .ok (.iload 4, 2) := by decide +kernel
theorem x_203_45 : decode (q_code 203) 45 = .ok (.iload_n 3, 1) := by decide +kernel
theorem x_203_46 : decode (q_code 203) 46 = .ok (.iadd, 1) := by decide +kernel
theorem x_203_47 : decode (q_code 203) 47 = .ok (.aload_n 0, 1) := by decide +kernel
theorem x_203_48 : decode (q_code 203) 48 = .ok (.getfield 16, 3) := by decide +kernel
theorem x_203_51 : decode (q_code 203) 51 = .ok (.arraylength, 1) := by decide +kernel
theorem x_203_52 : decode (q_code 203) 52 = .ok (.if_icmp .ge 19, 3) := by decide +kernel
theorem x_203_55 : decode (q_code 203) 55 = .ok (.aload_n 0, 1) := by decide +kernel
theorem x_203_56 : decode (q_code 203) 56 = .ok (.getfield 16, 3) := by decide +kernel
theorem x_203_59 : decode (q_code 203) 59 = .ok (.iload 4, 2) := by decide +kernel
theorem x_203_61 : decode (q_code 203) 61 = .ok (.iload_n 3, 1) := by decide +kernel
theorem x_203_62 : decode (q_code 203) 62 = .ok (.iadd, 1) := by decide +kernel
theorem x_203_63 : decode (q_code 203) 63 = .ok (.baload, 1) := by decide +kernel
theorem x_203_64 : decode (q_code 203) 64 = .ok (.sipush 255, 3) := by decide +kernel
theorem x_203_67 : decode (q_code 203) 67 = .ok (.iand, 1) := by decide +kernel
theorem x_203_68 : decode (q_code 203) 68 = .ok (.goto 4, 3) := by decide +kernel
theorem x_203_71 : decode (q_code 203) 71 = .ok (.iconst (-1), 1) := by decide +kernel
theorem x_203_72 : decode (q_code 203) 72 = .ok (.ireturn, 1) := by decide +kernel
theorem x_204_0 : decode (q_code 204) 0 = .ok (.iload_n 1, 1) := by decide +kernel
theorem x_204_1 : decode (q_code 204) 1 = .ok (.ifCond .eq 8, 3) := by decide +kernel
theorem x_204_4 : decode (q_code 204) 4 = .ok (.iload_n 1, 1) := by decide +kernel
theorem x_204_5 : decode (q_code 204) 5 = .ok (.iconst 1, 1) := by decide +kernel
theorem x_204_6 : decode (q_code 204) 6 = .ok (.if_icmp .ne 31, 3) := by decide +kernel
theorem x_204_9 : decode (q_code 204) 9 = .ok (.iload_n 2, 1) := by decide +kernel
theorem x_204_10 : decode (q_code 204) 10 = .ok (.ifCond .lt 27, 3) := by decide +kernel
theorem x_204_13 : decode (q_code 204) 13 = .ok (.iload_n 2, 1) := by decide +kernel
theorem x_204_14 : decode (q_code 204) 14 = .ok (.aload_n 0, 1) := by decide +kernel
theorem x_204_15 : decode (q_code 204) 15 = .ok (.getfield 83, 3) := by decide +kernel
theorem x_204_18 : decode (q_code 204) 18 = .ok (.iload_n 1, 1) := by decide +kernel
theorem x_204_19 : decode (q_code 204) 19 = .ok (.aaload, 1) := by decide +kernel
theorem x_204_20 : decode (q_code 204) 20 = .ok (.getfield 189, 3) := by decide +kernel
theorem x_204_23 : decode (q_code 204) 23 = .ok (.if_icmp .ge 14, 3) := by decide +kernel
theorem x_204_26 : decode (q_code 204) 26 = .ok (.iload_n 2, 1) := by decide +kernel
theorem x_204_27 : decode (q_code 204) 27 = .ok (.sipush 200, 3) := by decide +kernel
theorem x_204_30 : decode (q_code 204) 30 = .ok (.if_icmp .ge 7, 3) := by decide +kernel
theorem x_204_33 : decode (q_code 204) 33 = .ok (.iconst 1, 1) := by decide +kernel
theorem x_204_34 : decode (q_code 204) 34 = .ok (.goto 4, 3) := by decide +kernel
theorem x_204_37 : decode (q_code 204) 37 = .ok (.iconst 0, 1) := by decide +kernel
theorem x_204_38 : decode (q_code 204) 38 = .ok (.ireturn, 1) := by decide +kernel
theorem x_205_0 : decode (q_code 205) 0 = .ok (.aload_n 0, 1) := by decide +kernel
theorem x_205_1 : decode (q_code 205) 1 = .ok (.aload_n 0, 1) := by decide +kernel
theorem x_205_2 : decode (q_code 205) 2 = .ok (.getfield 16, 3) := by decide +kernel
theorem x_205_5 : decode (q_code 205) 5 = .ok (.iconst 2, 1) := by decide +kernel
theorem x_205_6 : decode (q_code 205) 6 = .ok (.invokestatic 210, 3) := by decide +kernel
theorem x_205_9 : decode (q_code 205) 9 = .ok (.putfield 213, 3) := by decide +kernel
theorem x_205_12 : decode (q_code 205) 12 = .ok (.aload_n 0, 1) := by decide +kernel
theorem x_205_13 : decode (q_code 205) 13 = .ok (.aload_n 0, 1) := by decide +kernel
theorem x_205_14 : decode (q_code 205) 14 = .ok (.aload_n 0, 1) := by decide +kernel
theorem x_205_15 : decode (q_code 205) 15 = .ok (.getfield 213, 3) := by decide +kernel
theorem x_205_18 : decode (q_code 205) 18 = .ok (.invokevirtual 216, 3) := by decide +kernel
theorem x_205_21 : decode (q_code 205) 21 = .ok (.putfield 135, 3) := by decide +kernel
theorem x_205_24 : decode (q_code 205) 24 = .ok (.aload_n 0, 1) := by decide +kernel
theorem x_205_25 : decode (q_code 205) 25 = .ok (.getfield 135, 3) := by decide +kernel
theorem x_205_28 : decode (q_code 205) 28 = .ok (.ifCond .ne 8, 3) := by decide +kernel
theorem x_205_31 : decode (q_code 205) 31 = .ok (.aload_n 0, 1) := by decide +kernel
theorem x_205_32 : decode (q_code 205) 32 = .ok (.getfield 213, 3) := by decide +kernel
theorem x_205_35 : decode (q_code 205) 35 = .ok (.ireturn, 1) := by decide +kernel
theorem x_205_36 : decode (q_code 205) 36 = .ok (.aload_n 0, 1) := by decide +kernel
theorem x_205_37 : decode (q_code 205) 37 = .ok (.invokevirtual 220, 3) := by decide +kernel
theorem x_205_40 : decode (q_code 205) 40 = .ok (.istore_n 1, 1) := by decide +kernel
theorem x_205_41 : decode (q_code 205) 41 = .ok (.iload_n 1, 1) := by decide +kernel
theorem x_205_42 : decode (q_code 205) 42 = .ok (.ifCond .lt 5, 3) := by decide +kernel
theorem x_205_45 : decode (q_code 205) 45 = .ok (.iload_n 1, 1) := by decide +kernel
theorem x_205_46 : decode (q_code 205) 46 = .ok (.ireturn, 1) := by decide +kernel
theorem x_205_47 : decode (q_code 205) 47 = .ok (.aload_n 0, 1) := by decide +kernel
theorem x_205_48 : decode (q_code 205) 48 = .ok (.getfield 16, 3) := by decide +kernel
theorem x_205_51 : decode (q_code 205) 51 = .ok (.aload_n 0, 1) := by decide +kernel
theorem x_205_52 : decode (q_code 205) 52 = .ok (.getfield 213, 3) := by decide +kernel
theorem x_205_55 : decode (q_code 205) 55 = .ok (.invokestatic 223, 3) := by decide +kernel
theorem x_205_58 : decode (q_code 205) 58 = .ok (.istore_n 2, 1) := by decide +kernel
theorem x_205_59 : decode (q_code 205) 59 = .ok (.aload_n 0, 1) := by decide +kernel
theorem x_205_60 : decode (q_code 205) 60 = .ok (.iload_n 2, 1) := by decide +kernel
theorem x_205_61 : decode (q_code 205) 61 = .ok (.invokevirtual 226, 3) := by decide +kernel
theorem x_205_64 : decode (q_code 205) 64 = .ok (.ifCond .ne 5, 3) := by decide +kernel
theorem x_205_67 : decode (q_code 205) 67 = .ok (.iload_n 2, 1) := by decide +kernel
theorem x_205_68 : decode (q_code 205) 68 = .ok (.ireturn, 1) := by decide +kernel
theorem x_205_69 : decode (q_code 205) 69 = .ok (.aload_n 0, 1) := by decide +kernel
theorem x_205_70 : decode (q_code 205) 70 = .ok (.aload_n 0, 1) := by decide +kernel
theorem x_205_71 : decode (q_code 205) 71 = .ok (.getfield 83, 3) := by decide +kernel
theorem x_205_74 : decode (q_code 205) 74 = .ok (.aload_n 0, 1) := by decide +kernel
theorem x_205_75 : decode (q_code 205) 75 = .ok (.getfield 16, 3) := by decide +kernel
theorem x_205_78 : decode (q_code 205) 78 = .ok (.iload_n 2, 1) := by decide +kernel
theorem x_205_79 : decode (q_code 205) 79 = .ok (.invokestatic 229, 3) := by decide +kernel
theorem x_205_82 : decode (q_code 205) 82 = .ok (.lconst 0, 1) := by decide +kernel
theorem x_205_83 : decode (q_code 205) 83 = .ok (.lcmp, 1) := by decide +kernel
theorem x_205_84 : decode (q_code 205) 84 = .ok (.ifCond .ne 7, 3) := by decide +kernel
theorem x_205_87 : decode (q_code 205) 87 = .ok (.iconst 0, 1) := by decide +kernel
theorem x_205_88 : decode (q_code 205) 88 = .ok (.goto 4, 3) := by decide +kernel
theorem x_205_91 : decode (q_code 205) 91 = .ok (.iconst 1, 1) := by decide +kernel
theorem x_205_92 : decode (q_code 205) 92 = .ok (.aaload, 1) := by decide +kernel
theorem x_205_93 : decode (q_code 205) 93 = .ok (.putfield 95, 3) := by decide +kernel
theorem x_205_96 : decode (q_code 205) 96 = .ok (.aload_n 0, 1) := by decide +kernel
theorem x_205_97 : decode (q_code 205) 97 = .ok (.getfield 16, 3) := by decide +kernel
theorem x_205_100 : decode (q_code 205) 100 = .ok (.iload_n 2, 1) := by decide +kernel
theorem x_205_101 : decode (q_code 205) 101 = .ok (.invokestatic 223, 3) := by decide +kernel
theorem x_205_104 : decode (q_code 205) 104 = .ok (.istore_n 2, 1) := by decide +kernel
theorem x_205_105 : decode (q_code 205) 105 = .ok (.aload_n 0, 1) := by decide +kernel
theorem x_205_106 : decode (q_code 205) 106 = .ok (.iload_n 2, 1) := by decide +kernel
theorem x_205_107 : decode (q_code 205) 107 = .ok (.putfield 233, 3) := by decide +kernel
theorem x_205_110 : decode (q_code 205) 110 = .ok (.aload_n 0, 1) := by decide +kernel
theorem x_205_111 : decode (q_code 205) 111 = .ok (.getfield 135, 3) := by decide +kernel
theorem x_205_114 : decode (q_code 205) 114 = .ok (.iconst 4, 1) := by decide +kernel
theorem x_205_115 : decode (q_code 205) 115 = .ok (.if_icmp .eq 12, 3) := by decide +kernel
theorem x_205_118 : decode (q_code 205) 118 = .ok (.aload_n 0, 1) := by decide +kernel
theorem x_205_119 : decode (q_code 205) 119 = .ok (.getfield 135, 3) := by decide +kernel
theorem x_205_122 : decode (q_code 205) 122 = .ok (.bipush 6, 2) := by decide +kernel
theorem x_205_124 : decode (q_code 205) 124 = .ok (.if_icmp .ne 38, 3) := by decide +kernel
theorem x_205_127 : decode (q_code 205) 127 = .ok (.aload_n 0, 1) := by decide +kernel
theorem x_205_128 : decode (q_code 205) 128 = .ok (.getfield 135, 3) := by decide +kernel
theorem x_205_131 : decode (q_code 205) 131 = .ok (.iconst 4, 1) := by decide +kernel
theorem x_205_132 : decode (q_code 205) 132 = .ok (.if_icmp .ne 10, 3) := by decide +kernel
theorem x_205_135 : decode (q_code 205) 135 = .ok (.aload_n 0, 1) := by decide +kernel
theorem x_205_136 : decode (q_code 205) 136 = .ok (.invokevirtual 236, 3) := by decide +kernel
theorem x_205_139 : decode (q_code 205) 139 = .ok (.goto 7, 3) := by decide +kernel
theorem x_205_142 : decode (q_code 205) 142 = .ok (.aload_n 0, 1) := by decide +kernel
theorem x_205_143 : decode (q_code 205) 143 = .ok (.invokevirtual 239, 3) := by decide +kernel
theorem x_205_146 : decode (q_code 205) 146 = .ok (.istore_n 1, 1) := by decide +kernel
theorem x_205_147 : decode (q_code 205) 147 = .ok (.iload_n 1, 1) := by decide +kernel
theorem x_205_148 : decode (q_code 205) 148 = .ok (.ifCond .lt 5, 3) := by decide +kernel
theorem x_205_151 : decode (q_code 205) 151 = .ok (.iload_n 1, 1) := by decide +kernel
theorem x_205_152 : decode (q_code 205) 152 = .ok (.ireturn, 1) := by decide +kernel
theorem x_205_153 : decode (q_code 205) 153 = .ok (.aload_n 0, 1) := by decide +kernel
theorem x_205_154 : decode (q_code 205) 154 = .ok (.getfield 16, 3) := by decide +kernel
theorem x_205_157 : decode (q_code 205) 157 = .ok (.iload_n 2, 1) := by decide +kernel
theorem x_205_158 : decode (q_code 205) 158 = .ok (.invokestatic 223, 3) := by decide +kernel
theorem x_205_161 : decode (q_code 205) 161 = .ok (.istore_n 2, 1) := by decide +kernel
theorem x_205_162 : decode (q_code 205) 162 = .ok (.aload_n 0, 1) := by decide +kernel
theorem x_205_163 : decode (q_code 205) 163 = .ok (.getfield 16, 3) := by decide +kernel
theorem x_205_166 : decode (q_code 205) 166 = .ok (.iload_n 2, 1) := by decide +kernel
theorem x_205_167 : decode (q_code 205) 167 = .ok (.invokestatic 242, 3) := by decide +kernel
theorem x_205_170 : decode (q_code 205) 170 = .ok (.ifCond .ne 7, 3) := by decide +kernel
theorem x_205_173 : decode (q_code 205) 173 = .ok (.iconst (-1), 1) := by decide +kernel
theorem x_205_174 : decode (q_code 205) 174 = .ok (.goto 4, 3) := by decide +kernel
theorem x_205_177 : decode (q_code 205) 177 = .ok (.iload_n 2, 1) := by decide +kernel
theorem x_205_178 : decode (q_code 205) 178 = .ok (.ireturn, 1) := by decide +kernel
theorem x_206_0 : decode (q_code 206) 0 = .ok (.aload_n 0, 1) := by decide +kernel
theorem x_206_1 : decode (q_code 206) 1 = .ok (.getfield 16, 3) := by decide +kernel
theorem x_206_4 : decode (q_code 206) 4 = .ok (.iload_n 1, 1) := by decide +kernel
theorem x_206_5 : decode (q_code 206) 5 = .ok (.invokestatic 242, 3) := by decide +kernel
theorem x_206_8 : decode (q_code 206) 8 = .ok (.ifCond .ne 5, 3) := by decide +kernel
theorem x_206_11 : decode (q_code 206) 11 = .ok (.iconst 0, 1) := by decide +kernel
theorem x_206_12 : decode (q_code 206) 12 = .ok (.ireturn, 1) := by decide +kernel
theorem x_206_13 : decode (q_code 206) 13 = .ok (.aload_n 0, 1) := by decide +kernel
theorem x_206_14 : decode (q_code 206) 14 = .ok (.getfield 16, 3) := by decide +kernel
theorem x_206_17 : decode (q_code 206) 17 = .ok (.iload_n 1, 1) := by decide +kernel
theorem x_206_18 : decode (q_code 206) 18 = .ok (.ldc 245, 2) := by decide +kernel
theorem x_206_20 : decode (q_code 206) 20 = .ok (.invokestatic 246, 3) := by decide +kernel
theorem x_206_23 : decode (q_code 206) 23 = .ok (.ifCond .eq 7, 3) := by decide +kernel
theorem x_206_26 : decode (q_code 206) 26 = .ok (.iconst 1, 1) := by decide +kernel
theorem x_206_27 : decode (q_code 206) 27 = .ok (.goto 165, 3) := by decide +kernel
theorem x_206_30 : decode (q_code 206) 30 = .ok (.aload_n 0, 1) := by decide +kernel
theorem x_206_31 : decode (q_code 206) 31 = .ok (.getfield 16, 3) := by decide +kernel
theorem x_206_34 : decode (q_code 206) 34 = .ok (.iload_n 1, 1) := by decide +kernel
theorem x_206_35 : decode (q_code 206) 35 = .ok (.ldc 249, 2) := by decide +kernel
theorem x_206_37 : decode (q_code 206) 37 = .ok (.invokestatic 246, 3) := by decide +kernel
theorem x_206_40 : decode (q_code 206) 40 = .ok (.ifCond .eq 7, 3) := by decide +kernel
theorem x_206_43 : decode (q_code 206) 43 = .ok (.iconst 2, 1) := by decide +kernel
theorem x_206_44 : decode (q_code 206) 44 = .ok (.goto 148, 3) := by decide +kernel
theorem x_206_47 : decode (q_code 206) 47 = .ok (.aload_n 0, 1) := by decide +kernel
theorem x_206_48 : decode (q_code 206) 48 = .ok (.getfield 16, 3) := by decide +kernel
theorem x_206_51 : decode (q_code 206) 51 = .ok (.iload_n 1, 1) := by decide +kernel
theorem x_206_52 : decode (q_code 206) 52 = .ok (.ldc 250, 2) := by decide +kernel
theorem x_206_54 : decode (q_code 206) 54 = .ok (.invokestatic 246, 3) := by decide +kernel
theorem x_206_57 : decode (q_code 206) 57 = .ok (.ifCond .eq 7, 3) := by decide +kernel
theorem x_206_60 : decode (q_code 206) 60 = .ok (.iconst 3, 1) := by decide +kernel
theorem x_206_61 : decode (q_code 206) 61 = .ok (.goto 131, 3) := by decide +kernel
theorem x_206_64 : decode (q_code 206) 64 = .ok (.aload_n 0, 1) := by decide +kernel
theorem x_206_65 : decode (q_code 206) 65 = .ok (.getfield 16, 3) := by decide +kernel
theorem x_206_68 : decode (q_code 206) 68 = .ok (.iload_n 1, 1) := by decide +kernel
theorem x_206_69 : decode (q_code 206) 69 = .ok (.ldc 251, 2) := by decide +kernel
theorem x_206_71 : decode (q_code 206) 71 = .ok (.invokestatic 246, 3) := by decide +kernel
theorem x_206_74 : decode (q_code 206) 74 = .ok (.ifCond .eq 7, 3) := by decide +kernel
theorem x_206_77 : decode (q_code 206) 77 = .ok (.iconst 4, 1) := by decide +kernel
theorem x_206_78 : decode (q_code 206) 78 = .ok (.goto 114, 3) := by decide +kernel
theorem x_206_81 : decode (q_code 206) 81 = .ok (.aload_n 0, 1) := by decide +kernel
theorem x_206_82 : decode (q_code 206) 82 = .ok (.getfield 16, 3) := by decide +kernel
theorem x_206_85 : decode (q_code 206) 85 = .ok (.iload_n 1, 1) := by decide +kernel
theorem x_206_86 : decode (q_code 206) 86 = .ok (.ldc 252, 2) := by decide +kernel
theorem x_206_88 : decode (q_code 206) 88 = .ok (.invokestatic 246, 3) := by decide +kernel
theorem x_206_91 : decode (q_code 206) 91 = .ok (.ifCond .eq 7, 3) := by decide +kernel
theorem x_206_94 : decode (q_code 206) 94 = .ok (.iconst 5, 1) := by decide +kernel
theorem x_206_95 : decode (q_code 206) 95 = .ok (.goto 97, 3) := by decide +kernel
theorem x_206_98 : decode (q_code 206) 98 = .ok (.aload_n 0, 1) := by decide +kernel
theorem x_206_99 : decode (q_code 206) 99 = .ok (.getfield 16, 3) := by decide +kernel
theorem x_206_102 : decode (q_code 206) 102 = .ok (.iload_n 1, 1) := by decide +kernel
theorem x_206_103 : decode (q_code 206) 103 = .ok (.ldc 253, 2) := by decide +kernel
theorem x_206_105 : decode (q_code 206) 105 = .ok (.invokestatic 246, 3) := by decide +kernel
theorem x_206_108 : decode (q_code 206) 108 = .ok (.ifCond .eq 8, 3) := by decide +kernel
theorem x_206_111 : decode (q_code 206) 111 = .ok (.bipush 6, 2) := by decide +kernel
theorem x_206_113 : decode (q_code 206) 113 = .ok (.goto 79, 3) := by decide +kernel
theorem x_206_116 : decode (q_code 206) 116 = .ok (.aload_n 0, 1) := by decide +kernel
theorem x_206_117 : decode (q_code 206) 117 = .ok (.getfield 16, 3) := by decide +kernel
theorem x_206_120 : decode (q_code 206) 120 = .ok (.iload_n 1, 1) := by decide +kernel
theorem x_206_121 : decode (q_code 206) 121 = .ok (.ldc 255, 2) := by decide +kernel
theorem x_206_123 : decode (q_code 206) 123 = .ok (.invokestatic 246, 3) := by decide +kernel
theorem x_206_126 : decode (q_code 206) 126 = .ok (.ifCond .eq 8, 3) := by decide +kernel
theorem x_206_129 : decode (q_code 206) 129 = .ok (.bipush 7, 2) := by decide +kernel
theorem x_206_131 : decode (q_code 206) 131 = .ok (.goto 61, 3) := by decide +kernel
theorem x_206_134 : decode (q_code 206) 134 = .ok (.aload_n 0, 1) := by decide +kernel
theorem x_206_135 : decode (q_code 206) 135 = .ok (.getfield 16, 3) := by decide +kernel
theorem x_206_138 : decode (q_code 206) 138 = .ok (.iload_n 1, 1) := by decide +kernel
theorem x_206_139 : decode (q_code 206) 139 = .ok (.ldc_w 256, 3) := by decide +kernel
theorem x_206_142 : decode (q_code 206) 142 = .ok (.invokestatic 246, 3) := by decide +kernel
theorem x_206_145 : decode (q_code 206) 145 = .ok (.ifCond .eq 8, 3) := by decide +kernel
theorem x_206_148 : decode (q_code 206) 148 = .ok (.bipush 8, 2) := by decide +kernel
theorem x_206_150 : decode (q_code 206) 150 = .ok (.goto 42, 3) := by decide +kernel
theorem x_206_153 : decode (q_code 206) 153 = .ok (.aload_n 0, 1) := by decide +kernel
theorem x_206_154 : decode (q_code 206) 154 = .ok (.getfield 16, 3) := by decide +kernel
theorem x_206_157 : decode (q_code 206) 157 = .ok (.iload_n 1, 1) := by decide +kernel
theorem x_206_158 : decode (q_code 206) 158 = .ok (.ldc_w 257, 3) := by decide +kernel
theorem x_206_161 : decode (q_code 206) 161 = .ok (.invokestatic 246, 3) := by decide +kernel
theorem x_206_164 : decode (q_code 206) 164 = .ok (.ifCond .eq 8, 3) := by decide +kernel
theorem x_206_167 : decode (q_code 206) 167 = .ok (.bipush 9, 2) := by decide +kernel
theorem x_206_169 : decode (q_code 206) 169 = .ok (.goto 23, 3) := by decide +kernel
theorem x_206_172 : decode (q_code 206) 172 = .ok (.aload_n 0, 1) := by decide +kernel
theorem x_206_173 : decode (q_code 206) 173 = .ok (.getfield 16, 3) := by decide +kernel
theorem x_206_176 : decode (q_code 206) 176 = .ok (.iload_n 1, 1) := by decide +kernel
theorem x_206_177 : decode (q_code 206) 177 = .ok (.ldc_w 258, 3) := by decide +kernel
theorem x_206_180 : decode (q_code 206) 180 = .ok (.invokestatic 246, 3) := by decide +kernel
theorem x_206_183 : decode (q_code 206) 183 = .ok (.ifCond .eq 8, 3) := by decide +kernel
theorem x_206_186 : decode (q_code 206) 186 = .ok (.bipush 10, 2) := by decide +kernel
theorem x_206_188 : decode (q_code 206) 188 = .ok (.goto 4, 3) := by decide +kernel
theorem x_206_191 : decode (q_code 206) 191 = .ok (.iconst 0, 1) := by decide +kernel
theorem x_206_192 : decode (q_code 206) 192 = .ok (.ireturn, 1) := by decide +kernel
theorem x_207_0 : decode (q_code 207) 0 = .ok (.aload_n 0, 1) := by decide +kernel
theorem x_207_1 : decode (q_code 207) 1 = .ok (.getfield 16, 3) := by decide +kernel
theorem x_207_4 : decode (q_code 207) 4 = .ok (.iload_n 1, 1) := by decide +kernel
theorem x_207_5 : decode (q_code 207) 5 = .ok (.invokestatic 259, 3) := by decide +kernel
theorem x_207_8 : decode (q_code 207) 8 = .ok (.ifCond .eq 17, 3) := by decide +kernel
theorem x_207_11 : decode (q_code 207) 11 = .ok (.aload_n 0, 1) := by decide +kernel
theorem x_207_12 : decode (q_code 207) 12 = .ok (.getfield 16, 3) := by decide +kernel
theorem x_207_15 : decode (q_code 207) 15 = .ok (.iload_n 1, 1) := by decide +kernel
theorem x_207_16 : decode (q_code 207) 16 = .ok (.ldc_w 263, 3) := by decide +kernel
theorem x_207_19 : decode (q_code 207) 19 = .ok (.invokestatic 246, 3) := by decide +kernel
theorem x_207_22 : decode (q_code 207) 22 = .ok (.ifCond .ne 5, 3) := by decide +kernel
theorem x_207_25 : decode (q_code 207) 25 = .ok (.iconst 0, 1) := by decide +kernel
theorem x_207_26 : decode (q_code 207) 26 = .ok (.ireturn, 1) := by decide +kernel
theorem x_207_27 : decode (q_code 207) 27 = .ok (.aload_n 0, 1) := by decide +kernel
theorem x_207_28 : decode (q_code 207) 28 = .ok (.getfield 16, 3) := by decide +kernel
theorem x_207_31 : decode (q_code 207) 31 = .ok (.iload_n 1, 1) := by decide +kernel
theorem x_207_32 : decode (q_code 207) 32 = .ok (.invokestatic 229, 3) := by decide +kernel
theorem x_207_35 : decode (q_code 207) 35 = .ok (.lstore_n 2, 1) := by decide +kernel
theorem x_207_36 : decode (q_code 207) 36 = .ok (.lload_n 2, 1) := by decide +kernel
theorem x_207_37 : decode (q_code 207) 37 = .ok (.lconst 0, 1) := by decide +kernel
theorem x_207_38 : decode (q_code 207) 38 = .ok (.lcmp, 1) := by decide +kernel
theorem x_207_39 : decode (q_code 207) 39 = .ok (.ifCond .eq 9, 3) := by decide +kernel
theorem x_207_42 : decode (q_code 207) 42 = .ok (.lload_n 2, 1) := by decide +kernel
theorem x_207_43 : decode (q_code 207) 43 = .ok (.lconst 1, 1) := by decide +kernel
theorem x_207_44 : decode (q_code 207) 44 = .ok (.lcmp, 1) := by decide +kernel
theorem x_207_45 : decode (q_code 207) 45 = .ok (.ifCond .ne 7, 3) := by decide +kernel
theorem x_207_48 : decode (q_code 207) 48 = .ok (.iconst 1, 1) := by decide +kernel
theorem x_207_49 : decode (q_code 207) 49 = .ok (.goto 4, 3) := by decide +kernel
theorem x_207_52 : decode (q_code 207) 52 = .ok (.iconst 0, 1) := by decide +kernel
theorem x_207_53 : decode (q_code 207) 53 = .ok (.ireturn, 1) := by decide +kernel
theorem x_208_0 : decode (q_code 208) 0 = .ok (.aload_n 0, 1) := by decide +kernel
theorem x_208_1 : decode (q_code 208) 1 = .ok (.getfield 16, 3) := by decide +kernel
theorem x_208_4 : decode (q_code 208) 4 = .ok (.aload_n 0, 1) := by decide +kernel
theorem x_208_5 : decode (q_code 208) 5 = .ok (.getfield 213, 3) := by decide +kernel
theorem x_208_8 : decode (q_code 208) 8 = .ok (.invokestatic 242, 3) := by decide +kernel
theorem x_208_11 : decode (q_code 208) 11 = .ok (.istore_n 1, 1) := by decide +kernel
theorem x_208_12 : decode (q_code 208) 12 = .ok (.aload_n 0, 1) := by decide +kernel
theorem x_208_13 : decode (q_code 208) 13 = .ok (.getfield 135, 3) := by decide +kernel
theorem x_208_16 : decode (q_code 208) 16 = .ok (.tableswitch 69 6 10 #[64, 36, 59, 69, 36], 36) := by decide +kernel
theorem x_208_52 : decode (q_code 208) 52 = .ok (.aload_n 0, 1) := by decide +kernel
theorem x_208_53 : decode (q_code 208) 53 = .ok (.getfield 16, 3) := by decide +kernel
theorem x_208_56 : decode (q_code 208) 56 = .ok (.aload_n 0, 1) := by decide +kernel
theorem x_208_57 : decode (q_code 208) 57 = .ok (.getfield 213, 3) := by decide +kernel
theorem x_208_60 : decode (q_code 208) 60 = .ok (.invokestatic 259, 3) := by decide +kernel
theorem x_208_63 : decode (q_code 208) 63 = .ok (.ifCond .eq 7, 3) := by decide +kernel
theorem x_208_66 : decode (q_code 208) 66 = .ok (.iconst (-1), 1) := by decide +kernel
theorem x_208_67 : decode (q_code 208) 67 = .ok (.goto 7, 3) := by decide +kernel
theorem x_208_70 : decode (q_code 208) 70 = .ok (.aload_n 0, 1) := by decide +kernel
theorem x_208_71 : decode (q_code 208) 71 = .ok (.getfield 213, 3) := by decide +kernel
theorem x_208_74 : decode (q_code 208) 74 = .ok (.ireturn, 1) := by decide +kernel
theorem x_208_75 : decode (q_code 208) 75 = .ok (.aload_n 0, 1) := by decide +kernel
theorem x_208_76 : decode (q_code 208) 76 = .ok (.invokevirtual 264, 3) := by decide +kernel
theorem x_208_79 : decode (q_code 208) 79 = .ok (.ireturn, 1) := by decide +kernel
theorem x_208_80 : decode (q_code 208) 80 = .ok (.aload_n 0, 1) := by decide +kernel
theorem x_208_81 : decode (q_code 208) 81 = .ok (.invokevirtual 267, 3) := by decide +kernel
theorem x_208_84 : decode (q_code 208) 84 = .ok (.ireturn, 1) := by decide +kernel
theorem x_208_85 : decode (q_code 208) 85 = .ok (.iload_n 1, 1) := by decide +kernel
theorem x_208_86 : decode (q_code 208) 86 = .ok (.iconst 3, 1) := by decide +kernel
theorem x_208_87 : decode (q_code 208) 87 = .ok (.if_icmp .ne 7, 3) := by decide +kernel
theorem x_208_90 : decode (q_code 208) 90 = .ok (.iconst (-1), 1) := by decide +kernel
theorem x_208_91 : decode (q_code 208) 91 = .ok (.goto 7, 3) := by decide +kernel
theorem x_208_94 : decode (q_code 208) 94 = .ok (.aload_n 0, 1) := by decide +kernel
theorem x_208_95 : decode (q_code 208) 95 = .ok (.getfield 213, 3) := by decide +kernel
theorem x_208_98 : decode (q_code 208) 98 = .ok (.ireturn, 1) := by decide +kernel
theorem x_209_0 : decode (q_code 209) 0 = .ok (.aload_n 0, 1) := by decide +kernel
theorem x_209_1 : decode (q_code 209) 1 = .ok (.getfield 16, 3) := by decide +kernel
theorem x_209_4 : decode (q_code 209) 4 = .ok (.aload_n 0, 1) := by decide +kernel
theorem x_209_5 : decode (q_code 209) 5 = .ok (.getfield 213, 3) := by decide +kernel
theorem x_209_8 : decode (q_code 209) 8 = .ok (.invokestatic 242, 3) := by decide +kernel
theorem x_209_11 : decode (q_code 209) 11 = .ok (.iconst 4, 1) := by decide +kernel
theorem x_209_12 : decode (q_code 209) 12 = .ok (.if_icmp .eq 8, 3) := by decide +kernel
theorem x_209_15 : decode (q_code 209) 15 = .ok (.aload_n 0, 1) := by decide +kernel
theorem x_209_16 : decode (q_code 209) 16 = .ok (.getfield 213, 3) := by decide +kernel
theorem x_209_19 : decode (q_code 209) 19 = .ok (.ireturn, 1) := by decide +kernel
theorem x_209_20 : decode (q_code 209) 20 = .ok (.aload_n 0, 1) := by decide +kernel
theorem x_209_21 : decode (q_code 209) 21 = .ok (.getfield 16, 3) := by decide +kernel
theorem x_209_24 : decode (q_code 209) 24 = .ok (.aload_n 0, 1) := by decide +kernel
theorem x_209_25 : decode (q_code 209) 25 = .ok (.getfield 213, 3) := by decide +kernel
theorem x_209_28 : decode (q_code 209) 28 = .ok (.invokestatic 210, 3) := by decide +kernel
theorem x_209_31 : decode (q_code 209) 31 = .ok (.istore_n 1, 1) := by decide +kernel
theorem x_209_32 : decode (q_code 209) 32 = .ok (.iconst 0, 1) := by decide +kernel
theorem x_209_33 : decode (q_code 209) 33 = .ok (.istore_n 2, 1) := by decide +kernel
theorem x_209_34 : decode (q_code 209) 34 = .ok (.iload_n 2, 1) := by decide +kernel
theorem x_209_35 : decode (q_code 209) 35 = .ok (.ldc_w 270, 3) := by decide +kernel
theorem x_209_38 : decode (q_code 209) 38 = .ok (.if_icmp .ge 43, 3) := by decide +kernel
theorem x_209_41 : decode (q_code 209) 41 = .ok (.aload_n 0, 1) := by decide +kernel
theorem x_209_42 : decode (q_code 209) 42 = .ok (.getfield 16, 3) := by decide +kernel
theorem x_209_45 : decode (q_code 209) 45 = .ok (.iload_n 1, 1) := by decide +kernel
theorem x_209_46 : decode (q_code 209) 46 = .ok (.invokestatic 242, 3) := by decide +kernel
theorem x_209_49 : decode (q_code 209) 49 = .ok (.ifCond .eq 32, 3) := by decide +kernel
theorem x_209_52 : decode (q_code 209) 52 = .ok (.aload_n 0, 1) := by decide +kernel
theorem x_209_53 : decode (q_code 209) 53 = .ok (.getfield 16, 3) := by decide +kernel
theorem x_209_56 : decode (q_code 209) 56 = .ok (.iload_n 1, 1) := by decide +kernel
theorem x_209_57 : decode (q_code 209) 57 = .ok (.invokestatic 242, 3) := by decide +kernel
theorem x_209_60 : decode (q_code 209) 60 = .ok (.iconst 3, 1) := by decide +kernel
theorem x_209_61 : decode (q_code 209) 61 = .ok (.if_icmp .eq 5, 3) := by decide +kernel
theorem x_209_64 : decode (q_code 209) 64 = .ok (.iload_n 1, 1) := by decide +kernel
theorem x_209_65 : decode (q_code 209) 65 = .ok (.ireturn, 1) := by decide +kernel
theorem x_209_66 : decode (q_code 209) 66 = .ok (.aload_n 0, 1) := by decide +kernel
theorem x_209_67 : decode (q_code 209) 67 = .ok (.getfield 16, 3) := by decide +kernel
theorem x_209_70 : decode (q_code 209) 70 = .ok (.iload_n 1, 1) := by decide +kernel
theorem x_209_71 : decode (q_code 209) 71 = .ok (.invokestatic 223, 3) := by decide +kernel
theorem x_209_74 : decode (q_code 209) 74 = .ok (.istore_n 1, 1) := by decide +kernel
theorem x_209_75 : decode (q_code 209) 75 = .ok (.iinc 2 1, 3) := by decide +kernel
theorem x_209_78 : decode (q_code 209) 78 = .ok (.goto (-44), 3) := by decide +kernel
theorem x_209_81 : decode (q_code 209) 81 = .ok (.iconst (-1), 1) := by decide +kernel
theorem x_209_82 : decode (q_code 209) 82 = .ok (.ireturn, 1) := by decide +kernel
theorem x_210_0 : decode (q_code 210) 0 = .ok (.aload_n 0, 1) := by decide +kernel
theorem x_210_1 : decode (q_code 210) 1 = .ok (.getfield 16, 3) := by decide +kernel
theorem x_210_4 : decode (q_code 210) 4 = .ok (.aload_n 0, 1) := by decide +kernel
theorem x_210_5 : decode (q_code 210) 5 = .ok (.getfield 213, 3) := by decide +kernel
theorem x_210_8 : decode (q_code 210) 8 = .ok (.invokestatic 210, 3) := by decide +kernel
theorem x_210_11 : decode (q_code 210) 11 = .ok (.istore_n 1, 1) := by decide +kernel
theorem x_210_12 : decode (q_code 210) 12 = .ok (.aload_n 0, 1) := by decide +kernel
theorem x_210_13 : decode (q_code 210) 13 = .ok (.getfield 16, 3) := by decide +kernel
theorem x_210_16 : decode (q_code 210) 16 = .ok (.aload_n 0, 1) := by decide +kernel
theorem x_210_17 : decode (q_code 210) 17 = .ok (.getfield 213, 3) := by decide +kernel
theorem x_210_20 : decode (q_code 210) 20 = .ok (.invokestatic 242, 3) := by decide +kernel
theorem x_210_23 : decode (q_code 210) 23 = .ok (.iconst 4, 1) := by decide +kernel
theorem x_210_24 : decode (q_code 210) 24 = .ok (.if_icmp .ne 14, 3) := by decide +kernel
theorem x_210_27 : decode (q_code 210) 27 = .ok (.aload_n 0, 1) := by decide +kernel
theorem x_210_28 : decode (q_code 210) 28 = .ok (.getfield 16, 3) := by decide +kernel
theorem x_210_31 : decode (q_code 210) 31 = .ok (.iload_n 1, 1) := by decide +kernel
theorem x_210_32 : decode (q_code 210) 32 = .ok (.invokestatic 242, 3) := by decide +kernel
theorem x_210_35 : decode (q_code 210) 35 = .ok (.ifCond .ne 8, 3) := by decide +kernel
theorem x_210_38 : decode (q_code 210) 38 = .ok (.aload_n 0, 1) := by decide +kernel
theorem x_210_39 : decode (q_code 210) 39 = .ok (.getfield 213, 3) := by decide +kernel
theorem x_210_42 : decode (q_code 210) 42 = .ok (.ireturn, 1) := by decide +kernel
theorem x_210_43 : decode (q_code 210) 43 = .ok (.aload_n 0, 1) := by decide +kernel
theorem x_210_44 : decode (q_code 210) 44 = .ok (.getfield 16, 3) := by decide +kernel
theorem x_210_47 : decode (q_code 210) 47 = .ok (.iload_n 1, 1) := by decide +kernel
theorem x_210_48 : decode (q_code 210) 48 = .ok (.invokestatic 242, 3) := by decide +kernel
theorem x_210_51 : decode (q_code 210) 51 = .ok (.iconst 2, 1) := by decide +kernel
theorem x_210_52 : decode (q_code 210) 52 = .ok (.if_icmp .ne 19, 3) := by decide +kernel
theorem x_210_55 : decode (q_code 210) 55 = .ok (.aload_n 0, 1) := by decide +kernel
theorem x_210_56 : decode (q_code 210) 56 = .ok (.getfield 70, 3) := by decide +kernel
theorem x_210_59 : decode (q_code 210) 59 = .ok (.aload_n 0, 1) := by decide +kernel
theorem x_210_60 : decode (q_code 210) 60 = .ok (.getfield 16, 3) := by decide +kernel
theorem x_210_63 : decode (q_code 210) 63 = .ok (.iload_n 1, 1) := by decide +kernel
theorem x_210_64 : decode (q_code 210) 64 = .ok (.iconst 0, 1) := by decide +kernel
theorem x_210_65 : decode (q_code 210) 65 = .ok (.invokevirtual 271, 3) := by decide +kernel
theorem x_210_68 : decode (q_code 210) 68 = .ok (.ifCond .ne 5, 3) := by decide +kernel
theorem x_210_71 : decode (q_code 210) 71 = .ok (.iload_n 1, 1) := by decide +kernel
theorem x_210_72 : decode (q_code 210) 72 = .ok (.ireturn, 1) := by decide +kernel
theorem x_210_73 : decode (q_code 210) 73 = .ok (.aload_n 0, 1) := by decide +kernel
theorem x_210_74 : decode (q_code 210) 74 = .ok (.getfield 16, 3) := by decide +kernel
theorem x_210_77 : decode (q_code 210) 77 = .ok (.iload_n 1, 1) := by decide +kernel
theorem x_210_78 : decode (q_code 210) 78 = .ok (.invokestatic 223, 3) := by decide +kernel
theorem x_210_81 : decode (q_code 210) 81 = .ok (.istore_n 2, 1) := by decide +kernel
theorem x_210_82 : decode (q_code 210) 82 = .ok (.aload_n 0, 1) := by decide +kernel
theorem x_210_83 : decode (q_code 210) 83 = .ok (.getfield 16, 3) := by decide +kernel
theorem x_210_86 : decode (q_code 210) 86 = .ok (.iload_n 2, 1) := by decide +kernel
theorem x_210_87 : decode (q_code 210) 87 = .ok (.invokestatic 242, 3) := by decide +kernel
theorem x_210_90 : decode (q_code 210) 90 = .ok (.ifCond .ne 5, 3) := by decide +kernel
theorem x_210_93 : decode (q_code 210) 93 = .ok (.iconst (-1), 1) := by decide +kernel
theorem x_210_94 : decode (q_code 210) 94 = .ok (.ireturn, 1) := by decide +kernel
theorem x_210_95 : decode (q_code 210) 95 = .ok (.aload_n 0, 1) := by decide +kernel
theorem x_210_96 : decode (q_code 210) 96 = .ok (.getfield 16, 3) := by decide +kernel
theorem x_210_99 : decode (q_code 210) 99 = .ok (.iload_n 2, 1) := by decide +kernel
theorem x_210_100 : decode (q_code 210) 100 = .ok (.invokestatic 242, 3) := by decide +kernel
theorem x_210_103 : decode (q_code 210) 103 = .ok (.iconst 2, 1) := by decide +kernel
theorem x_210_104 : decode (q_code 210) 104 = .ok (.if_icmp .ne 36, 3) := by decide +kernel
theorem x_210_107 : decode (q_code 210) 107 = .ok (.aload_n 0, 1) := by decide +kernel
theorem x_210_108 : decode (q_code 210) 108 = .ok (.getfield 74, 3) := by decide +kernel
theorem x_210_111 : decode (q_code 210) 111 = .ok (.aload_n 0, 1) := by decide +kernel
theorem x_210_112 : decode (q_code 210) 112 = .ok (.getfield 16, 3) := by decide +kernel
theorem x_210_115 : decode (q_code 210) 115 = .ok (.iload_n 2, 1) := by decide +kernel
theorem x_210_116 : decode (q_code 210) 116 = .ok (.iconst 0, 1) := by decide +kernel
theorem x_210_117 : decode (q_code 210) 117 = .ok (.invokevirtual 271, 3) := by decide +kernel
theorem x_210_120 : decode (q_code 210) 120 = .ok (.ifCond .eq 20, 3) := by decide +kernel
theorem x_210_123 : decode (q_code 210) 123 = .ok (.aload_n 0, 1) := by decide +kernel
theorem x_210_124 : decode (q_code 210) 124 = .ok (.getfield 16, 3) := by decide +kernel
theorem x_210_127 : decode (q_code 210) 127 = .ok (.iload_n 1, 1) := by decide +kernel
theorem x_210_128 : decode (q_code 210) 128 = .ok (.aload_n 0, 1) := by decide +kernel
theorem x_210_129 : decode (q_code 210) 129 = .ok (.getfield 16, 3) := by decide +kernel
theorem x_210_132 : decode (q_code 210) 132 = .ok (.iload_n 2, 1) := by decide +kernel
theorem x_210_133 : decode (q_code 210) 133 = .ok (.iconst 0, 1) := by decide +kernel
theorem x_210_134 : decode (q_code 210) 134 = .ok (.invokestatic 275, 3) := by decide +kernel
theorem x_210_137 : decode (q_code 210) 137 = .ok (.ifCond .ne 5, 3) := by decide +kernel
theorem x_210_140 : decode (q_code 210) 140 = .ok (.iload_n 2, 1) := by decide +kernel
theorem x_210_141 : decode (q_code 210) 141 = .ok (.ireturn, 1) := by decide +kernel
theorem x_210_142 : decode (q_code 210) 142 = .ok (.aload_n 0, 1) := by decide +kernel
theorem x_210_143 : decode (q_code 210) 143 = .ok (.getfield 16, 3) := by decide +kernel
theorem x_210_146 : decode (q_code 210) 146 = .ok (.iload_n 2, 1) := by decide +kernel
theorem x_210_147 : decode (q_code 210) 147 = .ok (.invokestatic 223, 3) := by decide +kernel
theorem x_210_150 : decode (q_code 210) 150 = .ok (.istore_n 3, 1) := by decide +kernel
theorem x_210_151 : decode (q_code 210) 151 = .ok (.aload_n 0, 1) := by decide +kernel
theorem x_210_152 : decode (q_code 210) 152 = .ok (.getfield 16, 3) := by decide +kernel
theorem x_210_155 : decode (q_code 210) 155 = .ok (.iload_n 3, 1) := by decide +kernel
theorem x_210_156 : decode (q_code 210) 156 = .ok (.invokestatic 242, 3) := by decide +kernel
theorem x_210_159 : decode (q_code 210) 159 = .ok (.ifCond .ne 7, 3) := by decide +kernel
theorem x_210_162 : decode (q_code 210) 162 = .ok (.iconst (-1), 1) := by decide +kernel
theorem x_210_163 : decode (q_code 210) 163 = .ok (.goto 4, 3) := by decide +kernel
theorem x_210_166 : decode (q_code 210) 166 = .ok (.iload_n 3, 1) := by decide +kernel
theorem x_210_167 : decode (q_code 210) 167 = .ok (.ireturn, 1) := by decide +kernel
theorem x_211_0 : decode (q_code 211) 0 = .ok (.aload_n 0, 1) := by decide +kernel
theorem x_211_1 : decode (q_code 211) 1 = .ok (.getfield 16, 3) := by decide +kernel
theorem x_211_4 : decode (q_code 211) 4 = .ok (.aload_n 0, 1) := by decide +kernel
theorem x_211_5 : decode (q_code 211) 5 = .ok (.getfield 233, 3) := by decide +kernel
theorem x_211_8 : decode (q_code 211) 8 = .ok (.invokestatic 242, 3) := by decide +kernel
theorem x_211_11 : decode (q_code 211) 11 = .ok (.iconst 3, 1) := by decide +kernel
theorem x_211_12 : decode (q_code 211) 12 = .ok (.if_icmp .ne 24, 3) := by decide +kernel
theorem x_211_15 : decode (q_code 211) 15 = .ok (.aload_n 0, 1) := by decide +kernel
theorem x_211_16 : decode (q_code 211) 16 = .ok (.getfield 16, 3) := by decide +kernel
theorem x_211_19 : decode (q_code 211) 19 = .ok (.aload_n 0, 1) := by decide +kernel
theorem x_211_20 : decode (q_code 211) 20 = .ok (.getfield 233, 3) := by decide +kernel
theorem x_211_23 : decode (q_code 211) 23 = .ok (.ldc_w 279, 3) := by decide +kernel
theorem x_211_26 : decode (q_code 211) 26 = .ok (.invokestatic 246, 3) := by decide +kernel
theorem x_211_29 : decode (q_code 211) 29 = .ok (.ifCond .eq 7, 3) := by decide +kernel
theorem x_211_32 : decode (q_code 211) 32 = .ok (.iconst (-1), 1) := by decide +kernel
theorem x_211_33 : decode (q_code 211) 33 = .ok (.goto 7, 3) := by decide +kernel
theorem x_211_36 : decode (q_code 211) 36 = .ok (.aload_n 0, 1) := by decide +kernel
theorem x_211_37 : decode (q_code 211) 37 = .ok (.getfield 233, 3) := by decide +kernel
theorem x_211_40 : decode (q_code 211) 40 = .ok (.ireturn, 1) := by decide +kernel
theorem x_212_0 : decode (q_code 212) 0 = .ok (.aload_n 0, 1) := by decide +kernel
theorem x_212_1 : decode (q_code 212) 1 = .ok (.getfield 16, 3) := by decide +kernel
theorem x_212_4 : decode (q_code 212) 4 = .ok (.aload_n 0, 1) := by decide +kernel
theorem x_212_5 : decode (q_code 212) 5 = .ok (.getfield 233, 3) := by decide +kernel
theorem x_212_8 : decode (q_code 212) 8 = .ok (.invokestatic 242, 3) := by decide +kernel
theorem x_212_11 : decode (q_code 212) 11 = .ok (.iconst 4, 1) := by decide +kernel
theorem x_212_12 : decode (q_code 212) 12 = .ok (.if_icmp .ne 45, 3) := by decide +kernel
theorem x_212_15 : decode (q_code 212) 15 = .ok (.aload_n 0, 1) := by decide +kernel
theorem x_212_16 : decode (q_code 212) 16 = .ok (.getfield 16, 3) := by decide +kernel
theorem x_212_19 : decode (q_code 212) 19 = .ok (.aload_n 0, 1) := by decide +kernel
theorem x_212_20 : decode (q_code 212) 20 = .ok (.getfield 233, 3) := by decide +kernel
theorem x_212_23 : decode (q_code 212) 23 = .ok (.ldc_w 280, 3) := by decide +kernel
theorem x_212_26 : decode (q_code 212) 26 = .ok (.invokestatic 246, 3) := by decide +kernel
theorem x_212_29 : decode (q_code 212) 29 = .ok (.ifCond .eq 28, 3) := by decide +kernel
theorem x_212_32 : decode (q_code 212) 32 = .ok (.aload_n 0, 1) := by decide +kernel
theorem x_212_33 : decode (q_code 212) 33 = .ok (.getfield 16, 3) := by decide +kernel
theorem x_212_36 : decode (q_code 212) 36 = .ok (.aload_n 0, 1) := by decide +kernel
theorem x_212_37 : decode (q_code 212) 37 = .ok (.getfield 233, 3) := by decide +kernel
theorem x_212_40 : decode (q_code 212) 40 = .ok (.invokestatic 282, 3) := by decide +kernel
theorem x_212_43 : decode (q_code 212) 43 = .ok (.aload_n 0, 1) := by decide +kernel
theorem x_212_44 : decode (q_code 212) 44 = .ok (.getfield 16, 3) := by decide +kernel
theorem x_212_47 : decode (q_code 212) 47 = .ok (.aload_n 0, 1) := by decide +kernel
theorem x_212_48 : decode (q_code 212) 48 = .ok (.getfield 213, 3) := by decide +kernel
theorem x_212_51 : decode (q_code 212) 51 = .ok (.invokestatic 282, 3) := by decide +kernel
theorem x_212_54 : decode (q_code 212) 54 = .ok (.if_icmp .eq 8, 3) := by decide +kernel
theorem x_212_57 : decode (q_code 212) 57 = .ok (.aload_n 0, 1) := by decide +kernel
theorem x_212_58 : decode (q_code 212) 58 = .ok (.getfield 233, 3) := by decide +kernel
theorem x_212_61 : decode (q_code 212) 61 = .ok (.ireturn, 1) := by decide +kernel
theorem x_212_62 : decode (q_code 212) 62 = .ok (.aload_n 0, 1) := by decide +kernel
theorem x_212_63 : decode (q_code 212) 63 = .ok (.getfield 16, 3) := by decide +kernel
theorem x_212_66 : decode (q_code 212) 66 = .ok (.aload_n 0, 1) := by decide +kernel
theorem x_212_67 : decode (q_code 212) 67 = .ok (.getfield 233, 3) := by decide +kernel
theorem x_212_70 : decode (q_code 212) 70 = .ok (.invokestatic 210, 3) := by decide +kernel
theorem x_212_73 : decode (q_code 212) 73 = .ok (.istore_n 1, 1) := by decide +kernel
theorem x_212_74 : decode (q_code 212) 74 = .ok (.iconst 0, 1) := by decide +kernel
theorem x_212_75 : decode (q_code 212) 75 = .ok (.istore_n 2, 1) := by decide +kernel
theorem x_212_76 : decode (q_code 212) 76 = .ok (.iload_n 2, 1) := by decide +kernel
theorem x_212_77 : decode (q_code 212) 77 = .ok (.ldc_w 270, 3) := by decide +kernel
theorem x_212_80 : decode (q_code 212) 80 = .ok (.if_icmp .ge 44, 3) := by decide +kernel
theorem x_212_83 : decode (q_code 212) 83 = .ok (.aload_n 0, 1) := by decide +kernel
theorem x_212_84 : decode (q_code 212) 84 = .ok (.getfield 16, 3) := by decide +kernel
theorem x_212_87 : decode (q_code 212) 87 = .ok (.iload_n 1, 1) := by decide +kernel
theorem x_212_88 : decode (q_code 212) 88 = .ok (.invokestatic 242, 3) := by decide +kernel
theorem x_212_91 : decode (q_code 212) 91 = .ok (.ifCond .eq 33, 3) := by decide +kernel
theorem x_212_94 : decode (q_code 212) 94 = .ok (.aload_n 0, 1) := by decide +kernel
theorem x_212_95 : decode (q_code 212) 95 = .ok (.getfield 16, 3) := by decide +kernel
theorem x_212_98 : decode (q_code 212) 98 = .ok (.iload_n 1, 1) := by decide +kernel
theorem x_212_99 : decode (q_code 212) 99 = .ok (.invokestatic 242, 3) := by decide +kernel
theorem x_212_102 : decode (q_code 212) 102 = .ok (.bipush 8, 2) := by decide +kernel
theorem x_212_104 : decode (q_code 212) 104 = .ok (.if_icmp .eq 5, 3) := by decide +kernel
theorem x_212_107 : decode (q_code 212) 107 = .ok (.iload_n 1, 1) := by decide +kernel
theorem x_212_108 : decode (q_code 212) 108 = .ok (.ireturn, 1) := by decide +kernel
theorem x_212_109 : decode (q_code 212) 109 = .ok (.aload_n 0, 1) := by decide +kernel
theorem x_212_110 : decode (q_code 212) 110 = .ok (.getfield 16, 3) := by decide +kernel
theorem x_212_113 : decode (q_code 212) 113 = .ok (.iload_n 1, 1) := by decide +kernel
theorem x_212_114 : decode (q_code 212) 114 = .ok (.invokestatic 223, 3) := by decide +kernel
theorem x_212_117 : decode (q_code 212) 117 = .ok (.istore_n 1, 1) := by decide +kernel
theorem x_212_118 : decode (q_code 212) 118 = .ok (.iinc 2 1, 3) := by decide +kernel
theorem x_212_121 : decode (q_code 212) 121 = .ok (.goto (-45), 3) := by decide +kernel
theorem x_212_124 : decode (q_code 212) 124 = .ok (.iconst (-1), 1) := by decide +kernel
theorem x_212_125 : decode (q_code 212) 125 = .ok (.ireturn, 1) := by decide +kernel
theorem x_213_0 : decode (q_code 213) 0 = .ok (.aload_n 0, 1) := by decide +kernel
theorem x_213_1 : decode (q_code 213) 1 = .ok (.getfield 16, 3) := by decide +kernel
theorem x_213_4 : decode (q_code 213) 4 = .ok (.aload_n 0, 1) := by decide +kernel
theorem x_213_5 : decode (q_code 213) 5 = .ok (.getfield 213, 3) := by decide +kernel
theorem x_213_8 : decode (q_code 213) 8 = .ok (.invokestatic 223, 3) := by decide +kernel
theorem x_213_11 : decode (q_code 213) 11 = .ok (.aload_n 0, 1) := by decide +kernel
theorem x_213_12 : decode (q_code 213) 12 = .ok (.getfield 16, 3) := by decide +kernel
theorem x_213_15 : decode (q_code 213) 15 = .ok (.aload_n 0, 1) := by decide +kernel
theorem x_213_16 : decode (q_code 213) 16 = .ok (.getfield 213, 3) := by decide +kernel
theorem x_213_19 : decode (q_code 213) 19 = .ok (.invokestatic 285, 3) := by decide +kernel
theorem x_213_22 : decode (q_code 213) 22 = .ok (.isub, 1) := by decide +kernel
theorem x_213_23 : decode (q_code 213) 23 = .ok (.istore_n 1, 1) := by decide +kernel
theorem x_213_24 : decode (q_code 213) 24 = .ok (.aload_n 0, 1) := by decide +kernel
theorem x_213_25 : decode (q_code 213) 25 = .ok (.getfield 95, 3) := by decide +kernel
theorem x_213_28 : decode (q_code 213) 28 = .ok (.getfield 189, 3) := by decide +kernel
theorem x_213_31 : decode (q_code 213) 31 = .ok (.sipush 200, 3) := by decide +kernel
theorem x_213_34 : decode (q_code 213) 34 = .ok (.if_icmp .ge 22, 3) := by decide +kernel
theorem x_213_37 : decode (q_code 213) 37 = .ok (.aload_n 0, 1) := by decide +kernel
theorem x_213_38 : decode (q_code 213) 38 = .ok (.getfield 95, 3) := by decide +kernel
theorem x_213_41 : decode (q_code 213) 41 = .ok (.getfield 191, 3) := by decide +kernel
theorem x_213_44 : decode (q_code 213) 44 = .ok (.iload_n 1, 1) := by decide +kernel
theorem x_213_45 : decode (q_code 213) 45 = .ok (.iadd, 1) := by decide +kernel
theorem x_213_46 : decode (q_code 213) 46 = .ok (.ldc_w 288, 3) := by decide +kernel
theorem x_213_49 : decode (q_code 213) 49 = .ok (.if_icmp .gt 7, 3) := by decide +kernel
theorem x_213_52 : decode (q_code 213) 52 = .ok (.iconst 1, 1) := by decide +kernel
theorem x_213_53 : decode (q_code 213) 53 = .ok (.goto 4, 3) := by decide +kernel
theorem x_213_56 : decode (q_code 213) 56 = .ok (.iconst 0, 1) := by decide +kernel
theorem x_213_57 : decode (q_code 213) 57 = .ok (.istore_n 2, 1) := by decide +kernel
theorem x_213_58 : decode (q_code 213) 58 = .ok (.iconst 0, 1) := by decide +kernel
theorem x_213_59 : decode (q_code 213) 59 = .ok (.istore_n 3, 1) := by decide +kernel
theorem x_213_60 : decode (q_code 213) 60 = .ok (.iload_n 3, 1) := by decide +kernel
theorem x_213_61 : decode (q_code 213) 61 = .ok (.iconst 4, 1) := by decide +kernel
theorem x_213_62 : decode (q_code 213) 62 = .ok (.if_icmp .ge 30, 3) := by decide +kernel
theorem x_213_65 : decode (q_code 213) 65 = .ok (.iload_n 2, 1) := by decide +kernel
theorem x_213_66 : decode (q_code 213) 66 = .ok (.ifCond .eq 26, 3) := by decide +kernel
theorem x_213_69 : decode (q_code 213) 69 = .ok (.aload_n 0, 1) := by decide +kernel
theorem x_213_70 : decode (q_code 213) 70 = .ok (.getfield 95, 3) := by decide +kernel
theorem x_213_73 : decode (q_code 213) 73 = .ok (.getfield 289, 3) := by decide +kernel
theorem x_213_76 : decode (q_code 213) 76 = .ok (.iload_n 3, 1) := by decide +kernel
theorem x_213_77 : decode (q_code 213) 77 = .ok (.aaload, 1) := by decide +kernel
theorem x_213_78 : decode (q_code 213) 78 = .ok (.aload_n 0, 1) := by decide +kernel
theorem x_213_79 : decode (q_code 213) 79 = .ok (.getfield 213, 3) := by decide +kernel
theorem x_213_82 : decode (q_code 213) 82 = .ok (.invokevirtual 293, 3) := by decide +kernel
theorem x_213_85 : decode (q_code 213) 85 = .ok (.istore_n 2, 1) := by decide +kernel
theorem x_213_86 : decode (q_code 213) 86 = .ok (.iinc 3 1, 3) := by decide +kernel
theorem x_213_89 : decode (q_code 213) 89 = .ok (.goto (-29), 3) := by decide +kernel
theorem x_213_92 : decode (q_code 213) 92 = .ok (.iload_n 2, 1) := by decide +kernel
theorem x_213_93 : decode (q_code 213) 93 = .ok (.ifCond .ne 11, 3) := by decide +kernel
theorem x_213_96 : decode (q_code 213) 96 = .ok (.aload_n 0, 1) := by decide +kernel
theorem x_213_97 : decode (q_code 213) 97 = .ok (.bipush 40, 2) := by decide +kernel
theorem x_213_99 : decode (q_code 213) 99 = .ok (.iconst (-1), 1) := by decide +kernel
theorem x_213_100 : decode (q_code 213) 100 = .ok (.invokevirtual 126, 3) := by decide +kernel
theorem x_213_103 : decode (q_code 213) 103 = .ok (.return_, 1) := by decide +kernel
theorem x_213_104 : decode (q_code 213) 104 = .ok (.aload_n 0, 1) := by decide +kernel
theorem x_213_105 : decode (q_code 213) 105 = .ok (.getfield 95, 3) := by decide +kernel
theorem x_213_108 : decode (q_code 213) 108 = .ok (.aload_n 0, 1) := by decide +kernel
theorem x_213_109 : decode (q_code 213) 109 = .ok (.getfield 213, 3) := by decide +kernel
theorem x_213_112 : decode (q_code 213) 112 = .ok (.invokevirtual 298, 3) := by decide +kernel
theorem x_213_115 : decode (q_code 213) 115 = .ok (.istore_n 3, 1) := by decide +kernel
theorem x_213_116 : decode (q_code 213) 116 = .ok (.iconst 0, 1) := by decide +kernel
theorem x_213_117 : decode (q_code 213) 117 = .ok (.istore 4, 2) := by decide +kernel
theorem x_213_119 : decode (q_code 213) 119 = .ok (.iload 4, 2) := by decide +kernel
theorem x_213_121 : decode (q_code 213) 121 = .ok (.aload_n 0, 1) := by decide +kernel
theorem x_213_122 : decode (q_code 213) 122 = .ok (.getfield 95, 3) := by decide +kernel
theorem x_213_125 : decode (q_code 213) 125 = .ok (.getfield 189, 3) := by decide +kernel
theorem x_213_128 : decode (q_code 213) 128 = .ok (.if_icmp .ge 27, 3) := by decide +kernel
theorem x_213_131 : decode (q_code 213) 131 = .ok (.aload_n 0, 1) := by decide +kernel
theorem x_213_132 : decode (q_code 213) 132 = .ok (.getfield 87, 3) := by decide +kernel
theorem x_213_135 : decode (q_code 213) 135 = .ok (.iload 4, 2) := by decide +kernel
theorem x_213_137 : decode (q_code 213) 137 = .ok (.iload 4, 2) := by decide +kernel
theorem x_213_139 : decode (q_code 213) 139 = .ok (.iload_n 3, 1) := by decide +kernel
theorem x_213_140 : decode (q_code 213) 140 = .ok (.if_icmp .ne 7, 3) := by decide +kernel
theorem x_213_143 : decode (q_code 213) 143 = .ok (.iconst 1, 1) := by decide +kernel
theorem x_213_144 : decode (q_code 213) 144 = .ok (.goto 4, 3) := by decide +kernel
theorem x_213_147 : decode (q_code 213) 147 = .ok (.iconst 0, 1) := by decide +kernel
theorem x_213_148 : decode (q_code 213) 148 = .ok (.bastore, 1) := by decide +kernel
theorem x_213_149 : decode (q_code 213) 149 = .ok (.iinc 4 1, 3) := by decide +kernel
theorem x_213_152 : decode (q_code 213) 152 = .ok (.goto (-33), 3) := by decide +kernel
theorem x_213_155 : decode (q_code 213) 155 = .ok (.iconst 0, 1) := by decide +kernel
theorem x_213_156 : decode (q_code 213) 156 = .ok (.istore 4, 2) := by decide +kernel
theorem x_213_158 : decode (q_code 213) 158 = .ok (.iload 4, 2) := by decide +kernel
theorem x_213_160 : decode (q_code 213) 160 = .ok (.iconst 4, 1) := by decide +kernel
theorem x_213_161 : decode (q_code 213) 161 = .ok (.if_icmp .ge 30, 3) := by decide +kernel
theorem x_213_164 : decode (q_code 213) 164 = .ok (.aload_n 0, 1) := by decide +kernel
theorem x_213_165 : decode (q_code 213) 165 = .ok (.getfield 95, 3) := by decide +kernel
theorem x_213_168 : decode (q_code 213) 168 = .ok (.getfield 289, 3) := by decide +kernel
theorem x_213_171 : decode (q_code 213) 171 = .ok (.iload 4, 2) := by decide +kernel
theorem x_213_173 : decode (q_code 213) 173 = .ok (.aaload, 1) := by decide +kernel
theorem x_213_174 : decode (q_code 213) 174 = .ok (.aload_n 0, 1) := by decide +kernel
theorem x_213_175 : decode (q_code 213) 175 = .ok (.getfield 95, 3) := by decide +kernel
theorem x_213_178 : decode (q_code 213) 178 = .ok (.aload_n 0, 1) := by decide +kernel
theorem x_213_179 : decode (q_code 213) 179 = .ok (.getfield 87, 3) := by decide +kernel
theorem x_213_182 : decode (q_code 213) 182 = .ok (.invokevirtual 301, 3) := by decide +kernel
theorem x_213_185 : decode (q_code 213) 185 = .ok (.iinc 4 1, 3) := by decide +kernel
theorem x_213_188 : decode (q_code 213) 188 = .ok (.goto (-30), 3) := by decide +kernel
theorem x_213_191 : decode (q_code 213) 191 = .ok (.aload_n 0, 1) := by decide +kernel
theorem x_213_192 : decode (q_code 213) 192 = .ok (.getfield 24, 3) := by decide +kernel
theorem x_213_195 : decode (q_code 213) 195 = .ok (.ldc_w 305, 3) := by decide +kernel
theorem x_213_198 : decode (q_code 213) 198 = .ok (.aload_n 0, 1) := by decide +kernel
theorem x_213_199 : decode (q_code 213) 199 = .ok (.getfield 95, 3) := by decide +kernel
theorem x_213_202 : decode (q_code 213) 202 = .ok (.getfield 201, 3) := by decide +kernel
theorem x_213_205 : decode (q_code 213) 205 = .ok (.iload_n 3, 1) := by decide +kernel
theorem x_213_206 : decode (q_code 213) 206 = .ok (.iaload, 1) := by decide +kernel
theorem x_213_207 : decode (q_code 213) 207 = .ok (.invokevirtual 182, 3) := by decide +kernel
theorem x_213_210 : decode (q_code 213) 210 = .ok (.return_, 1) := by decide +kernel
theorem x_214_0 : decode (q_code 214) 0 = .ok (.aload_n 0, 1) := by decide +kernel
theorem x_214_1 : decode (q_code 214) 1 = .ok (.getfield 42, 3) := by decide +kernel
theorem x_214_4 : decode (q_code 214) 4 = .ok (.aload_n 0, 1) := by decide +kernel
theorem x_214_5 : decode (q_code 214) 5 = .ok (.getfield 213, 3) := by decide +kernel
theorem x_214_8 : decode (q_code 214) 8 = .ok (.invokevirtual 307, 3) := by decide +kernel
theorem x_214_11 : decode (q_code 214) 11 = .ok (.ifCond .ne 26, 3) := by decide +kernel
theorem x_214_14 : decode (q_code 214) 14 = .ok (.aload_n 0, 1) := by decide +kernel
theorem x_214_15 : decode (q_code 214) 15 = .ok (.bipush 10, 2) := by decide +kernel
theorem x_214_17 : decode (q_code 214) 17 = .ok (.aload_n 0, 1) := by decide +kernel
theorem x_214_18 : decode (q_code 214) 18 = .ok (.getfield 42, 3) := by decide +kernel
theorem x_214_21 : decode (q_code 214) 21 = .ok (.getfield 310, 3) := by decide +kernel
theorem x_214_24 : decode (q_code 214) 24 = .ok (.iadd, 1) := by decide +kernel
theorem x_214_25 : decode (q_code 214) 25 = .ok (.aload_n 0, 1) := by decide +kernel
theorem x_214_26 : decode (q_code 214) 26 = .ok (.getfield 42, 3) := by decide +kernel
theorem x_214_29 : decode (q_code 214) 29 = .ok (.getfield 311, 3) := by decide +kernel
theorem x_214_32 : decode (q_code 214) 32 = .ok (.invokevirtual 132, 3) := by decide +kernel
theorem x_214_35 : decode (q_code 214) 35 = .ok (.iconst (-1), 1) := by decide +kernel
theorem x_214_36 : decode (q_code 214) 36 = .ok (.ireturn, 1) := by decide +kernel
theorem x_214_37 : decode (q_code 214) 37 = .ok (.iconst 0, 1) := by decide +kernel
theorem x_214_38 : decode (q_code 214) 38 = .ok (.istore_n 1, 1) := by decide +kernel
theorem x_214_39 : decode (q_code 214) 39 = .ok (.iconst 0, 1) := by decide +kernel
theorem x_214_40 : decode (q_code 214) 40 = .ok (.istore_n 2, 1) := by decide +kernel
theorem x_214_41 : decode (q_code 214) 41 = .ok (.iload_n 2, 1) := by decide +kernel
theorem x_214_42 : decode (q_code 214) 42 = .ok (.aload_n 0, 1) := by decide +kernel
theorem x_214_43 : decode (q_code 214) 43 = .ok (.getfield 95, 3) := by decide +kernel
theorem x_214_46 : decode (q_code 214) 46 = .ok (.getfield 189, 3) := by decide +kernel
theorem x_214_49 : decode (q_code 214) 49 = .ok (.if_icmp .ge 53, 3) := by decide +kernel
theorem x_214_52 : decode (q_code 214) 52 = .ok (.aload_n 0, 1) := by decide +kernel
theorem x_214_53 : decode (q_code 214) 53 = .ok (.getfield 87, 3) := by decide +kernel
theorem x_214_56 : decode (q_code 214) 56 = .ok (.iload_n 2, 1) := by decide +kernel
theorem x_214_57 : decode (q_code 214) 57 = .ok (.aload_n 0, 1) := by decide +kernel
theorem x_214_58 : decode (q_code 214) 58 = .ok (.getfield 42, 3) := by decide +kernel
theorem x_214_61 : decode (q_code 214) 61 = .ok (.aload_n 0, 1) := by decide +kernel
theorem x_214_62 : decode (q_code 214) 62 = .ok (.getfield 213, 3) := by decide +kernel
theorem x_214_65 : decode (q_code 214) 65 = .ok (.aload_n 0, 1) := by decide +kernel
theorem x_214_66 : decode (q_code 214) 66 = .ok (.getfield 95, 3) := by decide +kernel
theorem x_214_69 : decode (q_code 214) 69 = .ok (.getfield 204, 3) := by decide +kernel
theorem x_214_72 : decode (q_code 214) 72 = .ok (.iload_n 2, 1) := by decide +kernel
theorem x_214_73 : decode (q_code 214) 73 = .ok (.iaload, 1) := by decide +kernel
theorem x_214_74 : decode (q_code 214) 74 = .ok (.iconst 0, 1) := by decide +kernel
theorem x_214_75 : decode (q_code 214) 75 = .ok (.invokevirtual 312, 3) := by decide +kernel
theorem x_214_78 : decode (q_code 214) 78 = .ok (.bastore, 1) := by decide +kernel
theorem x_214_79 : decode (q_code 214) 79 = .ok (.iload_n 1, 1) := by decide +kernel
theorem x_214_80 : decode (q_code 214) 80 = .ok (.aload_n 0, 1) := by decide +kernel
theorem x_214_81 : decode (q_code 214) 81 = .ok (.getfield 87, 3) := by decide +kernel
theorem x_214_84 : decode (q_code 214) 84 = .ok (.iload_n 2, 1) := by decide +kernel
theorem x_214_85 : decode (q_code 214) 85 = .ok (.baload, 1) := by decide +kernel
theorem x_214_86 : decode (q_code 214) 86 = .ok (.ifCond .eq 7, 3) := by decide +kernel
theorem x_214_89 : decode (q_code 214) 89 = .ok (.iconst 1, 1) := by decide +kernel
theorem x_214_90 : decode (q_code 214) 90 = .ok (.goto 4, 3) := by decide +kernel
theorem x_214_93 : decode (q_code 214) 93 = .ok (.iconst 0, 1) := by decide +kernel
theorem x_214_94 : decode (q_code 214) 94 = .ok (.iadd, 1) := by decide +kernel
theorem x_214_95 : decode (q_code 214) 95 = .ok (.istore_n 1, 1) := by decide +kernel
theorem x_214_96 : decode (q_code 214) 96 = .ok (.iinc 2 1, 3) := by decide +kernel
theorem x_214_99 : decode (q_code 214) 99 = .ok (.goto (-58), 3) := by decide +kernel
theorem x_214_102 : decode (q_code 214) 102 = .ok (.iload_n 1, 1) := by decide +kernel
theorem x_214_103 : decode (q_code 214) 103 = .ok (.ireturn, 1) := by decide +kernel
theorem x_215_0 : decode (q_code 215) 0 = .ok (.aload_n 0, 1) := by decide +kernel
theorem x_215_1 : decode (q_code 215) 1 = .ok (.invokevirtual 316, 3) := by decide +kernel
theorem x_215_4 : decode (q_code 215) 4 = .ok (.istore_n 1, 1) := by decide +kernel
theorem x_215_5 : decode (q_code 215) 5 = .ok (.iload_n 1, 1) := by decide +kernel
theorem x_215_6 : decode (q_code 215) 6 = .ok (.ifCond .ge 4, 3) := by decide +kernel
theorem x_215_9 : decode (q_code 215) 9 = .ok (.return_, 1) := by decide +kernel
theorem x_215_10 : decode (q_code 215) 10 = .ok (.aload_n 0, 1) := by decide +kernel
theorem x_215_11 : decode (q_code 215) 11 = .ok (.getfield 24, 3) := by decide +kernel
theorem x_215_14 : decode (q_code 215) 14 = .ok (.ldc_w 319, 3) := by decide +kernel
theorem x_215_17 : decode (q_code 215) 17 = .ok (.iload_n 1, 1) := by decide +kernel
theorem x_215_18 : decode (q_code 215) 18 = .ok (.invokevirtual 182, 3) := by decide +kernel
theorem x_215_21 : decode (q_code 215) 21 = .ok (.aload_n 0, 1) := by decide +kernel
theorem x_215_22 : decode (q_code 215) 22 = .ok (.getfield 24, 3) := by decide +kernel
theorem x_215_25 : decode (q_code 215) 25 = .ok (.iconst 4, 1) := by decide +kernel
theorem x_215_26 : decode (q_code 215) 26 = .ok (.ldc_w 321, 3) := by decide +kernel
theorem x_215_29 : decode (q_code 215) 29 = .ok (.invokevirtual 323, 3) := by decide +kernel
theorem x_215_32 : decode (q_code 215) 32 = .ok (.aload_n 0, 1) := by decide +kernel
theorem x_215_33 : decode (q_code 215) 33 = .ok (.getfield 24, 3) := by decide +kernel
theorem x_215_36 : decode (q_code 215) 36 = .ok (.invokevirtual 114, 3) := by decide +kernel
theorem x_215_39 : decode (q_code 215) 39 = .ok (.istore_n 2, 1) := by decide +kernel
theorem x_215_40 : decode (q_code 215) 40 = .ok (.iconst 0, 1) := by decide +kernel
theorem x_215_41 : decode (q_code 215) 41 = .ok (.istore_n 3, 1) := by decide +kernel
theorem x_215_42 : decode (q_code 215) 42 = .ok (.iconst 0, 1) := by decide +kernel
theorem x_215_43 : decode (q_code 215) 43 = .ok (.istore 4, 2) := by decide +kernel
theorem x_215_45 : decode (q_code 215) 45 = .ok (.iload 4, 2) := by decide +kernel
theorem x_215_47 : decode (q_code 215) 47 = .ok (.aload_n 0, 1) := by decide +kernel
theorem x_215_48 : decode (q_code 215) 48 = .ok (.getfield 95, 3) := by decide +kernel
theorem x_215_51 : decode (q_code 215) 51 = .ok (.getfield 189, 3) := by decide +kernel
theorem x_215_54 : decode (q_code 215) 54 = .ok (.if_icmp .ge 104, 3) := by decide +kernel
theorem x_215_57 : decode (q_code 215) 57 = .ok (.aload_n 0, 1) := by decide +kernel
theorem x_215_58 : decode (q_code 215) 58 = .ok (.getfield 87, 3) := by decide +kernel
theorem x_215_61 : decode (q_code 215) 61 = .ok (.iload 4, 2) := by decide +kernel
theorem x_215_63 : decode (q_code 215) 63 = .ok (.baload, 1) := by decide +kernel
theorem x_215_64 : decode (q_code 215) 64 = .ok (.ifCond .ne 6, 3) := by decide +kernel
theorem x_215_67 : decode (q_code 215) 67 = .ok (.goto 85, 3) := by decide +kernel
theorem x_215_70 : decode (q_code 215) 70 = .ok (.aload_n 0, 1) := by decide +kernel
theorem x_215_71 : decode (q_code 215) 71 = .ok (.getfield 24, 3) := by decide +kernel
theorem x_215_74 : decode (q_code 215) 74 = .ok (.iconst 3, 1) := by decide +kernel
theorem x_215_75 : decode (q_code 215) 75 = .ok (.iload_n 3, 1) := by decide +kernel
theorem x_215_76 : decode (q_code 215) 76 = .ok (.invokevirtual 326, 3) := by decide +kernel
theorem x_215_79 : decode (q_code 215) 79 = .ok (.aload_n 0, 1) := by decide +kernel
theorem x_215_80 : decode (q_code 215) 80 = .ok (.getfield 24, 3) := by decide +kernel
theorem x_215_83 : decode (q_code 215) 83 = .ok (.invokevirtual 114, 3) := by decide +kernel
theorem x_215_86 : decode (q_code 215) 86 = .ok (.istore 5, 2) := by decide +kernel
theorem x_215_88 : decode (q_code 215) 88 = .ok (.aload_n 0, 1) := by decide +kernel
theorem x_215_89 : decode (q_code 215) 89 = .ok (.getfield 24, 3) := by decide +kernel
theorem x_215_92 : decode (q_code 215) 92 = .ok (.ldc_w 305, 3) := by decide +kernel
theorem x_215_95 : decode (q_code 215) 95 = .ok (.aload_n 0, 1) := by decide +kernel
theorem x_215_96 : decode (q_code 215) 96 = .ok (.getfield 95, 3) := by decide +kernel
theorem x_215_99 : decode (q_code 215) 99 = .ok (.getfield 201, 3) := by decide +kernel
theorem x_215_102 : decode (q_code 215) 102 = .ok (.iload 4, 2) := by decide +kernel
theorem x_215_104 : decode (q_code 215) 104 = .ok (.iaload, 1) := by decide +kernel
theorem x_215_105 : decode (q_code 215) 105 = .ok (.invokevirtual 182, 3) := by decide +kernel
theorem x_215_108 : decode (q_code 215) 108 = .ok (.aload_n 0, 1) := by decide +kernel
theorem x_215_109 : decode (q_code 215) 109 = .ok (.getfield 24, 3) := by decide +kernel
theorem x_215_112 : decode (q_code 215) 112 = .ok (.iconst 3, 1) := by decide +kernel
theorem x_215_113 : decode (q_code 215) 113 = .ok (.ldc_w 329, 3) := by decide +kernel
theorem x_215_116 : decode (q_code 215) 116 = .ok (.invokevirtual 323, 3) := by decide +kernel
theorem x_215_119 : decode (q_code 215) 119 = .ok (.aload_n 0, 1) := by decide +kernel
theorem x_215_120 : decode (q_code 215) 120 = .ok (.getfield 24, 3) := by decide +kernel
theorem x_215_123 : decode (q_code 215) 123 = .ok (.aload_n 0, 1) := by decide +kernel
theorem x_215_124 : decode (q_code 215) 124 = .ok (.getfield 16, 3) := by decide +kernel
theorem x_215_127 : decode (q_code 215) 127 = .ok (.aload_n 0, 1) := by decide +kernel
theorem x_215_128 : decode (q_code 215) 128 = .ok (.getfield 95, 3) := by decide +kernel
theorem x_215_131 : decode (q_code 215) 131 = .ok (.getfield 204, 3) := by decide +kernel
theorem x_215_134 : decode (q_code 215) 134 = .ok (.iload 4, 2) := by decide +kernel
theorem x_215_136 : decode (q_code 215) 136 = .ok (.iaload, 1) := by decide +kernel
theorem x_215_137 : decode (q_code 215) 137 = .ok (.invokevirtual 331, 3) := by decide +kernel
theorem x_215_140 : decode (q_code 215) 140 = .ok (.aload_n 0, 1) := by decide +kernel
theorem x_215_141 : decode (q_code 215) 141 = .ok (.getfield 24, 3) := by decide +kernel
theorem x_215_144 : decode (q_code 215) 144 = .ok (.iload 5, 2) := by decide +kernel
theorem x_215_146 : decode (q_code 215) 146 = .ok (.invokevirtual 168, 3) := by decide +kernel
theorem x_215_149 : decode (q_code 215) 149 = .ok (.iinc 3 1, 3) := by decide +kernel
theorem x_215_152 : decode (q_code 215) 152 = .ok (.iinc 4 1, 3) := by decide +kernel
theorem x_215_155 : decode (q_code 215) 155 = .ok (.goto (-110), 3) := by decide +kernel
theorem x_215_158 : decode (q_code 215) 158 = .ok (.aload_n 0, 1) := by decide +kernel
theorem x_215_159 : decode (q_code 215) 159 = .ok (.getfield 24, 3) := by decide +kernel
theorem x_215_162 : decode (q_code 215) 162 = .ok (.iload_n 2, 1) := by decide +kernel
theorem x_215_163 : decode (q_code 215) 163 = .ok (.invokevirtual 168, 3) := by decide +kernel
theorem x_215_166 : decode (q_code 215) 166 = .ok (.return_, 1) := by decide +kernel
theorem x_216_0 : decode (q_code 216) 0 = .ok (.aload_n 0, 1) := by decide +kernel
theorem x_216_1 : decode (q_code 216) 1 = .ok (.invokevirtual 316, 3) := by decide +kernel
theorem x_216_4 : decode (q_code 216) 4 = .ok (.istore_n 1, 1) := by decide +kernel
theorem x_216_5 : decode (q_code 216) 5 = .ok (.iload_n 1, 1) := by decide +kernel
theorem x_216_6 : decode (q_code 216) 6 = .ok (.ifCond .lt 14, 3) := by decide +kernel
theorem x_216_9 : decode (q_code 216) 9 = .ok (.aload_n 0, 1) := by decide +kernel
theorem x_216_10 : decode (q_code 216) 10 = .ok (.getfield 24, 3) := by decide +kernel
theorem x_216_13 : decode (q_code 216) 13 = .ok (.ldc_w 319, 3) := by decide +kernel
theorem x_216_16 : decode (q_code 216) 16 = .ok (.iload_n 1, 1) := by decide +kernel
theorem x_216_17 : decode (q_code 216) 17 = .ok (.invokevirtual 182, 3) := by decide +kernel
theorem x_216_20 : decode (q_code 216) 20 = .ok (.return_, 1) := by decide +kernel
theorem x_217_0 : decode (q_code 217) 0 = .ok (.aload_n 0, 1) := by decide +kernel
theorem x_217_1 : decode (q_code 217) 1 = .ok (.invokevirtual 316, 3) := by decide +kernel
theorem x_217_4 : decode (q_code 217) 4 = .ok (.istore_n 1, 1) := by decide +kernel
theorem x_217_5 : decode (q_code 217) 5 = .ok (.iload_n 1, 1) := by decide +kernel
theorem x_217_6 : decode (q_code 217) 6 = .ok (.ifCond .ge 4, 3) := by decide +kernel
theorem x_217_9 : decode (q_code 217) 9 = .ok (.return_, 1) := by decide +kernel
theorem x_217_10 : decode (q_code 217) 10 = .ok (.iconst 0, 1) := by decide +kernel
theorem x_217_11 : decode (q_code 217) 11 = .ok (.istore_n 2, 1) := by decide +kernel
theorem x_217_12 : decode (q_code 217) 12 = .ok (.iload_n 2, 1) := by decide +kernel
theorem x_217_13 : decode (q_code 217) 13 = .ok (.iconst 4, 1) := by decide +kernel
theorem x_217_14 : decode (q_code 217) 14 = .ok (.if_icmp .ge 29, 3) := by decide +kernel
theorem x_217_17 : decode (q_code 217) 17 = .ok (.aload_n 0, 1) := by decide +kernel
theorem x_217_18 : decode (q_code 217) 18 = .ok (.getfield 95, 3) := by decide +kernel
theorem x_217_21 : decode (q_code 217) 21 = .ok (.getfield 289, 3) := by decide +kernel
theorem x_217_24 : decode (q_code 217) 24 = .ok (.iload_n 2, 1) := by decide +kernel
theorem x_217_25 : decode (q_code 217) 25 = .ok (.aaload, 1) := by decide +kernel
theorem x_217_26 : decode (q_code 217) 26 = .ok (.aload_n 0, 1) := by decide +kernel
theorem x_217_27 : decode (q_code 217) 27 = .ok (.getfield 95, 3) := by decide +kernel
theorem x_217_30 : decode (q_code 217) 30 = .ok (.aload_n 0, 1) := by decide +kernel
theorem x_217_31 : decode (q_code 217) 31 = .ok (.getfield 87, 3) := by decide +kernel
theorem x_217_34 : decode (q_code 217) 34 = .ok (.invokevirtual 335, 3) := by decide +kernel
theorem x_217_37 : decode (q_code 217) 37 = .ok (.iinc 2 1, 3) := by decide +kernel
theorem x_217_40 : decode (q_code 217) 40 = .ok (.goto (-28), 3) := by decide +kernel
theorem x_217_43 : decode (q_code 217) 43 = .ok (.aload_n 0, 1) := by decide +kernel
theorem x_217_44 : decode (q_code 217) 44 = .ok (.getfield 95, 3) := by decide +kernel
theorem x_217_47 : decode (q_code 217) 47 = .ok (.aload_n 0, 1) := by decide +kernel
theorem x_217_48 : decode (q_code 217) 48 = .ok (.getfield 87, 3) := by decide +kernel
theorem x_217_51 : decode (q_code 217) 51 = .ok (.invokevirtual 338, 3) := by decide +kernel
theorem x_217_54 : decode (q_code 217) 54 = .ok (.aload_n 0, 1) := by decide +kernel
theorem x_217_55 : decode (q_code 217) 55 = .ok (.getfield 24, 3) := by decide +kernel
theorem x_217_58 : decode (q_code 217) 58 = .ok (.ldc_w 319, 3) := by decide +kernel
theorem x_217_61 : decode (q_code 217) 61 = .ok (.iload_n 1, 1) := by decide +kernel
theorem x_217_62 : decode (q_code 217) 62 = .ok (.invokevirtual 182, 3) := by decide +kernel
theorem x_217_65 : decode (q_code 217) 65 = .ok (.return_, 1) := by decide +kernel
theorem x_218_0 : decode (q_code 218) 0 = .ok (.aload_n 0, 1) := by decide +kernel
theorem x_218_1 : decode (q_code 218) 1 = .ok (.invokevirtual 316, 3) := by decide +kernel
theorem x_218_4 : decode (q_code 218) 4 = .ok (.istore_n 1, 1) := by decide +kernel
theorem x_218_5 : decode (q_code 218) 5 = .ok (.iload_n 1, 1) := by decide +kernel
theorem x_218_6 : decode (q_code 218) 6 = .ok (.ifCond .ge 4, 3) := by decide +kernel
theorem x_218_9 : decode (q_code 218) 9 = .ok (.return_, 1) := by decide +kernel
theorem x_218_10 : decode (q_code 218) 10 = .ok (.aload_n 0, 1) := by decide +kernel
theorem x_218_11 : decode (q_code 218) 11 = .ok (.getfield 49, 3) := by decide +kernel
theorem x_218_14 : decode (q_code 218) 14 = .ok (.aload_n 0, 1) := by decide +kernel
theorem x_218_15 : decode (q_code 218) 15 = .ok (.getfield 233, 3) := by decide +kernel
theorem x_218_18 : decode (q_code 218) 18 = .ok (.invokevirtual 342, 3) := by decide +kernel
theorem x_218_21 : decode (q_code 218) 21 = .ok (.ifCond .ne 25, 3) := by decide +kernel
theorem x_218_24 : decode (q_code 218) 24 = .ok (.aload_n 0, 1) := by decide +kernel
theorem x_218_25 : decode (q_code 218) 25 = .ok (.bipush 20, 2) := by decide +kernel
theorem x_218_27 : decode (q_code 218) 27 = .ok (.aload_n 0, 1) := by decide +kernel
theorem x_218_28 : decode (q_code 218) 28 = .ok (.getfield 49, 3) := by decide +kernel
theorem x_218_31 : decode (q_code 218) 31 = .ok (.getfield 343, 3) := by decide +kernel
theorem x_218_34 : decode (q_code 218) 34 = .ok (.iadd, 1) := by decide +kernel
theorem x_218_35 : decode (q_code 218) 35 = .ok (.aload_n 0, 1) := by decide +kernel
theorem x_218_36 : decode (q_code 218) 36 = .ok (.getfield 49, 3) := by decide +kernel
theorem x_218_39 : decode (q_code 218) 39 = .ok (.getfield 344, 3) := by decide +kernel
theorem x_218_42 : decode (q_code 218) 42 = .ok (.invokevirtual 132, 3) := by decide +kernel
theorem x_218_45 : decode (q_code 218) 45 = .ok (.return_, 1) := by decide +kernel
theorem x_218_46 : decode (q_code 218) 46 = .ok (.aload_n 0, 1) := by decide +kernel
theorem x_218_47 : decode (q_code 218) 47 = .ok (.getfield 95, 3) := by decide +kernel
theorem x_218_50 : decode (q_code 218) 50 = .ok (.getfield 345, 3) := by decide +kernel
theorem x_218_53 : decode (q_code 218) 53 = .ok (.astore_n 2, 1) := by decide +kernel
theorem x_218_54 : decode (q_code 218) 54 = .ok (.aload_n 2, 1) := by decide +kernel
theorem x_218_55 : decode (q_code 218) 55 = .ok (.ldc_w 348, 3) := by decide +kernel
theorem x_218_58 : decode (q_code 218) 58 = .ok (.ldc_w 349, 3) := by decide +kernel
theorem x_218_61 : decode (q_code 218) 61 = .ok (.invokevirtual 110, 3) := by decide +kernel
theorem x_218_64 : decode (q_code 218) 64 = .ok (.iconst 0, 1) := by decide +kernel
theorem x_218_65 : decode (q_code 218) 65 = .ok (.istore_n 3, 1) := by decide +kernel
theorem x_218_66 : decode (q_code 218) 66 = .ok (.iconst 0, 1) := by decide +kernel
theorem x_218_67 : decode (q_code 218) 67 = .ok (.istore 4, 2) := by decide +kernel
theorem x_218_69 : decode (q_code 218) 69 = .ok (.iconst 0, 1) := by decide +kernel
theorem x_218_70 : decode (q_code 218) 70 = .ok (.istore 5, 2) := by decide +kernel
theorem x_218_72 : decode (q_code 218) 72 = .ok (.iload 5, 2) := by decide +kernel
theorem x_218_74 : decode (q_code 218) 74 = .ok (.aload_n 0, 1) := by decide +kernel
theorem x_218_75 : decode (q_code 218) 75 = .ok (.getfield 95, 3) := by decide +kernel
theorem x_218_78 : decode (q_code 218) 78 = .ok (.getfield 189, 3) := by decide +kernel
theorem x_218_81 : decode (q_code 218) 81 = .ok (.if_icmp .ge 152, 3) := by decide +kernel
theorem x_218_84 : decode (q_code 218) 84 = .ok (.aload_n 0, 1) := by decide +kernel
theorem x_218_85 : decode (q_code 218) 85 = .ok (.getfield 95, 3) := by decide +kernel
theorem x_218_88 : decode (q_code 218) 88 = .ok (.getfield 204, 3) := by decide +kernel
theorem x_218_91 : decode (q_code 218) 91 = .ok (.iload 5, 2) := by decide +kernel
theorem x_218_93 : decode (q_code 218) 93 = .ok (.iaload, 1) := by decide +kernel
theorem x_218_94 : decode (q_code 218) 94 = .ok (.istore 6, 2) := by decide +kernel
theorem x_218_96 : decode (q_code 218) 96 = .ok (.aload_n 0, 1) := by decide +kernel
theorem x_218_97 : decode (q_code 218) 97 = .ok (.getfield 87, 3) := by decide +kernel
theorem x_218_100 : decode (q_code 218) 100 = .ok (.iload 5, 2) := by decide +kernel
theorem x_218_102 : decode (q_code 218) 102 = .ok (.baload, 1) := by decide +kernel
theorem x_218_103 : decode (q_code 218) 103 = .ok (.ifCond .eq 80, 3) := by decide +kernel
theorem x_218_106 : decode (q_code 218) 106 = .ok (.aload_n 0, 1) := by decide +kernel
theorem x_218_107 : decode (q_code 218) 107 = .ok (.getfield 49, 3) := by decide +kernel
theorem x_218_110 : decode (q_code 218) 110 = .ok (.iload 6, 2) := by decide +kernel
theorem x_218_112 : decode (q_code 218) 112 = .ok (.aload_n 0, 1) := by decide +kernel
theorem x_218_113 : decode (q_code 218) 113 = .ok (.getfield 233, 3) := by decide +kernel
theorem x_218_116 : decode (q_code 218) 116 = .ok (.invokevirtual 350, 3) := by decide +kernel
theorem x_218_119 : decode (q_code 218) 119 = .ok (.ifCond .ne 25, 3) := by decide +kernel
theorem x_218_122 : decode (q_code 218) 122 = .ok (.aload_n 0, 1) := by decide +kernel
theorem x_218_123 : decode (q_code 218) 123 = .ok (.bipush 20, 2) := by decide +kernel
theorem x_218_125 : decode (q_code 218) 125 = .ok (.aload_n 0, 1) := by decide +kernel
theorem x_218_126 : decode (q_code 218) 126 = .ok (.getfield 49, 3) := by decide +kernel
theorem x_218_129 : decode (q_code 218) 129 = .ok (.getfield 343, 3) := by decide +kernel
theorem x_218_132 : decode (q_code 218) 132 = .ok (.iadd, 1) := by decide +kernel
theorem x_218_133 : decode (q_code 218) 133 = .ok (.aload_n 0, 1) := by decide +kernel
theorem x_218_134 : decode (q_code 218) 134 = .ok (.getfield 49, 3) := by decide +kernel
theorem x_218_137 : decode (q_code 218) 137 = .ok (.getfield 344, 3) := by decide +kernel
theorem x_218_140 : decode (q_code 218) 140 = .ok (.invokevirtual 132, 3) := by decide +kernel
theorem x_218_143 : decode (q_code 218) 143 = .ok (.return_, 1) := by decide +kernel
theorem x_218_144 : decode (q_code 218) 144 = .ok (.ldc_w 353, 3) := by decide +kernel
theorem x_218_147 : decode (q_code 218) 147 = .ok (.istore 6, 2) := by decide +kernel
theorem x_218_149 : decode (q_code 218) 149 = .ok (.aload_n 0, 1) := by decide +kernel
theorem x_218_150 : decode (q_code 218) 150 = .ok (.getfield 87, 3) := by decide +kernel
theorem x_218_153 : decode (q_code 218) 153 = .ok (.iload 5, 2) := by decide +kernel
theorem x_218_155 : decode (q_code 218) 155 = .ok (.aload_n 0, 1) := by decide +kernel
theorem x_218_156 : decode (q_code 218) 156 = .ok (.getfield 49, 3) := by decide +kernel
theorem x_218_159 : decode (q_code 218) 159 = .ok (.getfield 354, 3) := by decide +kernel
theorem x_218_162 : decode (q_code 218) 162 = .ok (.bastore, 1) := by decide +kernel
theorem x_218_163 : decode (q_code 218) 163 = .ok (.iload 4, 2) := by decide +kernel
theorem x_218_165 : decode (q_code 218) 165 = .ok (.aload_n 0, 1) := by decide +kernel
theorem x_218_166 : decode (q_code 218) 166 = .ok (.getfield 49, 3) := by decide +kernel
theorem x_218_169 : decode (q_code 218) 169 = .ok (.getfield 354, 3) := by decide +kernel
theorem x_218_172 : decode (q_code 218) 172 = .ok (.ifCond .eq 7, 3) := by decide +kernel
theorem x_218_175 : decode (q_code 218) 175 = .ok (.iconst 1, 1) := by decide +kernel
theorem x_218_176 : decode (q_code 218) 176 = .ok (.goto 4, 3) := by decide +kernel
theorem x_218_179 : decode (q_code 218) 179 = .ok (.iconst 0, 1) := by decide +kernel
theorem x_218_180 : decode (q_code 218) 180 = .ok (.iadd, 1) := by decide +kernel
theorem x_218_181 : decode (q_code 218) 181 = .ok (.istore 4, 2) := by decide +kernel
theorem x_218_183 : decode (q_code 218) 183 = .ok (.aload_n 0, 1) := by decide +kernel
theorem x_218_184 : decode (q_code 218) 184 = .ok (.getfield 91, 3) := by decide +kernel
theorem x_218_187 : decode (q_code 218) 187 = .ok (.iload 5, 2) := by decide +kernel
theorem x_218_189 : decode (q_code 218) 189 = .ok (.aload_n 2, 1) := by decide +kernel
theorem x_218_190 : decode (q_code 218) 190 = .ok (.getfield 178, 3) := by decide +kernel
theorem x_218_193 : decode (q_code 218) 193 = .ok (.iastore, 1) := by decide +kernel
theorem x_218_194 : decode (q_code 218) 194 = .ok (.aload_n 2, 1) := by decide +kernel
theorem x_218_195 : decode (q_code 218) 195 = .ok (.aload_n 0, 1) := by decide +kernel
theorem x_218_196 : decode (q_code 218) 196 = .ok (.getfield 16, 3) := by decide +kernel
theorem x_218_199 : decode (q_code 218) 199 = .ok (.iload 6, 2) := by decide +kernel
theorem x_218_201 : decode (q_code 218) 201 = .ok (.aload_n 0, 1) := by decide +kernel
theorem x_218_202 : decode (q_code 218) 202 = .ok (.getfield 16, 3) := by decide +kernel
theorem x_218_205 : decode (q_code 218) 205 = .ok (.iload 6, 2) := by decide +kernel
theorem x_218_207 : decode (q_code 218) 207 = .ok (.invokestatic 223, 3) := by decide +kernel
theorem x_218_210 : decode (q_code 218) 210 = .ok (.invokevirtual 357, 3) := by decide +kernel
theorem x_218_213 : decode (q_code 218) 213 = .ok (.iload_n 3, 1) := by decide +kernel
theorem x_218_214 : decode (q_code 218) 214 = .ok (.aload_n 0, 1) := by decide +kernel
theorem x_218_215 : decode (q_code 218) 215 = .ok (.getfield 16, 3) := by decide +kernel
theorem x_218_218 : decode (q_code 218) 218 = .ok (.iload 6, 2) := by decide +kernel
theorem x_218_220 : decode (q_code 218) 220 = .ok (.iconst 2, 1) := by decide +kernel
theorem x_218_221 : decode (q_code 218) 221 = .ok (.iadd, 1) := by decide +kernel
theorem x_218_222 : decode (q_code 218) 222 = .ok (.invokestatic 206, 3) := by decide +kernel
theorem x_218_225 : decode (q_code 218) 225 = .ok (.iadd, 1) := by decide +kernel
theorem x_218_226 : decode (q_code 218) 226 = .ok (.istore_n 3, 1) := by decide +kernel
theorem x_218_227 : decode (q_code 218) 227 = .ok (.iinc 5 1, 3) := by decide +kernel
theorem x_218_230 : decode (q_code 218) 230 = .ok (.goto (-158), 3) := by decide +kernel
theorem x_218_233 : decode (q_code 218) 233 = .ok (.iload_n 3, 1) := by decide +kernel
theorem x_218_234 : decode (q_code 218) 234 = .ok (.ldc_w 288, 3) := by decide +kernel
theorem x_218_237 : decode (q_code 218) 237 = .ok (.if_icmp .gt 7, 3) := by decide +kernel
theorem x_218_240 : decode (q_code 218) 240 = .ok (.iconst 1, 1) := by decide +kernel
theorem x_218_241 : decode (q_code 218) 241 = .ok (.goto 4, 3) := by decide +kernel
theorem x_218_244 : decode (q_code 218) 244 = .ok (.iconst 0, 1) := by decide +kernel
theorem x_218_245 : decode (q_code 218) 245 = .ok (.istore 5, 2) := by decide +kernel
theorem x_218_247 : decode (q_code 218) 247 = .ok (.iconst 0, 1) := by decide +kernel
theorem x_218_248 : decode (q_code 218) 248 = .ok (.istore 6, 2) := by decide +kernel
theorem x_218_250 : decode (q_code 218) 250 = .ok (.iload 6, 2) := by decide +kernel
theorem x_218_252 : decode (q_code 218) 252 = .ok (.iconst 4, 1) := by decide +kernel
theorem x_218_253 : decode (q_code 218) 253 = .ok (.if_icmp .ge 40, 3) := by decide +kernel
theorem x_218_256 : decode (q_code 218) 256 = .ok (.iload 5, 2) := by decide +kernel
theorem x_218_258 : decode (q_code 218) 258 = .ok (.ifCond .eq 35, 3) := by decide +kernel
theorem x_218_261 : decode (q_code 218) 261 = .ok (.aload_n 0, 1) := by decide +kernel
theorem x_218_262 : decode (q_code 218) 262 = .ok (.getfield 95, 3) := by decide +kernel
theorem x_218_265 : decode (q_code 218) 265 = .ok (.getfield 289, 3) := by decide +kernel
theorem x_218_268 : decode (q_code 218) 268 = .ok (.iload 6, 2) := by decide +kernel
theorem x_218_270 : decode (q_code 218) 270 = .ok (.aaload, 1) := by decide +kernel
theorem x_218_271 : decode (q_code 218) 271 = .ok (.aload_n 0, 1) := by decide +kernel
theorem x_218_272 : decode (q_code 218) 272 = .ok (.getfield 91, 3) := by decide +kernel
theorem x_218_275 : decode (q_code 218) 275 = .ok (.aload_n 0, 1) := by decide +kernel
theorem x_218_276 : decode (q_code 218) 276 = .ok (.getfield 95, 3) := by decide +kernel
theorem x_218_279 : decode (q_code 218) 279 = .ok (.getfield 189, 3) := by decide +kernel
theorem x_218_282 : decode (q_code 218) 282 = .ok (.invokevirtual 360, 3) := by decide +kernel
theorem x_218_285 : decode (q_code 218) 285 = .ok (.istore 5, 2) := by decide +kernel
theorem x_218_287 : decode (q_code 218) 287 = .ok (.iinc 6 1, 3) := by decide +kernel
theorem x_218_290 : decode (q_code 218) 290 = .ok (.goto (-40), 3) := by decide +kernel
theorem x_218_293 : decode (q_code 218) 293 = .ok (.iload 5, 2) := by decide +kernel
theorem x_218_295 : decode (q_code 218) 295 = .ok (.ifCond .ne 11, 3) := by decide +kernel
theorem x_218_298 : decode (q_code 218) 298 = .ok (.aload_n 0, 1) := by decide +kernel
theorem x_218_299 : decode (q_code 218) 299 = .ok (.bipush 40, 2) := by decide +kernel
theorem x_218_301 : decode (q_code 218) 301 = .ok (.iconst (-1), 1) := by decide +kernel
theorem x_218_302 : decode (q_code 218) 302 = .ok (.invokevirtual 126, 3) := by decide +kernel
theorem x_218_305 : decode (q_code 218) 305 = .ok (.return_, 1) := by decide +kernel
theorem x_218_306 : decode (q_code 218) 306 = .ok (.iconst 0, 1) := by decide +kernel
theorem x_218_307 : decode (q_code 218) 307 = .ok (.istore 6, 2) := by decide +kernel
theorem x_218_309 : decode (q_code 218) 309 = .ok (.iload 6, 2) := by decide +kernel
theorem x_218_311 : decode (q_code 218) 311 = .ok (.iconst 4, 1) := by decide +kernel
theorem x_218_312 : decode (q_code 218) 312 = .ok (.if_icmp .ge 30, 3) := by decide +kernel
theorem x_218_315 : decode (q_code 218) 315 = .ok (.aload_n 0, 1) := by decide +kernel
theorem x_218_316 : decode (q_code 218) 316 = .ok (.getfield 95, 3) := by decide +kernel
theorem x_218_319 : decode (q_code 218) 319 = .ok (.getfield 289, 3) := by decide +kernel
theorem x_218_322 : decode (q_code 218) 322 = .ok (.iload 6, 2) := by decide +kernel
theorem x_218_324 : decode (q_code 218) 324 = .ok (.aaload, 1) := by decide +kernel
theorem x_218_325 : decode (q_code 218) 325 = .ok (.aload_n 0, 1) := by decide +kernel
theorem x_218_326 : decode (q_code 218) 326 = .ok (.getfield 95, 3) := by decide +kernel
theorem x_218_329 : decode (q_code 218) 329 = .ok (.aload_n 0, 1) := by decide +kernel
theorem x_218_330 : decode (q_code 218) 330 = .ok (.getfield 87, 3) := by decide +kernel
theorem x_218_333 : decode (q_code 218) 333 = .ok (.invokevirtual 335, 3) := by decide +kernel
theorem x_218_336 : decode (q_code 218) 336 = .ok (.iinc 6 1, 3) := by decide +kernel
theorem x_218_339 : decode (q_code 218) 339 = .ok (.goto (-30), 3) := by decide +kernel
theorem x_218_342 : decode (q_code 218) 342 = .ok (.aload_n 0, 1) := by decide +kernel
theorem x_218_343 : decode (q_code 218) 343 = .ok (.getfield 95, 3) := by decide +kernel
theorem x_218_346 : decode (q_code 218) 346 = .ok (.aload_n 0, 1) := by decide +kernel
theorem x_218_347 : decode (q_code 218) 347 = .ok (.getfield 91, 3) := by decide +kernel
theorem x_218_350 : decode (q_code 218) 350 = .ok (.invokevirtual 364, 3) := by decide +kernel
theorem x_218_353 : decode (q_code 218) 353 = .ok (.iconst 0, 1) := by decide +kernel
theorem x_218_354 : decode (q_code 218) 354 = .ok (.istore 6, 2) := by decide +kernel
theorem x_218_356 : decode (q_code 218) 356 = .ok (.iload 6, 2) := by decide +kernel
theorem x_218_358 : decode (q_code 218) 358 = .ok (.iconst 4, 1) := by decide +kernel
theorem x_218_359 : decode (q_code 218) 359 = .ok (.if_icmp .ge 30, 3) := by decide +kernel
theorem x_218_362 : decode (q_code 218) 362 = .ok (.aload_n 0, 1) := by decide +kernel
theorem x_218_363 : decode (q_code 218) 363 = .ok (.getfield 95, 3) := by decide +kernel
theorem x_218_366 : decode (q_code 218) 366 = .ok (.getfield 289, 3) := by decide +kernel
theorem x_218_369 : decode (q_code 218) 369 = .ok (.iload 6, 2) := by decide +kernel
theorem x_218_371 : decode (q_code 218) 371 = .ok (.aaload, 1) := by decide +kernel
theorem x_218_372 : decode (q_code 218) 372 = .ok (.aload_n 0, 1) := by decide +kernel
theorem x_218_373 : decode (q_code 218) 373 = .ok (.getfield 95, 3) := by decide +kernel
theorem x_218_376 : decode (q_code 218) 376 = .ok (.aload_n 0, 1) := by decide +kernel
theorem x_218_377 : decode (q_code 218) 377 = .ok (.getfield 87, 3) := by decide +kernel
theorem x_218_380 : decode (q_code 218) 380 = .ok (.invokevirtual 301, 3) := by decide +kernel
theorem x_218_383 : decode (q_code 218) 383 = .ok (.iinc 6 1, 3) := by decide +kernel
theorem x_218_386 : decode (q_code 218) 386 = .ok (.goto (-30), 3) := by decide +kernel
theorem x_218_389 : decode (q_code 218) 389 = .ok (.aload_n 0, 1) := by decide +kernel
theorem x_218_390 : decode (q_code 218) 390 = .ok (.getfield 24, 3) := by decide +kernel
theorem x_218_393 : decode (q_code 218) 393 = .ok (.ldc_w 319, 3) := by decide +kernel
theorem x_218_396 : decode (q_code 218) 396 = .ok (.iload_n 1, 1) := by decide +kernel
theorem x_218_397 : decode (q_code 218) 397 = .ok (.invokevirtual 182, 3) := by decide +kernel
theorem x_218_400 : decode (q_code 218) 400 = .ok (.aload_n 0, 1) := by decide +kernel
theorem x_218_401 : decode (q_code 218) 401 = .ok (.getfield 24, 3) := by decide +kernel
theorem x_218_404 : decode (q_code 218) 404 = .ok (.ldc_w 368, 3) := by decide +kernel
theorem x_218_407 : decode (q_code 218) 407 = .ok (.iload 4, 2) := by decide +kernel
theorem x_218_409 : decode (q_code 218) 409 = .ok (.invokevirtual 182, 3) := by decide +kernel
theorem x_218_412 : decode (q_code 218) 412 = .ok (.return_, 1) := by decide +kernel
theorem x_219_0 : decode (q_code 219) 0 = .ok (.aload_n 0, 1) := by decide +kernel
theorem x_219_1 : decode (q_code 219) 1 = .ok (.getfield 95, 3) := by decide +kernel
theorem x_219_4 : decode (q_code 219) 4 = .ok (.invokevirtual 369, 3) := by decide +kernel
theorem x_219_7 : decode (q_code 219) 7 = .ok (.istore_n 1, 1) := by decide +kernel
theorem x_219_8 : decode (q_code 219) 8 = .ok (.iload_n 1, 1) := by decide +kernel
theorem x_219_9 : decode (q_code 219) 9 = .ok (.ifCond .ge 11, 3) := by decide +kernel
theorem x_219_12 : decode (q_code 219) 12 = .ok (.aload_n 0, 1) := by decide +kernel
theorem x_219_13 : decode (q_code 219) 13 = .ok (.bipush 40, 2) := by decide +kernel
theorem x_219_15 : decode (q_code 219) 15 = .ok (.iconst (-1), 1) := by decide +kernel
theorem x_219_16 : decode (q_code 219) 16 = .ok (.invokevirtual 126, 3) := by decide +kernel
theorem x_219_19 : decode (q_code 219) 19 = .ok (.return_, 1) := by decide +kernel
theorem x_219_20 : decode (q_code 219) 20 = .ok (.aload_n 0, 1) := by decide +kernel
theorem x_219_21 : decode (q_code 219) 21 = .ok (.getfield 95, 3) := by decide +kernel
theorem x_219_24 : decode (q_code 219) 24 = .ok (.getfield 289, 3) := by decide +kernel
theorem x_219_27 : decode (q_code 219) 27 = .ok (.iload_n 1, 1) := by decide +kernel
theorem x_219_28 : decode (q_code 219) 28 = .ok (.aaload, 1) := by decide +kernel
theorem x_219_29 : decode (q_code 219) 29 = .ok (.astore_n 2, 1) := by decide +kernel
theorem x_219_30 : decode (q_code 219) 30 = .ok (.aload_n 2, 1) := by decide +kernel
theorem x_219_31 : decode (q_code 219) 31 = .ok (.aload_n 0, 1) := by decide +kernel
theorem x_219_32 : decode (q_code 219) 32 = .ok (.getfield 213, 3) := by decide +kernel
theorem x_219_35 : decode (q_code 219) 35 = .ok (.aload_n 0, 1) := by decide +kernel
theorem x_219_36 : decode (q_code 219) 36 = .ok (.getfield 233, 3) := by decide +kernel
theorem x_219_39 : decode (q_code 219) 39 = .ok (.invokevirtual 372, 3) := by decide +kernel
theorem x_219_42 : decode (q_code 219) 42 = .ok (.aload_n 2, 1) := by decide +kernel
theorem x_219_43 : decode (q_code 219) 43 = .ok (.aload_n 0, 1) := by decide +kernel
theorem x_219_44 : decode (q_code 219) 44 = .ok (.getfield 95, 3) := by decide +kernel
theorem x_219_47 : decode (q_code 219) 47 = .ok (.getfield 204, 3) := by decide +kernel
theorem x_219_50 : decode (q_code 219) 50 = .ok (.aload_n 0, 1) := by decide +kernel
theorem x_219_51 : decode (q_code 219) 51 = .ok (.getfield 95, 3) := by decide +kernel
theorem x_219_54 : decode (q_code 219) 54 = .ok (.getfield 189, 3) := by decide +kernel
theorem x_219_57 : decode (q_code 219) 57 = .ok (.invokevirtual 360, 3) := by decide +kernel
theorem x_219_60 : decode (q_code 219) 60 = .ok (.ifCond .ne 16, 3) := by decide +kernel
theorem x_219_63 : decode (q_code 219) 63 = .ok (.aload_n 2, 1) := by decide +kernel
theorem x_219_64 : decode (q_code 219) 64 = .ok (.iconst 0, 1) := by decide +kernel
theorem x_219_65 : decode (q_code 219) 65 = .ok (.putfield 375, 3) := by decide +kernel
theorem x_219_68 : decode (q_code 219) 68 = .ok (.aload_n 0, 1) := by decide +kernel
theorem x_219_69 : decode (q_code 219) 69 = .ok (.bipush 40, 2) := by decide +kernel
theorem x_219_71 : decode (q_code 219) 71 = .ok (.iconst (-1), 1) := by decide +kernel
theorem x_219_72 : decode (q_code 219) 72 = .ok (.invokevirtual 126, 3) := by decide +kernel
theorem x_219_75 : decode (q_code 219) 75 = .ok (.return_, 1) := by decide +kernel
theorem x_219_76 : decode (q_code 219) 76 = .ok (.iconst 0, 1) := by decide +kernel
theorem x_219_77 : decode (q_code 219) 77 = .ok (.istore_n 3, 1) := by decide +kernel
theorem x_219_78 : decode (q_code 219) 78 = .ok (.iload_n 3, 1) := by decide +kernel
theorem x_219_79 : decode (q_code 219) 79 = .ok (.aload_n 0, 1) := by decide +kernel
theorem x_219_80 : decode (q_code 219) 80 = .ok (.getfield 95, 3) := by decide +kernel
theorem x_219_83 : decode (q_code 219) 83 = .ok (.getfield 189, 3) := by decide +kernel
theorem x_219_86 : decode (q_code 219) 86 = .ok (.if_icmp .ge 16, 3) := by decide +kernel
theorem x_219_89 : decode (q_code 219) 89 = .ok (.aload_n 0, 1) := by decide +kernel
theorem x_219_90 : decode (q_code 219) 90 = .ok (.getfield 87, 3) := by decide +kernel
theorem x_219_93 : decode (q_code 219) 93 = .ok (.iload_n 3, 1) := by decide +kernel
theorem x_219_94 : decode (q_code 219) 94 = .ok (.iconst 1, 1) := by decide +kernel
theorem x_219_95 : decode (q_code 219) 95 = .ok (.bastore, 1) := by decide +kernel
theorem x_219_96 : decode (q_code 219) 96 = .ok (.iinc 3 1, 3) := by decide +kernel
theorem x_219_99 : decode (q_code 219) 99 = .ok (.goto (-21), 3) := by decide +kernel
theorem x_219_102 : decode (q_code 219) 102 = .ok (.aload_n 2, 1) := by decide +kernel
theorem x_219_103 : decode (q_code 219) 103 = .ok (.aload_n 0, 1) := by decide +kernel
theorem x_219_104 : decode (q_code 219) 104 = .ok (.getfield 95, 3) := by decide +kernel
theorem x_219_107 : decode (q_code 219) 107 = .ok (.aload_n 0, 1) := by decide +kernel
theorem x_219_108 : decode (q_code 219) 108 = .ok (.getfield 87, 3) := by decide +kernel
theorem x_219_111 : decode (q_code 219) 111 = .ok (.invokevirtual 301, 3) := by decide +kernel
theorem x_219_114 : decode (q_code 219) 114 = .ok (.aload_n 0, 1) := by decide +kernel
theorem x_219_115 : decode (q_code 219) 115 = .ok (.getfield 24, 3) := by decide +kernel
theorem x_219_118 : decode (q_code 219) 118 = .ok (.ldc 253, 2) := by decide +kernel
theorem x_219_120 : decode (q_code 219) 120 = .ok (.iload_n 1, 1) := by decide +kernel
theorem x_219_121 : decode (q_code 219) 121 = .ok (.invokevirtual 182, 3) := by decide +kernel
theorem x_219_124 : decode (q_code 219) 124 = .ok (.return_, 1) := by decide +kernel
theorem x_220_0 : decode (q_code 220) 0 = .ok (.aload_n 0, 1) := by decide +kernel
theorem x_220_1 : decode (q_code 220) 1 = .ok (.getfield 16, 3) := by decide +kernel
theorem x_220_4 : decode (q_code 220) 4 = .ok (.aload_n 0, 1) := by decide +kernel
theorem x_220_5 : decode (q_code 220) 5 = .ok (.getfield 213, 3) := by decide +kernel
theorem x_220_8 : decode (q_code 220) 8 = .ok (.invokestatic 229, 3) := by decide +kernel
theorem x_220_11 : decode (q_code 220) 11 = .ok (.lstore_n 1, 1) := by decide +kernel
theorem x_220_12 : decode (q_code 220) 12 = .ok (.lload_n 1, 1) := by decide +kernel
theorem x_220_13 : decode (q_code 220) 13 = .ok (.lconst 0, 1) := by decide +kernel
theorem x_220_14 : decode (q_code 220) 14 = .ok (.lcmp, 1) := by decide +kernel
theorem x_220_15 : decode (q_code 220) 15 = .ok (.ifCond .lt 38, 3) := by decide +kernel
theorem x_220_18 : decode (q_code 220) 18 = .ok (.lload_n 1, 1) := by decide +kernel
theorem x_220_19 : decode (q_code 220) 19 = .ok (.ldc2_w 378, 3) := by decide +kernel
theorem x_220_22 : decode (q_code 220) 22 = .ok (.lcmp, 1) := by decide +kernel
theorem x_220_23 : decode (q_code 220) 23 = .ok (.ifCond .ge 30, 3) := by decide +kernel
theorem x_220_26 : decode (q_code 220) 26 = .ok (.aload_n 0, 1) := by decide +kernel
theorem x_220_27 : decode (q_code 220) 27 = .ok (.getfield 95, 3) := by decide +kernel
theorem x_220_30 : decode (q_code 220) 30 = .ok (.getfield 289, 3) := by decide +kernel
theorem x_220_33 : decode (q_code 220) 33 = .ok (.lload_n 1, 1) := by decide +kernel
theorem x_220_34 : decode (q_code 220) 34 = .ok (.l2i, 1) := by decide +kernel
theorem x_220_35 : decode (q_code 220) 35 = .ok (.aaload, 1) := by decide +kernel
theorem x_220_36 : decode (q_code 220) 36 = .ok (.getfield 375, 3) := by decide +kernel
theorem x_220_39 : decode (q_code 220) 39 = .ok (.ifCond .eq 14, 3) := by decide +kernel
theorem x_220_42 : decode (q_code 220) 42 = .ok (.aload_n 0, 1) := by decide +kernel
theorem x_220_43 : decode (q_code 220) 43 = .ok (.getfield 95, 3) := by decide +kernel
theorem x_220_46 : decode (q_code 220) 46 = .ok (.getfield 289, 3) := by decide +kernel
theorem x_220_49 : decode (q_code 220) 49 = .ok (.lload_n 1, 1) := by decide +kernel
theorem x_220_50 : decode (q_code 220) 50 = .ok (.l2i, 1) := by decide +kernel
theorem x_220_51 : decode (q_code 220) 51 = .ok (.aaload, 1) := by decide +kernel
theorem x_220_52 : decode (q_code 220) 52 = .ok (.areturn, 1) := by decide +kernel
theorem x_220_53 : decode (q_code 220) 53 = .ok (.aload_n 0, 1) := by decide +kernel
theorem x_220_54 : decode (q_code 220) 54 = .ok (.bipush 41, 2) := by decide +kernel
theorem x_220_56 : decode (q_code 220) 56 = .ok (.iconst (-1), 1) := by decide +kernel
theorem x_220_57 : decode (q_code 220) 57 = .ok (.invokevirtual 126, 3) := by decide +kernel
theorem x_220_60 : decode (q_code 220) 60 = .ok (.aconst_null, 1) := by decide +kernel
theorem x_220_61 : decode (q_code 220) 61 = .ok (.areturn, 1) := by decide +kernel
theorem x_221_0 : decode (q_code 221) 0 = .ok (.aload_n 0, 1) := by decide +kernel
theorem x_221_1 : decode (q_code 221) 1 = .ok (.invokevirtual 380, 3) := by decide +kernel
theorem x_221_4 : decode (q_code 221) 4 = .ok (.astore_n 1, 1) := by decide +kernel
theorem x_221_5 : decode (q_code 221) 5 = .ok (.aload_n 1, 1) := by decide +kernel
theorem x_221_6 : decode (q_code 221) 6 = .ok (.ifnull 19, 3) := by decide +kernel
theorem x_221_9 : decode (q_code 221) 9 = .ok (.aload_n 1, 1) := by decide +kernel
theorem x_221_10 : decode (q_code 221) 10 = .ok (.iconst 0, 1) := by decide +kernel
theorem x_221_11 : decode (q_code 221) 11 = .ok (.putfield 375, 3) := by decide +kernel
theorem x_221_14 : decode (q_code 221) 14 = .ok (.aload_n 0, 1) := by decide +kernel
theorem x_221_15 : decode (q_code 221) 15 = .ok (.getfield 24, 3) := by decide +kernel
theorem x_221_18 : decode (q_code 221) 18 = .ok (.ldc_w 384, 3) := by decide +kernel
theorem x_221_21 : decode (q_code 221) 21 = .ok (.iconst 1, 1) := by decide +kernel
theorem x_221_22 : decode (q_code 221) 22 = .ok (.invokevirtual 386, 3) := by decide +kernel
theorem x_221_25 : decode (q_code 221) 25 = .ok (.return_, 1) := by decide +kernel
theorem x_222_0 : decode (q_code 222) 0 = .ok (.aload_n 0, 1) := by decide +kernel
theorem x_222_1 : decode (q_code 222) 1 = .ok (.invokevirtual 380, 3) := by decide +kernel
theorem x_222_4 : decode (q_code 222) 4 = .ok (.astore_n 1, 1) := by decide +kernel
theorem x_222_5 : decode (q_code 222) 5 = .ok (.aload_n 1, 1) := by decide +kernel
theorem x_222_6 : decode (q_code 222) 6 = .ok (.ifnonnull 4, 3) := by decide +kernel
theorem x_222_9 : decode (q_code 222) 9 = .ok (.return_, 1) := by decide +kernel
theorem x_222_10 : decode (q_code 222) 10 = .ok (.aload_n 1, 1) := by decide +kernel
theorem x_222_11 : decode (q_code 222) 11 = .ok (.getfield 390, 3) := by decide +kernel
theorem x_222_14 : decode (q_code 222) 14 = .ok (.astore_n 2, 1) := by decide +kernel
theorem x_222_15 : decode (q_code 222) 15 = .ok (.aload_n 0, 1) := by decide +kernel
theorem x_222_16 : decode (q_code 222) 16 = .ok (.getfield 24, 3) := by decide +kernel
theorem x_222_19 : decode (q_code 222) 19 = .ok (.ldc_w 394, 3) := by decide +kernel
theorem x_222_22 : decode (q_code 222) 22 = .ok (.aload_n 2, 1) := by decide +kernel
theorem x_222_23 : decode (q_code 222) 23 = .ok (.getfield 396, 3) := by decide +kernel
theorem x_222_26 : decode (q_code 222) 26 = .ok (.invokevirtual 182, 3) := by decide +kernel
theorem x_222_29 : decode (q_code 222) 29 = .ok (.aload_n 0, 1) := by decide +kernel
theorem x_222_30 : decode (q_code 222) 30 = .ok (.getfield 24, 3) := by decide +kernel
theorem x_222_33 : decode (q_code 222) 33 = .ok (.ldc_w 400, 3) := by decide +kernel
theorem x_222_36 : decode (q_code 222) 36 = .ok (.aload_n 2, 1) := by decide +kernel
theorem x_222_37 : decode (q_code 222) 37 = .ok (.invokevirtual 402, 3) := by decide +kernel
theorem x_222_40 : decode (q_code 222) 40 = .ok (.invokevirtual 182, 3) := by decide +kernel
theorem x_222_43 : decode (q_code 222) 43 = .ok (.aload_n 0, 1) := by decide +kernel
theorem x_222_44 : decode (q_code 222) 44 = .ok (.getfield 24, 3) := by decide +kernel
theorem x_222_47 : decode (q_code 222) 47 = .ok (.ldc_w 404, 3) := by decide +kernel
theorem x_222_50 : decode (q_code 222) 50 = .ok (.aload_n 2, 1) := by decide +kernel
theorem x_222_51 : decode (q_code 222) 51 = .ok (.getfield 406, 3) := by decide +kernel
theorem x_222_54 : decode (q_code 222) 54 = .ok (.invokevirtual 182, 3) := by decide +kernel
theorem x_222_57 : decode (q_code 222) 57 = .ok (.aload_n 0, 1) := by decide +kernel
theorem x_222_58 : decode (q_code 222) 58 = .ok (.getfield 24, 3) := by decide +kernel
theorem x_222_61 : decode (q_code 222) 61 = .ok (.ldc_w 408, 3) := by decide +kernel
theorem x_222_64 : decode (q_code 222) 64 = .ok (.aload_n 2, 1) := by decide +kernel
theorem x_222_65 : decode (q_code 222) 65 = .ok (.getfield 410, 3) := by decide +kernel
theorem x_222_68 : decode (q_code 222) 68 = .ok (.invokevirtual 182, 3) := by decide +kernel
theorem x_222_71 : decode (q_code 222) 71 = .ok (.aload_n 0, 1) := by decide +kernel
theorem x_222_72 : decode (q_code 222) 72 = .ok (.getfield 24, 3) := by decide +kernel
theorem x_222_75 : decode (q_code 222) 75 = .ok (.ldc_w 412, 3) := by decide +kernel
theorem x_222_78 : decode (q_code 222) 78 = .ok (.aload_n 1, 1) := by decide +kernel
theorem x_222_79 : decode (q_code 222) 79 = .ok (.getfield 413, 3) := by decide +kernel
theorem x_222_82 : decode (q_code 222) 82 = .ok (.invokevirtual 386, 3) := by decide +kernel
theorem x_222_85 : decode (q_code 222) 85 = .ok (.aload_n 0, 1) := by decide +kernel
theorem x_222_86 : decode (q_code 222) 86 = .ok (.getfield 24, 3) := by decide +kernel
theorem x_222_89 : decode (q_code 222) 89 = .ok (.ldc_w 416, 3) := by decide +kernel
theorem x_222_92 : decode (q_code 222) 92 = .ok (.aload_n 1, 1) := by decide +kernel
theorem x_222_93 : decode (q_code 222) 93 = .ok (.getfield 418, 3) := by decide +kernel
theorem x_222_96 : decode (q_code 222) 96 = .ok (.invokevirtual 386, 3) := by decide +kernel
theorem x_222_99 : decode (q_code 222) 99 = .ok (.return_, 1) := by decide +kernel
theorem x_223_0 : decode (q_code 223) 0 = .ok (.aload_n 0, 1) := by decide +kernel
theorem x_223_1 : decode (q_code 223) 1 = .ok (.getfield 56, 3) := by decide +kernel
theorem x_223_4 : decode (q_code 223) 4 = .ok (.aload_n 0, 1) := by decide +kernel
theorem x_223_5 : decode (q_code 223) 5 = .ok (.getfield 95, 3) := by decide +kernel
theorem x_223_8 : decode (q_code 223) 8 = .ok (.aload_n 0, 1) := by decide +kernel
theorem x_223_9 : decode (q_code 223) 9 = .ok (.getfield 95, 3) := by decide +kernel
theorem x_223_12 : decode (q_code 223) 12 = .ok (.aload_n 0, 1) := by decide +kernel
theorem x_223_13 : decode (q_code 223) 13 = .ok (.getfield 83, 3) := by decide +kernel
theorem x_223_16 : decode (q_code 223) 16 = .ok (.iconst 0, 1) := by decide +kernel
theorem x_223_17 : decode (q_code 223) 17 = .ok (.aaload, 1) := by decide +kernel
theorem x_223_18 : decode (q_code 223) 18 = .ok (.if_acmp .ne 12, 3) := by decide +kernel
theorem x_223_21 : decode (q_code 223) 21 = .ok (.aload_n 0, 1) := by decide +kernel
theorem x_223_22 : decode (q_code 223) 22 = .ok (.getfield 83, 3) := by decide +kernel
theorem x_223_25 : decode (q_code 223) 25 = .ok (.iconst 1, 1) := by decide +kernel
theorem x_223_26 : decode (q_code 223) 26 = .ok (.aaload, 1) := by decide +kernel
theorem x_223_27 : decode (q_code 223) 27 = .ok (.goto 9, 3) := by decide +kernel
theorem x_223_30 : decode (q_code 223) 30 = .ok (.aload_n 0, 1) := by decide +kernel
theorem x_223_31 : decode (q_code 223) 31 = .ok (.getfield 83, 3) := by decide +kernel
theorem x_223_34 : decode (q_code 223) 34 = .ok (.iconst 0, 1) := by decide +kernel
theorem x_223_35 : decode (q_code 223) 35 = .ok (.aaload, 1) := by decide +kernel
theorem x_223_36 : decode (q_code 223) 36 = .ok (.invokevirtual 421, 3) := by decide +kernel
theorem x_223_39 : decode (q_code 223) 39 = .ok (.aload_n 0, 1) := by decide +kernel
theorem x_223_40 : decode (q_code 223) 40 = .ok (.getfield 16, 3) := by decide +kernel
theorem x_223_43 : decode (q_code 223) 43 = .ok (.aload_n 0, 1) := by decide +kernel
theorem x_223_44 : decode (q_code 223) 44 = .ok (.getfield 213, 3) := by decide +kernel
theorem x_223_47 : decode (q_code 223) 47 = .ok (.invokestatic 210, 3) := by decide +kernel
theorem x_223_50 : decode (q_code 223) 50 = .ok (.istore_n 1, 1) := by decide +kernel
theorem x_223_51 : decode (q_code 223) 51 = .ok (.iconst 0, 1) := by decide +kernel
theorem x_223_52 : decode (q_code 223) 52 = .ok (.istore_n 2, 1) := by decide +kernel
theorem x_223_53 : decode (q_code 223) 53 = .ok (.iload_n 2, 1) := by decide +kernel
theorem x_223_54 : decode (q_code 223) 54 = .ok (.ldc_w 270, 3) := by decide +kernel
theorem x_223_57 : decode (q_code 223) 57 = .ok (.if_icmp .ge 120, 3) := by decide +kernel
theorem x_223_60 : decode (q_code 223) 60 = .ok (.aload_n 0, 1) := by decide +kernel
theorem x_223_61 : decode (q_code 223) 61 = .ok (.getfield 16, 3) := by decide +kernel
theorem x_223_64 : decode (q_code 223) 64 = .ok (.iload_n 1, 1) := by decide +kernel
theorem x_223_65 : decode (q_code 223) 65 = .ok (.invokestatic 242, 3) := by decide +kernel
theorem x_223_68 : decode (q_code 223) 68 = .ok (.ifCond .eq 109, 3) := by decide +kernel
theorem x_223_71 : decode (q_code 223) 71 = .ok (.aload_n 0, 1) := by decide +kernel
theorem x_223_72 : decode (q_code 223) 72 = .ok (.getfield 56, 3) := by decide +kernel
theorem x_223_75 : decode (q_code 223) 75 = .ok (.iload_n 1, 1) := by decide +kernel
theorem x_223_76 : decode (q_code 223) 76 = .ok (.invokevirtual 425, 3) := by decide +kernel
theorem x_223_79 : decode (q_code 223) 79 = .ok (.ifCond .eq 60, 3) := by decide +kernel
theorem x_223_82 : decode (q_code 223) 82 = .ok (.aload_n 0, 1) := by decide +kernel
theorem x_223_83 : decode (q_code 223) 83 = .ok (.getfield 16, 3) := by decide +kernel
theorem x_223_86 : decode (q_code 223) 86 = .ok (.iload_n 1, 1) := by decide +kernel
theorem x_223_87 : decode (q_code 223) 87 = .ok (.invokestatic 210, 3) := by decide +kernel
theorem x_223_90 : decode (q_code 223) 90 = .ok (.istore_n 3, 1) := by decide +kernel
theorem x_223_91 : decode (q_code 223) 91 = .ok (.aload_n 0, 1) := by decide +kernel
theorem x_223_92 : decode (q_code 223) 92 = .ok (.getfield 42, 3) := by decide +kernel
theorem x_223_95 : decode (q_code 223) 95 = .ok (.iload_n 3, 1) := by decide +kernel
theorem x_223_96 : decode (q_code 223) 96 = .ok (.invokevirtual 307, 3) := by decide +kernel
theorem x_223_99 : decode (q_code 223) 99 = .ok (.ifCond .ne 25, 3) := by decide +kernel
theorem x_223_102 : decode (q_code 223) 102 = .ok (.aload_n 0, 1) := by decide +kernel
theorem x_223_103 : decode (q_code 223) 103 = .ok (.bipush 10, 2) := by decide +kernel
theorem x_223_105 : decode (q_code 223) 105 = .ok (.aload_n 0, 1) := by decide +kernel
theorem x_223_106 : decode (q_code 223) 106 = .ok (.getfield 42, 3) := by decide +kernel
theorem x_223_109 : decode (q_code 223) 109 = .ok (.getfield 310, 3) := by decide +kernel
theorem x_223_112 : decode (q_code 223) 112 = .ok (.iadd, 1) := by decide +kernel
theorem x_223_113 : decode (q_code 223) 113 = .ok (.aload_n 0, 1) := by decide +kernel
theorem x_223_114 : decode (q_code 223) 114 = .ok (.getfield 42, 3) := by decide +kernel
theorem x_223_117 : decode (q_code 223) 117 = .ok (.getfield 311, 3) := by decide +kernel
theorem x_223_120 : decode (q_code 223) 120 = .ok (.invokevirtual 132, 3) := by decide +kernel
theorem x_223_123 : decode (q_code 223) 123 = .ok (.return_, 1) := by decide +kernel
theorem x_223_124 : decode (q_code 223) 124 = .ok (.aload_n 0, 1) := by decide +kernel
theorem x_223_125 : decode (q_code 223) 125 = .ok (.getfield 56, 3) := by decide +kernel
theorem x_223_128 : decode (q_code 223) 128 = .ok (.aload_n 0, 1) := by decide +kernel
theorem x_223_129 : decode (q_code 223) 129 = .ok (.getfield 42, 3) := by decide +kernel
theorem x_223_132 : decode (q_code 223) 132 = .ok (.iload_n 3, 1) := by decide +kernel
theorem x_223_133 : decode (q_code 223) 133 = .ok (.invokevirtual 428, 3) := by decide +kernel
theorem x_223_136 : decode (q_code 223) 136 = .ok (.goto 26, 3) := by decide +kernel
theorem x_223_139 : decode (q_code 223) 139 = .ok (.aload_n 0, 1) := by decide +kernel
theorem x_223_140 : decode (q_code 223) 140 = .ok (.getfield 56, 3) := by decide +kernel
theorem x_223_143 : decode (q_code 223) 143 = .ok (.iload_n 1, 1) := by decide +kernel
theorem x_223_144 : decode (q_code 223) 144 = .ok (.invokevirtual 432, 3) := by decide +kernel
theorem x_223_147 : decode (q_code 223) 147 = .ok (.istore_n 3, 1) := by decide +kernel
theorem x_223_148 : decode (q_code 223) 148 = .ok (.iload_n 3, 1) := by decide +kernel
theorem x_223_149 : decode (q_code 223) 149 = .ok (.ifCond .eq 13, 3) := by decide +kernel
theorem x_223_152 : decode (q_code 223) 152 = .ok (.aload_n 0, 1) := by decide +kernel
theorem x_223_153 : decode (q_code 223) 153 = .ok (.bipush 30, 2) := by decide +kernel
theorem x_223_155 : decode (q_code 223) 155 = .ok (.iload_n 3, 1) := by decide +kernel
theorem x_223_156 : decode (q_code 223) 156 = .ok (.iadd, 1) := by decide +kernel
theorem x_223_157 : decode (q_code 223) 157 = .ok (.iload_n 1, 1) := by decide +kernel
theorem x_223_158 : decode (q_code 223) 158 = .ok (.invokevirtual 132, 3) := by decide +kernel
theorem x_223_161 : decode (q_code 223) 161 = .ok (.return_, 1) := by decide +kernel
theorem x_223_162 : decode (q_code 223) 162 = .ok (.aload_n 0, 1) := by decide +kernel
theorem x_223_163 : decode (q_code 223) 163 = .ok (.getfield 16, 3) := by decide +kernel
theorem x_223_166 : decode (q_code 223) 166 = .ok (.iload_n 1, 1) := by decide +kernel
theorem x_223_167 : decode (q_code 223) 167 = .ok (.invokestatic 223, 3) := by decide +kernel
theorem x_223_170 : decode (q_code 223) 170 = .ok (.istore_n 1, 1) := by decide +kernel
theorem x_223_171 : decode (q_code 223) 171 = .ok (.iinc 2 1, 3) := by decide +kernel
theorem x_223_174 : decode (q_code 223) 174 = .ok (.goto (-121), 3) := by decide +kernel
theorem x_223_177 : decode (q_code 223) 177 = .ok (.aload_n 0, 1) := by decide +kernel
theorem x_223_178 : decode (q_code 223) 178 = .ok (.getfield 24, 3) := by decide +kernel
theorem x_223_181 : decode (q_code 223) 181 = .ok (.ldc_w 319, 3) := by decide +kernel
theorem x_223_184 : decode (q_code 223) 184 = .ok (.aload_n 0, 1) := by decide +kernel
theorem x_223_185 : decode (q_code 223) 185 = .ok (.getfield 56, 3) := by decide +kernel
theorem x_223_188 : decode (q_code 223) 188 = .ok (.getfield 434, 3) := by decide +kernel
theorem x_223_191 : decode (q_code 223) 191 = .ok (.invokevirtual 182, 3) := by decide +kernel
theorem x_223_194 : decode (q_code 223) 194 = .ok (.aload_n 0, 1) := by decide +kernel
theorem x_223_195 : decode (q_code 223) 195 = .ok (.getfield 24, 3) := by decide +kernel
theorem x_223_198 : decode (q_code 223) 198 = .ok (.iconst 4, 1) := by decide +kernel
theorem x_223_199 : decode (q_code 223) 199 = .ok (.ldc_w 321, 3) := by decide +kernel
theorem x_223_202 : decode (q_code 223) 202 = .ok (.invokevirtual 323, 3) := by decide +kernel
theorem x_223_205 : decode (q_code 223) 205 = .ok (.aload_n 0, 1) := by decide +kernel
theorem x_223_206 : decode (q_code 223) 206 = .ok (.getfield 24, 3) := by decide +kernel
theorem x_223_209 : decode (q_code 223) 209 = .ok (.invokevirtual 114, 3) := by decide +kernel
theorem x_223_212 : decode (q_code 223) 212 = .ok (.istore_n 2, 1) := by decide +kernel
theorem x_223_213 : decode (q_code 223) 213 = .ok (.iconst 0, 1) := by decide +kernel
theorem x_223_214 : decode (q_code 223) 214 = .ok (.istore_n 3, 1) := by decide +kernel
theorem x_223_215 : decode (q_code 223) 215 = .ok (.iload_n 3, 1) := by decide +kernel
theorem x_223_216 : decode (q_code 223) 216 = .ok (.aload_n 0, 1) := by decide +kernel
theorem x_223_217 : decode (q_code 223) 217 = .ok (.getfield 56, 3) := by decide +kernel
theorem x_223_220 : decode (q_code 223) 220 = .ok (.getfield 434, 3) := by decide +kernel
theorem x_223_223 : decode (q_code 223) 223 = .ok (.if_icmp .ge 38, 3) := by decide +kernel
theorem x_223_226 : decode (q_code 223) 226 = .ok (.aload_n 0, 1) := by decide +kernel
theorem x_223_227 : decode (q_code 223) 227 = .ok (.getfield 24, 3) := by decide +kernel
theorem x_223_230 : decode (q_code 223) 230 = .ok (.iconst 3, 1) := by decide +kernel
theorem x_223_231 : decode (q_code 223) 231 = .ok (.iload_n 3, 1) := by decide +kernel
theorem x_223_232 : decode (q_code 223) 232 = .ok (.invokevirtual 326, 3) := by decide +kernel
theorem x_223_235 : decode (q_code 223) 235 = .ok (.aload_n 0, 1) := by decide +kernel
theorem x_223_236 : decode (q_code 223) 236 = .ok (.getfield 24, 3) := by decide +kernel
theorem x_223_239 : decode (q_code 223) 239 = .ok (.aload_n 0, 1) := by decide +kernel
theorem x_223_240 : decode (q_code 223) 240 = .ok (.getfield 16, 3) := by decide +kernel
theorem x_223_243 : decode (q_code 223) 243 = .ok (.aload_n 0, 1) := by decide +kernel
theorem x_223_244 : decode (q_code 223) 244 = .ok (.getfield 56, 3) := by decide +kernel
theorem x_223_247 : decode (q_code 223) 247 = .ok (.getfield 435, 3) := by decide +kernel
theorem x_223_250 : decode (q_code 223) 250 = .ok (.iload_n 3, 1) := by decide +kernel
theorem x_223_251 : decode (q_code 223) 251 = .ok (.iaload, 1) := by decide +kernel
theorem x_223_252 : decode (q_code 223) 252 = .ok (.invokevirtual 331, 3) := by decide +kernel
theorem x_223_255 : decode (q_code 223) 255 = .ok (.iinc 3 1, 3) := by decide +kernel
theorem x_223_258 : decode (q_code 223) 258 = .ok (.goto (-43), 3) := by decide +kernel
theorem x_223_261 : decode (q_code 223) 261 = .ok (.aload_n 0, 1) := by decide +kernel
theorem x_223_262 : decode (q_code 223) 262 = .ok (.getfield 24, 3) := by decide +kernel
theorem x_223_265 : decode (q_code 223) 265 = .ok (.iload_n 2, 1) := by decide +kernel
theorem x_223_266 : decode (q_code 223) 266 = .ok (.invokevirtual 168, 3) := by decide +kernel
theorem x_223_269 : decode (q_code 223) 269 = .ok (.return_, 1) := by decide +kernel
theorem x_224_0 : decode (q_code 224) 0 = .ok (.aload_n 0, 1) := by decide +kernel
theorem x_224_1 : decode (q_code 224) 1 = .ok (.getfield 42, 3) := by decide +kernel
theorem x_224_4 : decode (q_code 224) 4 = .ok (.aload_n 0, 1) := by decide +kernel
theorem x_224_5 : decode (q_code 224) 5 = .ok (.getfield 213, 3) := by decide +kernel
theorem x_224_8 : decode (q_code 224) 8 = .ok (.invokevirtual 307, 3) := by decide +kernel
theorem x_224_11 : decode (q_code 224) 11 = .ok (.ifCond .ne 25, 3) := by decide +kernel
theorem x_224_14 : decode (q_code 224) 14 = .ok (.aload_n 0, 1) := by decide +kernel
theorem x_224_15 : decode (q_code 224) 15 = .ok (.bipush 10, 2) := by decide +kernel
theorem x_224_17 : decode (q_code 224) 17 = .ok (.aload_n 0, 1) := by decide +kernel
theorem x_224_18 : decode (q_code 224) 18 = .ok (.getfield 42, 3) := by decide +kernel
theorem x_224_21 : decode (q_code 224) 21 = .ok (.getfield 310, 3) := by decide +kernel
theorem x_224_24 : decode (q_code 224) 24 = .ok (.iadd, 1) := by decide +kernel
theorem x_224_25 : decode (q_code 224) 25 = .ok (.aload_n 0, 1) := by decide +kernel
theorem x_224_26 : decode (q_code 224) 26 = .ok (.getfield 42, 3) := by decide +kernel
theorem x_224_29 : decode (q_code 224) 29 = .ok (.getfield 311, 3) := by decide +kernel
theorem x_224_32 : decode (q_code 224) 32 = .ok (.invokevirtual 132, 3) := by decide +kernel
theorem x_224_35 : decode (q_code 224) 35 = .ok (.return_, 1) := by decide +kernel
theorem x_224_36 : decode (q_code 224) 36 = .ok (.iconst (-1), 1) := by decide +kernel
theorem x_224_37 : decode (q_code 224) 37 = .ok (.istore_n 1, 1) := by decide +kernel
theorem x_224_38 : decode (q_code 224) 38 = .ok (.iconst 0, 1) := by decide +kernel
theorem x_224_39 : decode (q_code 224) 39 = .ok (.istore_n 2, 1) := by decide +kernel
theorem x_224_40 : decode (q_code 224) 40 = .ok (.iconst 1, 1) := by decide +kernel
theorem x_224_41 : decode (q_code 224) 41 = .ok (.istore_n 3, 1) := by decide +kernel
theorem x_224_42 : decode (q_code 224) 42 = .ok (.aload_n 0, 1) := by decide +kernel
theorem x_224_43 : decode (q_code 224) 43 = .ok (.getfield 95, 3) := by decide +kernel
theorem x_224_46 : decode (q_code 224) 46 = .ok (.getfield 189, 3) := by decide +kernel
theorem x_224_49 : decode (q_code 224) 49 = .ok (.istore 4, 2) := by decide +kernel
theorem x_224_51 : decode (q_code 224) 51 = .ok (.iconst 0, 1) := by decide +kernel
theorem x_224_52 : decode (q_code 224) 52 = .ok (.istore 5, 2) := by decide +kernel
theorem x_224_54 : decode (q_code 224) 54 = .ok (.iload 5, 2) := by decide +kernel
theorem x_224_56 : decode (q_code 224) 56 = .ok (.iconst 4, 1) := by decide +kernel
theorem x_224_57 : decode (q_code 224) 57 = .ok (.if_icmp .ge 179, 3) := by decide +kernel
theorem x_224_60 : decode (q_code 224) 60 = .ok (.aload_n 0, 1) := by decide +kernel
theorem x_224_61 : decode (q_code 224) 61 = .ok (.getfield 95, 3) := by decide +kernel
theorem x_224_64 : decode (q_code 224) 64 = .ok (.getfield 289, 3) := by decide +kernel
theorem x_224_67 : decode (q_code 224) 67 = .ok (.iload 5, 2) := by decide +kernel
theorem x_224_69 : decode (q_code 224) 69 = .ok (.aaload, 1) := by decide +kernel
theorem x_224_70 : decode (q_code 224) 70 = .ok (.astore 6, 2) := by decide +kernel
theorem x_224_72 : decode (q_code 224) 72 = .ok (.aload 6, 2) := by decide +kernel
theorem x_224_74 : decode (q_code 224) 74 = .ok (.getfield 375, 3) := by decide +kernel
theorem x_224_77 : decode (q_code 224) 77 = .ok (.ifCond .ne 6, 3) := by decide +kernel
theorem x_224_80 : decode (q_code 224) 80 = .ok (.goto 150, 3) := by decide +kernel
theorem x_224_83 : decode (q_code 224) 83 = .ok (.aload_n 0, 1) := by decide +kernel
theorem x_224_84 : decode (q_code 224) 84 = .ok (.getfield 63, 3) := by decide +kernel
theorem x_224_87 : decode (q_code 224) 87 = .ok (.aload_n 0, 1) := by decide +kernel
theorem x_224_88 : decode (q_code 224) 88 = .ok (.getfield 213, 3) := by decide +kernel
theorem x_224_91 : decode (q_code 224) 91 = .ok (.aload 6, 2) := by decide +kernel
theorem x_224_93 : decode (q_code 224) 93 = .ok (.getfield 438, 3) := by decide +kernel
theorem x_224_96 : decode (q_code 224) 96 = .ok (.aload 6, 2) := by decide +kernel
theorem x_224_98 : decode (q_code 224) 98 = .ok (.getfield 413, 3) := by decide +kernel
theorem x_224_101 : decode (q_code 224) 101 = .ok (.iconst 0, 1) := by decide +kernel
theorem x_224_102 : decode (q_code 224) 102 = .ok (.invokevirtual 440, 3) := by decide +kernel
theorem x_224_105 : decode (q_code 224) 105 = .ok (.istore 7, 2) := by decide +kernel
theorem x_224_107 : decode (q_code 224) 107 = .ok (.aload 6, 2) := by decide +kernel
theorem x_224_109 : decode (q_code 224) 109 = .ok (.getfield 444, 3) := by decide +kernel
theorem x_224_112 : decode (q_code 224) 112 = .ok (.ifCond .eq 32, 3) := by decide +kernel
theorem x_224_115 : decode (q_code 224) 115 = .ok (.aload_n 0, 1) := by decide +kernel
theorem x_224_116 : decode (q_code 224) 116 = .ok (.getfield 63, 3) := by decide +kernel
theorem x_224_119 : decode (q_code 224) 119 = .ok (.aload_n 0, 1) := by decide +kernel
theorem x_224_120 : decode (q_code 224) 120 = .ok (.getfield 213, 3) := by decide +kernel
theorem x_224_123 : decode (q_code 224) 123 = .ok (.aload 6, 2) := by decide +kernel
theorem x_224_125 : decode (q_code 224) 125 = .ok (.getfield 447, 3) := by decide +kernel
theorem x_224_128 : decode (q_code 224) 128 = .ok (.aload 6, 2) := by decide +kernel
theorem x_224_130 : decode (q_code 224) 130 = .ok (.getfield 418, 3) := by decide +kernel
theorem x_224_133 : decode (q_code 224) 133 = .ok (.iconst 1, 1) := by decide +kernel
theorem x_224_134 : decode (q_code 224) 134 = .ok (.invokevirtual 440, 3) := by decide +kernel
theorem x_224_137 : decode (q_code 224) 137 = .ok (.ifCond .eq 7, 3) := by decide +kernel
theorem x_224_140 : decode (q_code 224) 140 = .ok (.iconst 1, 1) := by decide +kernel
theorem x_224_141 : decode (q_code 224) 141 = .ok (.goto 4, 3) := by decide +kernel
theorem x_224_144 : decode (q_code 224) 144 = .ok (.iconst 0, 1) := by decide +kernel
theorem x_224_145 : decode (q_code 224) 145 = .ok (.istore 8, 2) := by decide +kernel
theorem x_224_147 : decode (q_code 224) 147 = .ok (.aload_n 0, 1) := by decide +kernel
theorem x_224_148 : decode (q_code 224) 148 = .ok (.getfield 63, 3) := by decide +kernel
theorem x_224_151 : decode (q_code 224) 151 = .ok (.iload 7, 2) := by decide +kernel
theorem x_224_153 : decode (q_code 224) 153 = .ok (.iload 8, 2) := by decide +kernel
theorem x_224_155 : decode (q_code 224) 155 = .ok (.invokevirtual 449, 3) := by decide +kernel
theorem x_224_158 : decode (q_code 224) 158 = .ok (.aload_n 0, 1) := by decide +kernel
theorem x_224_159 : decode (q_code 224) 159 = .ok (.getfield 63, 3) := by decide +kernel
theorem x_224_162 : decode (q_code 224) 162 = .ok (.getfield 453, 3) := by decide +kernel
theorem x_224_165 : decode (q_code 224) 165 = .ok (.iload_n 2, 1) := by decide +kernel
theorem x_224_166 : decode (q_code 224) 166 = .ok (.if_icmp .gt 30, 3) := by decide +kernel
theorem x_224_169 : decode (q_code 224) 169 = .ok (.iload 7, 2) := by decide +kernel
theorem x_224_171 : decode (q_code 224) 171 = .ok (.ifCond .eq 59, 3) := by decide +kernel
theorem x_224_174 : decode (q_code 224) 174 = .ok (.aload_n 0, 1) := by decide +kernel
theorem x_224_175 : decode (q_code 224) 175 = .ok (.getfield 63, 3) := by decide +kernel
theorem x_224_178 : decode (q_code 224) 178 = .ok (.getfield 453, 3) := by decide +kernel
theorem x_224_181 : decode (q_code 224) 181 = .ok (.iload_n 2, 1) := by decide +kernel
theorem x_224_182 : decode (q_code 224) 182 = .ok (.if_icmp .ne 48, 3) := by decide +kernel
theorem x_224_185 : decode (q_code 224) 185 = .ok (.aload_n 0, 1) := by decide +kernel
theorem x_224_186 : decode (q_code 224) 186 = .ok (.getfield 63, 3) := by decide +kernel
theorem x_224_189 : decode (q_code 224) 189 = .ok (.getfield 456, 3) := by decide +kernel
theorem x_224_192 : decode (q_code 224) 192 = .ok (.iload_n 3, 1) := by decide +kernel
theorem x_224_193 : decode (q_code 224) 193 = .ok (.if_icmp .ge 37, 3) := by decide +kernel
theorem x_224_196 : decode (q_code 224) 196 = .ok (.iload 5, 2) := by decide +kernel
theorem x_224_198 : decode (q_code 224) 198 = .ok (.istore_n 1, 1) := by decide +kernel
theorem x_224_199 : decode (q_code 224) 199 = .ok (.aload_n 0, 1) := by decide +kernel
theorem x_224_200 : decode (q_code 224) 200 = .ok (.getfield 63, 3) := by decide +kernel
theorem x_224_203 : decode (q_code 224) 203 = .ok (.getfield 453, 3) := by decide +kernel
theorem x_224_206 : decode (q_code 224) 206 = .ok (.istore_n 2, 1) := by decide +kernel
theorem x_224_207 : decode (q_code 224) 207 = .ok (.aload_n 0, 1) := by decide +kernel
theorem x_224_208 : decode (q_code 224) 208 = .ok (.getfield 63, 3) := by decide +kernel
theorem x_224_211 : decode (q_code 224) 211 = .ok (.getfield 456, 3) := by decide +kernel
theorem x_224_214 : decode (q_code 224) 214 = .ok (.istore_n 3, 1) := by decide +kernel
theorem x_224_215 : decode (q_code 224) 215 = .ok (.aload_n 0, 1) := by decide +kernel
theorem x_224_216 : decode (q_code 224) 216 = .ok (.getfield 63, 3) := by decide +kernel
theorem x_224_219 : decode (q_code 224) 219 = .ok (.aload 6, 2) := by decide +kernel
theorem x_224_221 : decode (q_code 224) 221 = .ok (.aload_n 0, 1) := by decide +kernel
theorem x_224_222 : decode (q_code 224) 222 = .ok (.getfield 95, 3) := by decide +kernel
theorem x_224_225 : decode (q_code 224) 225 = .ok (.invokevirtual 459, 3) := by decide +kernel
theorem x_224_228 : decode (q_code 224) 228 = .ok (.istore 4, 2) := by decide +kernel
theorem x_224_230 : decode (q_code 224) 230 = .ok (.iinc 5 1, 3) := by decide +kernel
theorem x_224_233 : decode (q_code 224) 233 = .ok (.goto (-179), 3) := by decide +kernel
theorem x_224_236 : decode (q_code 224) 236 = .ok (.aload_n 0, 1) := by decide +kernel
theorem x_224_237 : decode (q_code 224) 237 = .ok (.getfield 24, 3) := by decide +kernel
theorem x_224_240 : decode (q_code 224) 240 = .ok (.ldc 253, 2) := by decide +kernel
theorem x_224_242 : decode (q_code 224) 242 = .ok (.iload_n 1, 1) := by decide +kernel
theorem x_224_243 : decode (q_code 224) 243 = .ok (.invokevirtual 182, 3) := by decide +kernel
theorem x_224_246 : decode (q_code 224) 246 = .ok (.aload_n 0, 1) := by decide +kernel
theorem x_224_247 : decode (q_code 224) 247 = .ok (.getfield 24, 3) := by decide +kernel
theorem x_224_250 : decode (q_code 224) 250 = .ok (.ldc_w 463, 3) := by decide +kernel
theorem x_224_253 : decode (q_code 224) 253 = .ok (.iload_n 2, 1) := by decide +kernel
theorem x_224_254 : decode (q_code 224) 254 = .ok (.invokevirtual 182, 3) := by decide +kernel
theorem x_224_257 : decode (q_code 224) 257 = .ok (.aload_n 0, 1) := by decide +kernel
theorem x_224_258 : decode (q_code 224) 258 = .ok (.getfield 24, 3) := by decide +kernel
theorem x_224_261 : decode (q_code 224) 261 = .ok (.ldc_w 464, 3) := by decide +kernel
theorem x_224_264 : decode (q_code 224) 264 = .ok (.iload_n 3, 1) := by decide +kernel
theorem x_224_265 : decode (q_code 224) 265 = .ok (.invokevirtual 182, 3) := by decide +kernel
theorem x_224_268 : decode (q_code 224) 268 = .ok (.aload_n 0, 1) := by decide +kernel
theorem x_224_269 : decode (q_code 224) 269 = .ok (.getfield 24, 3) := by decide +kernel
theorem x_224_272 : decode (q_code 224) 272 = .ok (.ldc_w 465, 3) := by decide +kernel
theorem x_224_275 : decode (q_code 224) 275 = .ok (.iload 4, 2) := by decide +kernel
theorem x_224_277 : decode (q_code 224) 277 = .ok (.invokevirtual 182, 3) := by decide +kernel
theorem x_224_280 : decode (q_code 224) 280 = .ok (.return_, 1) := by decide +kernel
theorem m_X11_feed {d : Nat} {M : g_M} {Q : Int → g_M → Prop} {a0 : Nat} {v1 : Int} (hv1 : g_InR v1) {v2 : Int} (hv2 : g_InR v2) {v3 : Int} (hv3 : g_InR v3) {v4 : Int} (hv4 : g_InR v4) {v5 : Int} (hv5 : g_InR v5) (h : g_ok M → g_O M a0 11 ∧ g_InR ((g_i M a0 12) + 20) ∧ ((2000 < (g_i M a0 12) + 20 → Q ((-1)) M) ∧ (¬ 2000 < (g_i M a0 12) + 20 → g_Call d 194 [.ref a0, g_n v1] M (g_qV fun M3 => g_ext M M3 → g_ok M3 → g_Call d 194 [.ref a0, g_n v2] M3 (g_qV fun M6 => g_ext M3 M6 → g_ok M6 → g_Call d 194 [.ref a0, g_n v3] M6 (g_qV fun M9 => g_ext M6 M9 → g_ok M9 → g_Call d 194 [.ref a0, g_n v4] M9 (g_qV fun M12 => g_ext M9 M12 → g_ok M12 → g_Call d 194 [.ref a0, g_n v5] M12 (g_qV fun M15 => g_ext M12 M15 → g_ok M15 → Q (g_i M15 a0 12) M15)))))))) : g_Call (d + 1) 193 [.ref a0, g_n v1, g_n v2, g_n v3, g_n v4, g_n v5] M (g_qI Q) := by
  refine g_Call.ok fun hok0 => ?_
  replace h := h hok0
  refine r_body rfl (lv := [(0, .ref a0), (1, g_n v1), (2, g_n v2), (3, g_n v3), (4, g_n v4), (5, g_n v5)]) rfl ?_
  refine g_Run.ok fun hok => ?_
  refine r_aload_n x_193_0 rfl ?_
  obtain ⟨hO1, h⟩ := h
  refine r_getI x_193_1 rfl (ci := 11) (k := 12) (ns := 0) (by decide +kernel) (by decide) rfl (kz := 12) rfl hO1 ?_
  refine r_bipush x_193_4 (x := 20) rfl ?_
  refine r_iadd x_193_6 ?_
  obtain ⟨h2, h⟩ := h
  refine r_sipush x_193_7 (x := 2000) rfl ?_
  refine r_ic_le x_193_10 (t := 15) (by decide +kernel) h2 (g_Rk rfl) (fun hc => ?_) (fun hc => ?_)
  · replace h := h.2 hc
    refine r_aload_n x_193_15 rfl ?_
    refine r_iload_n x_193_16 rfl ?_
    refine r_invV x_193_17 (z := 194) (ns := 0) (by decide +kernel) (as := [g_n v1]) (r := []) rfl rfl rfl hO1 rfl rfl ?_
    refine r_callV h fun M3 hx4 hok5 h => ?_
    replace h := h hx4 hok5
    replace hO1 := hO1.up hx4
    refine r_aload_n x_193_20 rfl ?_
    refine r_iload_n x_193_21 rfl ?_
    refine r_invV x_193_22 (z := 194) (ns := 0) (by decide +kernel) (as := [g_n v2]) (r := []) rfl rfl rfl hO1 rfl rfl ?_
    refine r_callV h fun M6 hx7 hok8 h => ?_
    replace h := h hx7 hok8
    replace hO1 := hO1.up hx7
    refine r_aload_n x_193_25 rfl ?_
    refine r_iload_n x_193_26 rfl ?_
    refine r_invV x_193_27 (z := 194) (ns := 0) (by decide +kernel) (as := [g_n v3]) (r := []) rfl rfl rfl hO1 rfl rfl ?_
    refine r_callV h fun M9 hx10 hok11 h => ?_
    replace h := h hx10 hok11
    replace hO1 := hO1.up hx10
    refine r_aload_n x_193_30 rfl ?_
    refine r_iload x_193_31 rfl ?_
    refine r_invV x_193_33 (z := 194) (ns := 0) (by decide +kernel) (as := [g_n v4]) (r := []) rfl rfl rfl hO1 rfl rfl ?_
    refine r_callV h fun M12 hx13 hok14 h => ?_
    replace h := h hx13 hok14
    replace hO1 := hO1.up hx13
    refine r_aload_n x_193_36 rfl ?_
    refine r_iload x_193_37 rfl ?_
    refine r_invV x_193_39 (z := 194) (ns := 0) (by decide +kernel) (as := [g_n v5]) (r := []) rfl rfl rfl hO1 rfl rfl ?_
    refine r_callV h fun M15 hx16 hok17 h => ?_
    replace h := h hx16 hok17
    replace hO1 := hO1.up hx16
    refine r_aload_n x_193_42 rfl ?_
    refine r_getI x_193_43 rfl (ci := 11) (k := 12) (ns := 0) (by decide +kernel) (by decide) rfl (kz := 12) rfl hO1 ?_
    exact r_retI x_193_46 rfl (hok17.1 _ _) h
  · replace h := h.1 hc
    refine r_iconst x_193_13 ?_
    exact r_retI x_193_14 rfl (g_Rk rfl) h
theorem m_X11_putOnTape {d : Nat} {M : g_M} {Q : g_M → Prop} {a0 : Nat} {v1 : Int} (hv1 : g_InR v1) (h : g_ok M → g_O M a0 11 ∧ g_InR (4 + (g_i M a0 12)) ∧ ∃ b3, g_r M a0 0 = some b3 ∧ ∃ n5, g_A M b3 0 n5 ∧ ((0 : Int) ≤ 4 + (g_i M a0 12) ∧ (4 + (g_i M a0 12) : Int) < n5) ∧ (∀ M8, M8 = g_wi M b3 (4 + (g_i M a0 12)) (g_w8 (g_w8 (g_shr v1 24))) → g_ok M8 → ∃ b12, g_r M8 a0 0 = some b12 ∧ g_InR ((4 + (g_i M a0 12)) + 1) ∧ ∃ n15, g_A M8 b12 0 n15 ∧ ((0 : Int) ≤ (4 + (g_i M a0 12)) + 1 ∧ ((4 + (g_i M a0 12)) + 1 : Int) < n15) ∧ (∀ M18, M18 = g_wi M8 b12 ((4 + (g_i M a0 12)) + 1) (g_w8 (g_w8 (g_shr v1 16))) → g_ok M18 → ∃ b22, g_r M18 a0 0 = some b22 ∧ g_InR ((4 + (g_i M a0 12)) + 2) ∧ ∃ n25, g_A M18 b22 0 n25 ∧ ((0 : Int) ≤ (4 + (g_i M a0 12)) + 2 ∧ ((4 + (g_i M a0 12)) + 2 : Int) < n25) ∧ (∀ M28, M28 = g_wi M18 b22 ((4 + (g_i M a0 12)) + 2) (g_w8 (g_w8 (g_shr v1 8))) → g_ok M28 → ∃ b32, g_r M28 a0 0 = some b32 ∧ g_InR ((4 + (g_i M a0 12)) + 3) ∧ ∃ n35, g_A M28 b32 0 n35 ∧ ((0 : Int) ≤ (4 + (g_i M a0 12)) + 3 ∧ ((4 + (g_i M a0 12)) + 3 : Int) < n35) ∧ (∀ M38, M38 = g_wi M28 b32 ((4 + (g_i M a0 12)) + 3) (g_w8 (g_w8 v1)) → g_ok M38 → g_InR ((g_i M38 a0 12) + 4) ∧ (∀ M43, M43 = g_wi M38 a0 12 ((g_i M38 a0 12) + 4) → g_ok M43 → Q M43)))))) : g_Call (d + 1) 194 [.ref a0, g_n v1] M (g_qV Q) := by
  refine g_Call.ok fun hok0 => ?_
  replace h := h hok0
  refine r_body rfl (lv := [(0, .ref a0), (1, g_n v1)]) rfl ?_
  refine g_Run.ok fun hok => ?_
  refine r_iconst x_194_0 ?_
  refine r_aload_n x_194_1 rfl ?_
  obtain ⟨hO1, h⟩ := h
  refine r_getI x_194_2 rfl (ci := 11) (k := 12) (ns := 0) (by decide +kernel) (by decide) rfl (kz := 12) rfl hO1 ?_
  refine r_iadd x_194_5 ?_
  obtain ⟨h2, h⟩ := h
  refine r_istore_n x_194_6 (by decide +kernel) rfl (lv1 := [(0, .ref a0), (1, g_n v1), (2, g_n (4 + (g_i M a0 12)))]) rfl ?_
  refine r_aload_n x_194_7 rfl ?_
  obtain ⟨b3, hb4, h⟩ := h
  refine r_getR x_194_8 rfl (ci := 11) (k := 0) (ns := 0) (by decide +kernel) (by decide) rfl (kz := 0) rfl hO1 hb4 ?_
  refine r_iload_n x_194_11 rfl ?_
  refine r_iload_n x_194_12 rfl ?_
  refine r_bipush x_194_13 (x := 24) rfl ?_
  refine r_ishr x_194_15 ?_
  refine r_i2b x_194_16 ?_
  obtain ⟨n5, hA6, h⟩ := h
  obtain ⟨h7, h⟩ := h
  refine r_bast0 x_194_17 hA6 h2 h7.1 h7.2 ?_
  obtain ⟨M8, hM9⟩ : ∃ Mz, Mz = g_wi M b3 (4 + (g_i M a0 12)) (g_w8 (g_w8 (g_shr v1 24))) := ⟨_, rfl⟩
  rw [← hM9]
  refine g_Run.ok fun hok10 => ?_
  replace h := h M8 hM9 hok10
  have hx11 := g_extW hM9
  replace hO1 := hO1.up hx11
  replace hA6 := hA6.up hx11
  refine r_aload_n x_194_18 rfl ?_
  obtain ⟨b12, hb13, h⟩ := h
  refine r_getR x_194_19 rfl (ci := 11) (k := 0) (ns := 0) (by decide +kernel) (by decide) rfl (kz := 0) rfl hO1 hb13 ?_
  refine r_iload_n x_194_22 rfl ?_
  refine r_iconst x_194_23 ?_
  refine r_iadd x_194_24 ?_
  obtain ⟨h14, h⟩ := h
  refine r_iload_n x_194_25 rfl ?_
  refine r_bipush x_194_26 (x := 16) rfl ?_
  refine r_ishr x_194_28 ?_
  refine r_i2b x_194_29 ?_
  obtain ⟨n15, hA16, h⟩ := h
  obtain ⟨h17, h⟩ := h
  refine r_bast0 x_194_30 hA16 h14 h17.1 h17.2 ?_
  obtain ⟨M18, hM19⟩ : ∃ Mz, Mz = g_wi M8 b12 ((4 + (g_i M a0 12)) + 1) (g_w8 (g_w8 (g_shr v1 16))) := ⟨_, rfl⟩
  rw [← hM19]
  refine g_Run.ok fun hok20 => ?_
  replace h := h M18 hM19 hok20
  have hx21 := g_extW hM19
  replace hO1 := hO1.up hx21
  replace hA6 := hA6.up hx21
  replace hA16 := hA16.up hx21
  refine r_aload_n x_194_31 rfl ?_
  obtain ⟨b22, hb23, h⟩ := h
  refine r_getR x_194_32 rfl (ci := 11) (k := 0) (ns := 0) (by decide +kernel) (by decide) rfl (kz := 0) rfl hO1 hb23 ?_
  refine r_iload_n x_194_35 rfl ?_
  refine r_iconst x_194_36 ?_
  refine r_iadd x_194_37 ?_
  obtain ⟨h24, h⟩ := h
  refine r_iload_n x_194_38 rfl ?_
  refine r_bipush x_194_39 (x := 8) rfl ?_
  refine r_ishr x_194_41 ?_
  refine r_i2b x_194_42 ?_
  obtain ⟨n25, hA26, h⟩ := h
  obtain ⟨h27, h⟩ := h
  refine r_bast0 x_194_43 hA26 h24 h27.1 h27.2 ?_
  obtain ⟨M28, hM29⟩ : ∃ Mz, Mz = g_wi M18 b22 ((4 + (g_i M a0 12)) + 2) (g_w8 (g_w8 (g_shr v1 8))) := ⟨_, rfl⟩
  rw [← hM29]
  refine g_Run.ok fun hok30 => ?_
  replace h := h M28 hM29 hok30
  have hx31 := g_extW hM29
  replace hO1 := hO1.up hx31
  replace hA6 := hA6.up hx31
  replace hA16 := hA16.up hx31
  replace hA26 := hA26.up hx31
  refine r_aload_n x_194_44 rfl ?_
  obtain ⟨b32, hb33, h⟩ := h
  refine r_getR x_194_45 rfl (ci := 11) (k := 0) (ns := 0) (by decide +kernel) (by decide) rfl (kz := 0) rfl hO1 hb33 ?_
  refine r_iload_n x_194_48 rfl ?_
  refine r_iconst x_194_49 ?_
  refine r_iadd x_194_50 ?_
  obtain ⟨h34, h⟩ := h
  refine r_iload_n x_194_51 rfl ?_
  refine r_i2b x_194_52 ?_
  obtain ⟨n35, hA36, h⟩ := h
  obtain ⟨h37, h⟩ := h
  refine r_bast0 x_194_53 hA36 h34 h37.1 h37.2 ?_
  obtain ⟨M38, hM39⟩ : ∃ Mz, Mz = g_wi M28 b32 ((4 + (g_i M a0 12)) + 3) (g_w8 (g_w8 v1)) := ⟨_, rfl⟩
  rw [← hM39]
  refine g_Run.ok fun hok40 => ?_
  replace h := h M38 hM39 hok40
  have hx41 := g_extW hM39
  replace hO1 := hO1.up hx41
  replace hA6 := hA6.up hx41
  replace hA16 := hA16.up hx41
  replace hA26 := hA26.up hx41
  replace hA36 := hA36.up hx41
  refine r_aload_n x_194_54 rfl ?_
  refine r_dup x_194_55 rfl ?_
  refine r_getI x_194_56 rfl (ci := 11) (k := 12) (ns := 0) (by decide +kernel) (by decide) rfl (kz := 12) rfl hO1 ?_
  refine r_iconst x_194_59 ?_
  refine r_iadd x_194_60 ?_
  obtain ⟨h42, h⟩ := h
  refine r_putI x_194_61 (ci := 11) (k := 12) (ns := 0) (by decide +kernel) (by decide) (g_f0 (by decide +kernel)) rfl h42 trivial (kz := 12) rfl hO1 ?_
  obtain ⟨M43, hM44⟩ : ∃ Mz, Mz = g_wi M38 a0 12 ((g_i M38 a0 12) + 4) := ⟨_, rfl⟩
  rw [← hM44]
  refine g_Run.ok fun hok45 => ?_
  replace h := h M43 hM44 hok45
  have hx46 := g_extW hM44
  replace hO1 := hO1.up hx46
  replace hA6 := hA6.up hx46
  replace hA16 := hA16.up hx46
  replace hA26 := hA26.up hx46
  replace hA36 := hA36.up hx46
  exact r_retV x_194_64 rfl h
theorem m_X11_ask {d : Nat} {M : g_M} {Q : Int → g_M → Prop} {a0 : Nat} {v1 : Int} (hv1 : g_InR v1) (h : g_ok M → ((v1 < 0 → Q ((-1)) M) ∧ (¬ v1 < 0 → g_O M a0 11 ∧ ((g_i M a0 12 < v1 → Q ((-1)) M) ∧ (¬ g_i M a0 12 < v1 → (∀ M2, M2 = g_wi M a0 12 0 → g_ok M2 → (∀ M6, M6 = g_wi M2 a0 17 0 → g_ok M6 → ∃ b10, g_r M6 a0 1 = some b10 ∧ g_O M6 b10 4 ∧ g_Call d 75 [.ref b10, g_n 0, g_n 8000] M6 (g_qV fun M13 => g_ext M6 M13 → g_ok M13 → ∃ b16, g_r M13 a0 1 = some b16 ∧ g_O M13 b16 4 ∧ g_Call d 85 [.ref b16] M13 (g_qI fun r22 M19 => g_ext M13 M19 → g_ok M19 → g_InR r22 → ∃ b24, g_r M19 a0 2 = some b24 ∧ g_O M19 b24 6 ∧ g_Call d 96 [.ref b24, g_n v1] M19 (g_qI fun r30 M27 => g_ext M19 M27 → g_ok M27 → g_InR r30 → ((r30 = 0 → ∃ b40, g_r M27 a0 2 = some b40 ∧ g_O M27 b40 6 ∧ ∃ b43, g_r M27 a0 2 = some b43 ∧ g_O M27 b43 6 ∧ g_Call d 197 [.ref a0, g_n (g_i M27 b40 1), g_n (g_i M27 b43 2)] M27 (g_qV fun M46 => g_ext M27 M46 → g_ok M46 → g_Run d 195 91 [(0, .ref a0), (1, g_n v1)] [] M46 (g_qI Q))) ∧ (¬ r30 = 0 → g_Call d 205 [.ref a0] M27 (g_qI fun r35 M32 => g_ext M27 M32 → g_ok M32 → g_InR r35 → ((r35 < 0 → g_Run d 195 91 [(0, .ref a0), (1, g_n v1)] [] M32 (g_qI Q)) ∧ (¬ r35 < 0 → g_Call d 198 [.ref a0, g_n 9, g_n r35] M32 (g_qV fun M37 => g_ext M32 M37 → g_ok M37 → g_Run d 195 91 [(0, .ref a0), (1, g_n v1)] [] M37 (g_qI Q))))))))))))))))) : g_Call (d + 1) 195 [.ref a0, g_n v1] M (g_qI Q) := by
  refine g_Call.ok fun hok0 => ?_
  replace h := h hok0
  refine r_body rfl (lv := [(0, .ref a0), (1, g_n v1)]) rfl ?_
  refine g_Run.ok fun hok => ?_
  refine r_iload_n x_195_0 rfl ?_
  refine r_if_lt x_195_1 (t := 12) (by decide +kernel) hv1 (fun hc => ?_) (fun hc => ?_)
  · replace h := h.1 hc
    refine r_iconst x_195_12 ?_
    exact r_retI x_195_13 rfl (g_Rk rfl) h
  · replace h := h.2 hc
    refine r_iload_n x_195_4 rfl ?_
    refine r_aload_n x_195_5 rfl ?_
    obtain ⟨hO1, h⟩ := h
    refine r_getI x_195_6 rfl (ci := 11) (k := 12) (ns := 0) (by decide +kernel) (by decide) rfl (kz := 12) rfl hO1 ?_
    refine r_ic_le x_195_9 (t := 14) (by decide +kernel) hv1 (hok.1 _ _) (fun hc => ?_) (fun hc => ?_)
    · replace h := h.2 hc
      refine r_aload_n x_195_14 rfl ?_
      refine r_iconst x_195_15 ?_
      refine r_putI x_195_16 (ci := 11) (k := 12) (ns := 0) (by decide +kernel) (by decide) (g_f0 (by decide +kernel)) rfl (g_Rk rfl) trivial (kz := 12) rfl hO1 ?_
      obtain ⟨M2, hM3⟩ : ∃ Mz, Mz = g_wi M a0 12 0 := ⟨_, rfl⟩
      rw [← hM3]
      refine g_Run.ok fun hok4 => ?_
      replace h := h M2 hM3 hok4
      have hx5 := g_extW hM3
      replace hO1 := hO1.up hx5
      refine r_aload_n x_195_19 rfl ?_
      refine r_iconst x_195_20 ?_
      refine r_putI x_195_21 (ci := 11) (k := 17) (ns := 0) (by decide +kernel) (by decide) (g_f0 (by decide +kernel)) rfl (g_Rk rfl) trivial (kz := 17) rfl hO1 ?_
      obtain ⟨M6, hM7⟩ : ∃ Mz, Mz = g_wi M2 a0 17 0 := ⟨_, rfl⟩
      rw [← hM7]
      refine g_Run.ok fun hok8 => ?_
      replace h := h M6 hM7 hok8
      have hx9 := g_extW hM7
      replace hO1 := hO1.up hx9
      refine r_aload_n x_195_24 rfl ?_
      obtain ⟨b10, hb11, h⟩ := h
      refine r_getR x_195_25 rfl (ci := 11) (k := 1) (ns := 0) (by decide +kernel) (by decide) rfl (kz := 1) rfl hO1 hb11 ?_
      refine r_iconst x_195_28 ?_
      refine r_sipush x_195_29 (x := 8000) rfl ?_
      obtain ⟨hO12, h⟩ := h
      refine r_invV x_195_32 (z := 75) (ns := 1) (by decide +kernel) (as := [g_n 0, g_n 8000]) (r := []) rfl rfl rfl hO12 rfl rfl ?_
      refine r_callV h fun M13 hx14 hok15 h => ?_
      replace h := h hx14 hok15
      replace hO1 := hO1.up hx14
      replace hO12 := hO12.up hx14
      refine r_aload_n x_195_35 rfl ?_
      obtain ⟨b16, hb17, h⟩ := h
      refine r_getR x_195_36 rfl (ci := 11) (k := 1) (ns := 0) (by decide +kernel) (by decide) rfl (kz := 1) rfl hO1 hb17 ?_
      obtain ⟨hO18, h⟩ := h
      refine r_invV x_195_39 (z := 85) (ns := 1) (by decide +kernel) (as := []) (r := []) rfl rfl rfl hO18 rfl rfl ?_
      refine r_callI h fun r22 M19 hx20 hok21 hr23 h => ?_
      replace h := h hx20 hok21 hr23
      replace hO1 := hO1.up hx20
      replace hO12 := hO12.up hx20
      replace hO18 := hO18.up hx20
      refine r_pop x_195_42 rfl ?_
      refine r_aload_n x_195_43 rfl ?_
      obtain ⟨b24, hb25, h⟩ := h
      refine r_getR x_195_44 rfl (ci := 11) (k := 2) (ns := 0) (by decide +kernel) (by decide) rfl (kz := 2) rfl hO1 hb25 ?_
      refine r_iload_n x_195_47 rfl ?_
      obtain ⟨hO26, h⟩ := h
      refine r_invV x_195_48 (z := 96) (ns := 1) (by decide +kernel) (as := [g_n v1]) (r := []) rfl rfl rfl hO26 rfl rfl ?_
      refine r_callI h fun r30 M27 hx28 hok29 hr31 h => ?_
      replace h := h hx28 hok29 hr31
      replace hO1 := hO1.up hx28
      replace hO12 := hO12.up hx28
      replace hO18 := hO18.up hx28
      replace hO26 := hO26.up hx28
      refine r_if_ne x_195_51 (t := 75) (by decide +kernel) hr31 (fun hc => ?_) (fun hc => ?_)
      · replace h := h.2 hc
        refine r_aload_n x_195_75 rfl ?_
        refine r_invV x_195_76 (z := 205) (ns := 0) (by decide +kernel) (as := []) (r := []) rfl rfl rfl hO1 rfl rfl ?_
        refine r_callI h fun r35 M32 hx33 hok34 hr36 h => ?_
        replace h := h hx33 hok34 hr36
        replace hO1 := hO1.up hx33
        replace hO12 := hO12.up hx33
        replace hO18 := hO18.up hx33
        replace hO26 := hO26.up hx33
        refine r_istore_n x_195_79 (by decide +kernel) rfl (lv1 := [(0, .ref a0), (1, g_n v1), (2, g_n r35)]) rfl ?_
        refine r_iload_n x_195_80 rfl ?_
        refine r_if_lt x_195_81 (t := 91) (by decide +kernel) hr36 (fun hc => ?_) (fun hc => ?_)
        · replace h := h.1 hc
          refine g_drop [0, 1] (lv1 := [(0, .ref a0), (1, g_n v1)]) rfl ?_
          exact h
        · replace h := h.2 hc
          refine r_aload_n x_195_84 rfl ?_
          refine r_bipush x_195_85 (x := 9) rfl ?_
          refine r_iload_n x_195_87 rfl ?_
          refine r_invV x_195_88 (z := 198) (ns := 0) (by decide +kernel) (as := [g_n 9, g_n r35]) (r := []) rfl rfl rfl hO1 rfl rfl ?_
          refine r_callV h fun M37 hx38 hok39 h => ?_
          replace h := h hx38 hok39
          replace hO1 := hO1.up hx38
          replace hO12 := hO12.up hx38
          replace hO18 := hO18.up hx38
          replace hO26 := hO26.up hx38
          refine g_drop [0, 1] (lv1 := [(0, .ref a0), (1, g_n v1)]) rfl ?_
          exact h
      · replace h := h.1 hc
        refine r_aload_n x_195_54 rfl ?_
        refine r_aload_n x_195_55 rfl ?_
        obtain ⟨b40, hb41, h⟩ := h
        refine r_getR x_195_56 rfl (ci := 11) (k := 2) (ns := 0) (by decide +kernel) (by decide) rfl (kz := 2) rfl hO1 hb41 ?_
        obtain ⟨hO42, h⟩ := h
        refine r_getI x_195_59 rfl (ci := 6) (k := 1) (ns := 1) (by decide +kernel) (by decide) rfl (kz := 1) rfl hO42 ?_
        refine r_aload_n x_195_62 rfl ?_
        obtain ⟨b43, hb44, h⟩ := h
        refine r_getR x_195_63 rfl (ci := 11) (k := 2) (ns := 0) (by decide +kernel) (by decide) rfl (kz := 2) rfl hO1 hb44 ?_
        obtain ⟨hO45, h⟩ := h
        refine r_getI x_195_66 rfl (ci := 6) (k := 2) (ns := 1) (by decide +kernel) (by decide) rfl (kz := 2) rfl hO45 ?_
        refine r_invV x_195_69 (z := 197) (ns := 0) (by decide +kernel) (as := [g_n (g_i M27 b40 1), g_n (g_i M27 b43 2)]) (r := []) rfl rfl rfl hO1 rfl rfl ?_
        refine r_callV h fun M46 hx47 hok48 h => ?_
        replace h := h hx47 hok48
        replace hO1 := hO1.up hx47
        replace hO12 := hO12.up hx47
        replace hO18 := hO18.up hx47
        replace hO26 := hO26.up hx47
        replace hO42 := hO42.up hx47
        replace hO45 := hO45.up hx47
        refine r_goto x_195_72 (t := 91) (by decide +kernel) ?_
        exact h
    · replace h := h.1 hc
      refine r_iconst x_195_12 ?_
      exact r_retI x_195_13 rfl (g_Rk rfl) h
theorem s_X11_ask_91 {d : Nat} {M : g_M} {Q : Int → g_M → Prop} {a0 : Nat} {v1 : Int} (hv1 : g_InR v1) (h : g_ok M → g_O M a0 11 ∧ ((g_i M a0 17 = 0 → ((g_i M a0 13 = 1 → g_Call d 213 [.ref a0] M (g_qV fun M2 => g_ext M M2 → g_ok M2 → g_Run d 195 219 [(0, .ref a0), (1, g_n v1)] [] M2 (g_qI Q))) ∧ (¬ g_i M a0 13 = 1 → ((g_i M a0 13 = 2 → g_Call d 215 [.ref a0] M (g_qV fun M6 => g_ext M M6 → g_ok M6 → g_Run d 195 219 [(0, .ref a0), (1, g_n v1)] [] M6 (g_qI Q))) ∧ (¬ g_i M a0 13 = 2 → ((g_i M a0 13 = 3 → g_Call d 216 [.ref a0] M (g_qV fun M10 => g_ext M M10 → g_ok M10 → g_Run d 195 219 [(0, .ref a0), (1, g_n v1)] [] M10 (g_qI Q))) ∧ (¬ g_i M a0 13 = 3 → ((g_i M a0 13 = 4 → g_Call d 218 [.ref a0] M (g_qV fun M14 => g_ext M M14 → g_ok M14 → g_Run d 195 219 [(0, .ref a0), (1, g_n v1)] [] M14 (g_qI Q))) ∧ (¬ g_i M a0 13 = 4 → ((g_i M a0 13 = 5 → g_Call d 217 [.ref a0] M (g_qV fun M18 => g_ext M M18 → g_ok M18 → g_Run d 195 219 [(0, .ref a0), (1, g_n v1)] [] M18 (g_qI Q))) ∧ (¬ g_i M a0 13 = 5 → ((g_i M a0 13 = 6 → g_Call d 219 [.ref a0] M (g_qV fun M22 => g_ext M M22 → g_ok M22 → g_Run d 195 219 [(0, .ref a0), (1, g_n v1)] [] M22 (g_qI Q))) ∧ (¬ g_i M a0 13 = 6 → ((g_i M a0 13 = 7 → g_Call d 221 [.ref a0] M (g_qV fun M26 => g_ext M M26 → g_ok M26 → g_Run d 195 219 [(0, .ref a0), (1, g_n v1)] [] M26 (g_qI Q))) ∧ (¬ g_i M a0 13 = 7 → ((g_i M a0 13 = 8 → g_Call d 223 [.ref a0] M (g_qV fun M30 => g_ext M M30 → g_ok M30 → g_Run d 195 219 [(0, .ref a0), (1, g_n v1)] [] M30 (g_qI Q))) ∧ (¬ g_i M a0 13 = 8 → ((g_i M a0 13 = 9 → g_Call d 224 [.ref a0] M (g_qV fun M34 => g_ext M M34 → g_ok M34 → g_Run d 195 219 [(0, .ref a0), (1, g_n v1)] [] M34 (g_qI Q))) ∧ (¬ g_i M a0 13 = 9 → g_Call d 222 [.ref a0] M (g_qV fun M38 => g_ext M M38 → g_ok M38 → g_Run d 195 219 [(0, .ref a0), (1, g_n v1)] [] M38 (g_qI Q))))))))))))))))))))) ∧ (¬ g_i M a0 17 = 0 → g_Run d 195 219 [(0, .ref a0), (1, g_n v1)] [] M (g_qI Q)))) : g_Run d 195 91 [(0, .ref a0), (1, g_n v1)] [] M (g_qI Q) := by
  refine g_Run.ok fun hok => ?_
  replace h := h hok
  refine r_aload_n x_195_91 rfl ?_
  obtain ⟨hO1, h⟩ := h
  refine r_getI x_195_92 rfl (ci := 11) (k := 17) (ns := 0) (by decide +kernel) (by decide) rfl (kz := 17) rfl hO1 ?_
  refine r_if_ne x_195_95 (t := 219) (by decide +kernel) (hok.1 _ _) (fun hc => ?_) (fun hc => ?_)
  · replace h := h.2 hc
    exact h
  · replace h := h.1 hc
    refine r_aload_n x_195_98 rfl ?_
    refine r_getI x_195_99 rfl (ci := 11) (k := 13) (ns := 0) (by decide +kernel) (by decide) rfl (kz := 13) rfl hO1 ?_
    by_cases hk5 : g_i M a0 13 = 1
    · refine r_tableAt x_195_102 hk5 (t := 152) (g_Rk rfl) (by decide +kernel) ?_
      replace h := h.1 hk5
      refine r_aload_n x_195_152 rfl ?_
      refine r_invV x_195_153 (z := 213) (ns := 0) (by decide +kernel) (as := []) (r := []) rfl rfl rfl hO1 rfl rfl ?_
      refine r_callV h fun M2 hx3 hok4 h => ?_
      replace h := h hx3 hok4
      replace hO1 := hO1.up hx3
      refine r_goto x_195_156 (t := 219) (by decide +kernel) ?_
      exact h
    replace h := h.2 hk5
    by_cases hk9 : g_i M a0 13 = 2
    · refine r_tableAt x_195_102 hk9 (t := 159) (g_Rk rfl) (by decide +kernel) ?_
      replace h := h.1 hk9
      refine r_aload_n x_195_159 rfl ?_
      refine r_invV x_195_160 (z := 215) (ns := 0) (by decide +kernel) (as := []) (r := []) rfl rfl rfl hO1 rfl rfl ?_
      refine r_callV h fun M6 hx7 hok8 h => ?_
      replace h := h hx7 hok8
      replace hO1 := hO1.up hx7
      refine r_goto x_195_163 (t := 219) (by decide +kernel) ?_
      exact h
    replace h := h.2 hk9
    by_cases hk13 : g_i M a0 13 = 3
    · refine r_tableAt x_195_102 hk13 (t := 166) (g_Rk rfl) (by decide +kernel) ?_
      replace h := h.1 hk13
      refine r_aload_n x_195_166 rfl ?_
      refine r_invV x_195_167 (z := 216) (ns := 0) (by decide +kernel) (as := []) (r := []) rfl rfl rfl hO1 rfl rfl ?_
      refine r_callV h fun M10 hx11 hok12 h => ?_
      replace h := h hx11 hok12
      replace hO1 := hO1.up hx11
      refine r_goto x_195_170 (t := 219) (by decide +kernel) ?_
      exact h
    replace h := h.2 hk13
    by_cases hk17 : g_i M a0 13 = 4
    · refine r_tableAt x_195_102 hk17 (t := 173) (g_Rk rfl) (by decide +kernel) ?_
      replace h := h.1 hk17
      refine r_aload_n x_195_173 rfl ?_
      refine r_invV x_195_174 (z := 218) (ns := 0) (by decide +kernel) (as := []) (r := []) rfl rfl rfl hO1 rfl rfl ?_
      refine r_callV h fun M14 hx15 hok16 h => ?_
      replace h := h hx15 hok16
      replace hO1 := hO1.up hx15
      refine r_goto x_195_177 (t := 219) (by decide +kernel) ?_
      exact h
    replace h := h.2 hk17
    by_cases hk21 : g_i M a0 13 = 5
    · refine r_tableAt x_195_102 hk21 (t := 180) (g_Rk rfl) (by decide +kernel) ?_
      replace h := h.1 hk21
      refine r_aload_n x_195_180 rfl ?_
      refine r_invV x_195_181 (z := 217) (ns := 0) (by decide +kernel) (as := []) (r := []) rfl rfl rfl hO1 rfl rfl ?_
      refine r_callV h fun M18 hx19 hok20 h => ?_
      replace h := h hx19 hok20
      replace hO1 := hO1.up hx19
      refine r_goto x_195_184 (t := 219) (by decide +kernel) ?_
      exact h
    replace h := h.2 hk21
    by_cases hk25 : g_i M a0 13 = 6
    · refine r_tableAt x_195_102 hk25 (t := 187) (g_Rk rfl) (by decide +kernel) ?_
      replace h := h.1 hk25
      refine r_aload_n x_195_187 rfl ?_
      refine r_invV x_195_188 (z := 219) (ns := 0) (by decide +kernel) (as := []) (r := []) rfl rfl rfl hO1 rfl rfl ?_
      refine r_callV h fun M22 hx23 hok24 h => ?_
      replace h := h hx23 hok24
      replace hO1 := hO1.up hx23
      refine r_goto x_195_191 (t := 219) (by decide +kernel) ?_
      exact h
    replace h := h.2 hk25
    by_cases hk29 : g_i M a0 13 = 7
    · refine r_tableAt x_195_102 hk29 (t := 194) (g_Rk rfl) (by decide +kernel) ?_
      replace h := h.1 hk29
      refine r_aload_n x_195_194 rfl ?_
      refine r_invV x_195_195 (z := 221) (ns := 0) (by decide +kernel) (as := []) (r := []) rfl rfl rfl hO1 rfl rfl ?_
      refine r_callV h fun M26 hx27 hok28 h => ?_
      replace h := h hx27 hok28
      replace hO1 := hO1.up hx27
      refine r_goto x_195_198 (t := 219) (by decide +kernel) ?_
      exact h
    replace h := h.2 hk29
    by_cases hk33 : g_i M a0 13 = 8
    · refine r_tableAt x_195_102 hk33 (t := 201) (g_Rk rfl) (by decide +kernel) ?_
      replace h := h.1 hk33
      refine r_aload_n x_195_201 rfl ?_
      refine r_invV x_195_202 (z := 223) (ns := 0) (by decide +kernel) (as := []) (r := []) rfl rfl rfl hO1 rfl rfl ?_
      refine r_callV h fun M30 hx31 hok32 h => ?_
      replace h := h hx31 hok32
      replace hO1 := hO1.up hx31
      refine r_goto x_195_205 (t := 219) (by decide +kernel) ?_
      exact h
    replace h := h.2 hk33
    by_cases hk37 : g_i M a0 13 = 9
    · refine r_tableAt x_195_102 hk37 (t := 208) (g_Rk rfl) (by decide +kernel) ?_
      replace h := h.1 hk37
      refine r_aload_n x_195_208 rfl ?_
      refine r_invV x_195_209 (z := 224) (ns := 0) (by decide +kernel) (as := []) (r := []) rfl rfl rfl hO1 rfl rfl ?_
      refine r_callV h fun M34 hx35 hok36 h => ?_
      replace h := h hx35 hok36
      replace hO1 := hO1.up hx35
      refine r_goto x_195_212 (t := 219) (by decide +kernel) ?_
      exact h
    replace h := h.2 hk37
    refine r_tableD x_195_102 (hok.1 _ _) (t := 215) (lo := 1) (hi := 9) (by omega) (by decide +kernel) ?_
    refine r_aload_n x_195_215 rfl ?_
    refine r_invV x_195_216 (z := 222) (ns := 0) (by decide +kernel) (as := []) (r := []) rfl rfl rfl hO1 rfl rfl ?_
    refine r_callV h fun M38 hx39 hok40 h => ?_
    replace h := h hx39 hok40
    replace hO1 := hO1.up hx39
    exact h
theorem s_X11_ask_219 {d : Nat} {M : g_M} {Q : Int → g_M → Prop} {a0 : Nat} {v1 : Int} (hv1 : g_InR v1) (h : g_ok M → g_O M a0 11 ∧ ∃ b2, g_r M a0 1 = some b2 ∧ g_O M b2 4 ∧ g_Call d 86 [.ref b2, g_n 0] M (g_qV fun M5 => g_ext M M5 → g_ok M5 → ((g_i M5 a0 17 = 0 → ∃ b17, g_r M5 a0 1 = some b17 ∧ g_O M5 b17 4 ∧ ((g_i M5 b17 3 = 0 → ((g_i M5 a0 17 = 0 → ∃ b20, g_r M5 a0 1 = some b20 ∧ g_O M5 b20 4 ∧ Q (g_i M5 b20 1) M5) ∧ (¬ g_i M5 a0 17 = 0 → g_Call d 196 [.ref a0] M5 (g_qV fun M23 => g_ext M5 M23 → g_ok M23 → ∃ b26, g_r M23 a0 1 = some b26 ∧ g_O M23 b26 4 ∧ Q (g_i M23 b26 1) M23)))) ∧ (¬ g_i M5 b17 3 = 0 → g_Call d 197 [.ref a0, g_n 40, g_n ((-1))] M5 (g_qV fun M29 => g_ext M5 M29 → g_ok M29 → ((g_i M29 a0 17 = 0 → ∃ b32, g_r M29 a0 1 = some b32 ∧ g_O M29 b32 4 ∧ Q (g_i M29 b32 1) M29) ∧ (¬ g_i M29 a0 17 = 0 → g_Call d 196 [.ref a0] M29 (g_qV fun M35 => g_ext M29 M35 → g_ok M35 → ∃ b38, g_r M35 a0 1 = some b38 ∧ g_O M35 b38 4 ∧ Q (g_i M35 b38 1) M35))))))) ∧ (¬ g_i M5 a0 17 = 0 → ((g_i M5 a0 17 = 0 → ∃ b8, g_r M5 a0 1 = some b8 ∧ g_O M5 b8 4 ∧ Q (g_i M5 b8 1) M5) ∧ (¬ g_i M5 a0 17 = 0 → g_Call d 196 [.ref a0] M5 (g_qV fun M11 => g_ext M5 M11 → g_ok M11 → ∃ b14, g_r M11 a0 1 = some b14 ∧ g_O M11 b14 4 ∧ Q (g_i M11 b14 1) M11))))))) : g_Run d 195 219 [(0, .ref a0), (1, g_n v1)] [] M (g_qI Q) := by
  refine g_Run.ok fun hok => ?_
  replace h := h hok
  refine r_aload_n x_195_219 rfl ?_
  obtain ⟨hO1, h⟩ := h
  obtain ⟨b2, hb3, h⟩ := h
  refine r_getR x_195_220 rfl (ci := 11) (k := 1) (ns := 0) (by decide +kernel) (by decide) rfl (kz := 1) rfl hO1 hb3 ?_
  refine r_iconst x_195_223 ?_
  obtain ⟨hO4, h⟩ := h
  refine r_invV x_195_224 (z := 86) (ns := 1) (by decide +kernel) (as := [g_n 0]) (r := []) rfl rfl rfl hO4 rfl rfl ?_
  refine r_callV h fun M5 hx6 hok7 h => ?_
  replace h := h hx6 hok7
  replace hO1 := hO1.up hx6
  replace hO4 := hO4.up hx6
  refine r_aload_n x_195_227 rfl ?_
  refine r_getI x_195_228 rfl (ci := 11) (k := 17) (ns := 0) (by decide +kernel) (by decide) rfl (kz := 17) rfl hO1 ?_
  refine r_if_ne x_195_231 (t := 251) (by decide +kernel) (hok7.1 _ _) (fun hc => ?_) (fun hc => ?_)
  · replace h := h.2 hc
    refine r_aload_n x_195_251 rfl ?_
    refine r_getI x_195_252 rfl (ci := 11) (k := 17) (ns := 0) (by decide +kernel) (by decide) rfl (kz := 17) rfl hO1 ?_
    refine r_if_eq x_195_255 (t := 262) (by decide +kernel) (hok7.1 _ _) (fun hc => ?_) (fun hc => ?_)
    · replace h := h.1 hc
      refine r_aload_n x_195_262 rfl ?_
      obtain ⟨b8, hb9, h⟩ := h
      refine r_getR x_195_263 rfl (ci := 11) (k := 1) (ns := 0) (by decide +kernel) (by decide) rfl (kz := 1) rfl hO1 hb9 ?_
      obtain ⟨hO10, h⟩ := h
      refine r_getI x_195_266 rfl (ci := 4) (k := 1) (ns := 1) (by decide +kernel) (by decide) rfl (kz := 1) rfl hO10 ?_
      exact r_retI x_195_269 rfl (hok7.1 _ _) h
    · replace h := h.2 hc
      refine r_aload_n x_195_258 rfl ?_
      refine r_invV x_195_259 (z := 196) (ns := 0) (by decide +kernel) (as := []) (r := []) rfl rfl rfl hO1 rfl rfl ?_
      refine r_callV h fun M11 hx12 hok13 h => ?_
      replace h := h hx12 hok13
      replace hO1 := hO1.up hx12
      replace hO4 := hO4.up hx12
      refine r_aload_n x_195_262 rfl ?_
      obtain ⟨b14, hb15, h⟩ := h
      refine r_getR x_195_263 rfl (ci := 11) (k := 1) (ns := 0) (by decide +kernel) (by decide) rfl (kz := 1) rfl hO1 hb15 ?_
      obtain ⟨hO16, h⟩ := h
      refine r_getI x_195_266 rfl (ci := 4) (k := 1) (ns := 1) (by decide +kernel) (by decide) rfl (kz := 1) rfl hO16 ?_
      exact r_retI x_195_269 rfl (hok13.1 _ _) h
  · replace h := h.1 hc
    refine r_aload_n x_195_234 rfl ?_
    obtain ⟨b17, hb18, h⟩ := h
    refine r_getR x_195_235 rfl (ci := 11) (k := 1) (ns := 0) (by decide +kernel) (by decide) rfl (kz := 1) rfl hO1 hb18 ?_
    obtain ⟨hO19, h⟩ := h
    refine r_getI x_195_238 rfl (ci := 4) (k := 3) (ns := 1) (by decide +kernel) (by decide) rfl (kz := 3) rfl hO19 ?_
    refine r_if_eq x_195_241 (t := 251) (by decide +kernel) (hok7.1 _ _) (fun hc => ?_) (fun hc => ?_)
    · replace h := h.1 hc
      refine r_aload_n x_195_251 rfl ?_
      refine r_getI x_195_252 rfl (ci := 11) (k := 17) (ns := 0) (by decide +kernel) (by decide) rfl (kz := 17) rfl hO1 ?_
      refine r_if_eq x_195_255 (t := 262) (by decide +kernel) (hok7.1 _ _) (fun hc => ?_) (fun hc => ?_)
      · replace h := h.1 hc
        refine r_aload_n x_195_262 rfl ?_
        obtain ⟨b20, hb21, h⟩ := h
        refine r_getR x_195_263 rfl (ci := 11) (k := 1) (ns := 0) (by decide +kernel) (by decide) rfl (kz := 1) rfl hO1 hb21 ?_
        obtain ⟨hO22, h⟩ := h
        refine r_getI x_195_266 rfl (ci := 4) (k := 1) (ns := 1) (by decide +kernel) (by decide) rfl (kz := 1) rfl hO22 ?_
        exact r_retI x_195_269 rfl (hok7.1 _ _) h
      · replace h := h.2 hc
        refine r_aload_n x_195_258 rfl ?_
        refine r_invV x_195_259 (z := 196) (ns := 0) (by decide +kernel) (as := []) (r := []) rfl rfl rfl hO1 rfl rfl ?_
        refine r_callV h fun M23 hx24 hok25 h => ?_
        replace h := h hx24 hok25
        replace hO1 := hO1.up hx24
        replace hO4 := hO4.up hx24
        replace hO19 := hO19.up hx24
        refine r_aload_n x_195_262 rfl ?_
        obtain ⟨b26, hb27, h⟩ := h
        refine r_getR x_195_263 rfl (ci := 11) (k := 1) (ns := 0) (by decide +kernel) (by decide) rfl (kz := 1) rfl hO1 hb27 ?_
        obtain ⟨hO28, h⟩ := h
        refine r_getI x_195_266 rfl (ci := 4) (k := 1) (ns := 1) (by decide +kernel) (by decide) rfl (kz := 1) rfl hO28 ?_
        exact r_retI x_195_269 rfl (hok25.1 _ _) h
    · replace h := h.2 hc
      refine r_aload_n x_195_244 rfl ?_
      refine r_bipush x_195_245 (x := 40) rfl ?_
      refine r_iconst x_195_247 ?_
      refine r_invV x_195_248 (z := 197) (ns := 0) (by decide +kernel) (as := [g_n 40, g_n ((-1))]) (r := []) rfl rfl rfl hO1 rfl rfl ?_
      refine r_callV h fun M29 hx30 hok31 h => ?_
      replace h := h hx30 hok31
      replace hO1 := hO1.up hx30
      replace hO4 := hO4.up hx30
      replace hO19 := hO19.up hx30
      refine r_aload_n x_195_251 rfl ?_
      refine r_getI x_195_252 rfl (ci := 11) (k := 17) (ns := 0) (by decide +kernel) (by decide) rfl (kz := 17) rfl hO1 ?_
      refine r_if_eq x_195_255 (t := 262) (by decide +kernel) (hok31.1 _ _) (fun hc => ?_) (fun hc => ?_)
      · replace h := h.1 hc
        refine r_aload_n x_195_262 rfl ?_
        obtain ⟨b32, hb33, h⟩ := h
        refine r_getR x_195_263 rfl (ci := 11) (k := 1) (ns := 0) (by decide +kernel) (by decide) rfl (kz := 1) rfl hO1 hb33 ?_
        obtain ⟨hO34, h⟩ := h
        refine r_getI x_195_266 rfl (ci := 4) (k := 1) (ns := 1) (by decide +kernel) (by decide) rfl (kz := 1) rfl hO34 ?_
        exact r_retI x_195_269 rfl (hok31.1 _ _) h
      · replace h := h.2 hc
        refine r_aload_n x_195_258 rfl ?_
        refine r_invV x_195_259 (z := 196) (ns := 0) (by decide +kernel) (as := []) (r := []) rfl rfl rfl hO1 rfl rfl ?_
        refine r_callV h fun M35 hx36 hok37 h => ?_
        replace h := h hx36 hok37
        replace hO1 := hO1.up hx36
        replace hO4 := hO4.up hx36
        replace hO19 := hO19.up hx36
        refine r_aload_n x_195_262 rfl ?_
        obtain ⟨b38, hb39, h⟩ := h
        refine r_getR x_195_263 rfl (ci := 11) (k := 1) (ns := 0) (by decide +kernel) (by decide) rfl (kz := 1) rfl hO1 hb39 ?_
        obtain ⟨hO40, h⟩ := h
        refine r_getI x_195_266 rfl (ci := 4) (k := 1) (ns := 1) (by decide +kernel) (by decide) rfl (kz := 1) rfl hO40 ?_
        exact r_retI x_195_269 rfl (hok37.1 _ _) h
theorem m_X11_tellFault {d : Nat} {M : g_M} {Q : g_M → Prop} {a0 : Nat} (h : g_ok M → g_O M a0 11 ∧ ∃ b2, g_r M a0 1 = some b2 ∧ g_O M b2 4 ∧ g_Call d 75 [.ref b2, g_n 0, g_n 8000] M (g_qV fun M5 => g_ext M M5 → g_ok M5 → ∃ b8, g_r M5 a0 1 = some b8 ∧ g_O M5 b8 4 ∧ g_Call d 85 [.ref b8] M5 (g_qI fun r14 M11 => g_ext M5 M11 → g_ok M11 → g_InR r14 → ∃ b16, g_r M11 a0 1 = some b16 ∧ g_O M11 b16 4 ∧ g_Call d 87 [.ref b16, .ref (4 * 71 + 1), g_n (g_i M11 a0 17)] M11 (g_qV fun M19 => g_ext M11 M19 → g_ok M19 → ∃ b22, g_r M19 a0 1 = some b22 ∧ g_O M19 b22 4 ∧ g_Call d 87 [.ref b22, .ref (4 * 72 + 1), g_n (g_i M19 a0 18)] M19 (g_qV fun M25 => g_ext M19 M25 → g_ok M25 → ∃ b28, g_r M25 a0 1 = some b28 ∧ g_O M25 b28 4 ∧ g_Call d 86 [.ref b28, g_n 0] M25 (g_qV fun M31 => g_ext M25 M31 → g_ok M31 → Q M31)))))) : g_Call (d + 1) 196 [.ref a0] M (g_qV Q) := by
  refine g_Call.ok fun hok0 => ?_
  replace h := h hok0
  refine r_body rfl (lv := [(0, .ref a0)]) rfl ?_
  refine g_Run.ok fun hok => ?_
  refine r_aload_n x_196_0 rfl ?_
  obtain ⟨hO1, h⟩ := h
  obtain ⟨b2, hb3, h⟩ := h
  refine r_getR x_196_1 rfl (ci := 11) (k := 1) (ns := 0) (by decide +kernel) (by decide) rfl (kz := 1) rfl hO1 hb3 ?_
  refine r_iconst x_196_4 ?_
  refine r_sipush x_196_5 (x := 8000) rfl ?_
  obtain ⟨hO4, h⟩ := h
  refine r_invV x_196_8 (z := 75) (ns := 1) (by decide +kernel) (as := [g_n 0, g_n 8000]) (r := []) rfl rfl rfl hO4 rfl rfl ?_
  refine r_callV h fun M5 hx6 hok7 h => ?_
  replace h := h hx6 hok7
  replace hO1 := hO1.up hx6
  replace hO4 := hO4.up hx6
  refine r_aload_n x_196_11 rfl ?_
  obtain ⟨b8, hb9, h⟩ := h
  refine r_getR x_196_12 rfl (ci := 11) (k := 1) (ns := 0) (by decide +kernel) (by decide) rfl (kz := 1) rfl hO1 hb9 ?_
  obtain ⟨hO10, h⟩ := h
  refine r_invV x_196_15 (z := 85) (ns := 1) (by decide +kernel) (as := []) (r := []) rfl rfl rfl hO10 rfl rfl ?_
  refine r_callI h fun r14 M11 hx12 hok13 hr15 h => ?_
  replace h := h hx12 hok13 hr15
  replace hO1 := hO1.up hx12
  replace hO4 := hO4.up hx12
  replace hO10 := hO10.up hx12
  refine r_pop x_196_18 rfl ?_
  refine r_aload_n x_196_19 rfl ?_
  obtain ⟨b16, hb17, h⟩ := h
  refine r_getR x_196_20 rfl (ci := 11) (k := 1) (ns := 0) (by decide +kernel) (by decide) rfl (kz := 1) rfl hO1 hb17 ?_
  refine r_ldc x_196_23 (v := .ref (4 * 71 + 1)) rfl ?_
  refine r_aload_n x_196_25 rfl ?_
  refine r_getI x_196_26 rfl (ci := 11) (k := 17) (ns := 0) (by decide +kernel) (by decide) rfl (kz := 17) rfl hO1 ?_
  obtain ⟨hO18, h⟩ := h
  refine r_invV x_196_29 (z := 87) (ns := 1) (by decide +kernel) (as := [.ref (4 * 71 + 1), g_n (g_i M11 a0 17)]) (r := []) rfl rfl rfl hO18 rfl rfl ?_
  refine r_callV h fun M19 hx20 hok21 h => ?_
  replace h := h hx20 hok21
  replace hO1 := hO1.up hx20
  replace hO4 := hO4.up hx20
  replace hO10 := hO10.up hx20
  replace hO18 := hO18.up hx20
  refine r_aload_n x_196_32 rfl ?_
  obtain ⟨b22, hb23, h⟩ := h
  refine r_getR x_196_33 rfl (ci := 11) (k := 1) (ns := 0) (by decide +kernel) (by decide) rfl (kz := 1) rfl hO1 hb23 ?_
  refine r_ldc x_196_36 (v := .ref (4 * 72 + 1)) rfl ?_
  refine r_aload_n x_196_38 rfl ?_
  refine r_getI x_196_39 rfl (ci := 11) (k := 18) (ns := 0) (by decide +kernel) (by decide) rfl (kz := 18) rfl hO1 ?_
  obtain ⟨hO24, h⟩ := h
  refine r_invV x_196_42 (z := 87) (ns := 1) (by decide +kernel) (as := [.ref (4 * 72 + 1), g_n (g_i M19 a0 18)]) (r := []) rfl rfl rfl hO24 rfl rfl ?_
  refine r_callV h fun M25 hx26 hok27 h => ?_
  replace h := h hx26 hok27
  replace hO1 := hO1.up hx26
  replace hO4 := hO4.up hx26
  replace hO10 := hO10.up hx26
  replace hO18 := hO18.up hx26
  replace hO24 := hO24.up hx26
  refine r_aload_n x_196_45 rfl ?_
  obtain ⟨b28, hb29, h⟩ := h
  refine r_getR x_196_46 rfl (ci := 11) (k := 1) (ns := 0) (by decide +kernel) (by decide) rfl (kz := 1) rfl hO1 hb29 ?_
  refine r_iconst x_196_49 ?_
  obtain ⟨hO30, h⟩ := h
  refine r_invV x_196_50 (z := 86) (ns := 1) (by decide +kernel) (as := [g_n 0]) (r := []) rfl rfl rfl hO30 rfl rfl ?_
  refine r_callV h fun M31 hx32 hok33 h => ?_
  replace h := h hx32 hok33
  replace hO1 := hO1.up hx32
  replace hO4 := hO4.up hx32
  replace hO10 := hO10.up hx32
  replace hO18 := hO18.up hx32
  replace hO24 := hO24.up hx32
  replace hO30 := hO30.up hx32
  exact r_retV x_196_53 rfl h
theorem m_X11_fail {d : Nat} {M : g_M} {Q : g_M → Prop} {a0 : Nat} {v1 : Int} (hv1 : g_InR v1) {v2 : Int} (hv2 : g_InR v2) (h : g_ok M → g_O M a0 11 ∧ (∀ M2, M2 = g_wi M a0 17 v1 → g_ok M2 → (∀ M6, M6 = g_wi M2 a0 18 v2 → g_ok M6 → Q M6))) : g_Call (d + 1) 197 [.ref a0, g_n v1, g_n v2] M (g_qV Q) := by
  refine g_Call.ok fun hok0 => ?_
  replace h := h hok0
  refine r_body rfl (lv := [(0, .ref a0), (1, g_n v1), (2, g_n v2)]) rfl ?_
  refine g_Run.ok fun hok => ?_
  refine r_aload_n x_197_0 rfl ?_
  refine r_iload_n x_197_1 rfl ?_
  obtain ⟨hO1, h⟩ := h
  refine r_putI x_197_2 (ci := 11) (k := 17) (ns := 0) (by decide +kernel) (by decide) (g_f0 (by decide +kernel)) rfl hv1 trivial (kz := 17) rfl hO1 ?_
  obtain ⟨M2, hM3⟩ : ∃ Mz, Mz = g_wi M a0 17 v1 := ⟨_, rfl⟩
  rw [← hM3]
  refine g_Run.ok fun hok4 => ?_
  replace h := h M2 hM3 hok4
  have hx5 := g_extW hM3
  replace hO1 := hO1.up hx5
  refine r_aload_n x_197_5 rfl ?_
  refine r_iload_n x_197_6 rfl ?_
  refine r_putI x_197_7 (ci := 11) (k := 18) (ns := 0) (by decide +kernel) (by decide) (g_f0 (by decide +kernel)) rfl hv2 trivial (kz := 18) rfl hO1 ?_
  obtain ⟨M6, hM7⟩ : ∃ Mz, Mz = g_wi M2 a0 18 v2 := ⟨_, rfl⟩
  rw [← hM7]
  refine g_Run.ok fun hok8 => ?_
  replace h := h M6 hM7 hok8
  have hx9 := g_extW hM7
  replace hO1 := hO1.up hx9
  exact r_retV x_197_10 rfl h
theorem m_X11_failAt {d : Nat} {M : g_M} {Q : g_M → Prop} {a0 : Nat} {v1 : Int} (hv1 : g_InR v1) {v2 : Int} (hv2 : g_InR v2) (h : g_ok M → g_InR (v2 - 4) ∧ g_O M a0 11 ∧ g_Call d 197 [.ref a0, g_n v1, g_n (v2 - 4)] M (g_qV fun M3 => g_ext M M3 → g_ok M3 → Q M3)) : g_Call (d + 1) 198 [.ref a0, g_n v1, g_n v2] M (g_qV Q) := by
  refine g_Call.ok fun hok0 => ?_
  replace h := h hok0
  refine r_body rfl (lv := [(0, .ref a0), (1, g_n v1), (2, g_n v2)]) rfl ?_
  refine g_Run.ok fun hok => ?_
  refine r_aload_n x_198_0 rfl ?_
  refine r_iload_n x_198_1 rfl ?_
  refine r_iload_n x_198_2 rfl ?_
  refine r_iconst x_198_3 ?_
  refine r_isub x_198_4 ?_
  obtain ⟨h1, h⟩ := h
  obtain ⟨hO2, h⟩ := h
  refine r_invV x_198_5 (z := 197) (ns := 0) (by decide +kernel) (as := [g_n v1, g_n (v2 - 4)]) (r := []) rfl rfl rfl hO2 rfl rfl ?_
  refine r_callV h fun M3 hx4 hok5 h => ?_
  replace h := h hx4 hok5
  replace hO2 := hO2.up hx4
  exact r_retV x_198_8 rfl h
theorem m_X11_answer {d : Nat} {M : g_M} {Q : Int → g_M → Prop} {a0 : Nat} {v1 : Int} (hv1 : g_InR v1) (h : g_ok M → ((v1 < 0 → Q ((-1)) M) ∧ (¬ v1 < 0 → g_O M a0 11 ∧ ∃ b2, g_r M a0 1 = some b2 ∧ g_O M b2 4 ∧ ((v1 < g_i M b2 1 → ∃ b5, g_r M a0 1 = some b5 ∧ g_O M b5 4 ∧ ∃ b8, g_r M b5 0 = some b8 ∧ ∃ n10, g_A M b8 0 n10 ∧ g_InR n10 ∧ ((v1 < n10 → ∃ b13, g_r M a0 1 = some b13 ∧ g_O M b13 4 ∧ ∃ b16, g_r M b13 0 = some b16 ∧ ∃ n18, g_A M b16 0 n18 ∧ ((0 : Int) ≤ v1 ∧ (v1 : Int) < n18) ∧ Q (g_and (g_i M b16 v1) 255) M) ∧ (¬ v1 < n10 → Q ((-1)) M))) ∧ (¬ v1 < g_i M b2 1 → Q ((-1)) M))))) : g_Call (d + 1) 199 [.ref a0, g_n v1] M (g_qI Q) := by
  refine g_Call.ok fun hok0 => ?_
  replace h := h hok0
  refine r_body rfl (lv := [(0, .ref a0), (1, g_n v1)]) rfl ?_
  refine g_Run.ok fun hok => ?_
  refine r_iload_n x_199_0 rfl ?_
  refine r_if_lt x_199_1 (t := 43) (by decide +kernel) hv1 (fun hc => ?_) (fun hc => ?_)
  · replace h := h.1 hc
    refine r_iconst x_199_43 ?_
    exact r_retI x_199_44 rfl (g_Rk rfl) h
  · replace h := h.2 hc
    refine r_iload_n x_199_4 rfl ?_
    refine r_aload_n x_199_5 rfl ?_
    obtain ⟨hO1, h⟩ := h
    obtain ⟨b2, hb3, h⟩ := h
    refine r_getR x_199_6 rfl (ci := 11) (k := 1) (ns := 0) (by decide +kernel) (by decide) rfl (kz := 1) rfl hO1 hb3 ?_
    obtain ⟨hO4, h⟩ := h
    refine r_getI x_199_9 rfl (ci := 4) (k := 1) (ns := 1) (by decide +kernel) (by decide) rfl (kz := 1) rfl hO4 ?_
    refine r_ic_ge x_199_12 (t := 43) (by decide +kernel) hv1 (hok.1 _ _) (fun hc => ?_) (fun hc => ?_)
    · replace h := h.2 hc
      refine r_iconst x_199_43 ?_
      exact r_retI x_199_44 rfl (g_Rk rfl) h
    · replace h := h.1 hc
      refine r_iload_n x_199_15 rfl ?_
      refine r_aload_n x_199_16 rfl ?_
      obtain ⟨b5, hb6, h⟩ := h
      refine r_getR x_199_17 rfl (ci := 11) (k := 1) (ns := 0) (by decide +kernel) (by decide) rfl (kz := 1) rfl hO1 hb6 ?_
      obtain ⟨hO7, h⟩ := h
      obtain ⟨b8, hb9, h⟩ := h
      refine r_getR x_199_20 rfl (ci := 4) (k := 0) (ns := 1) (by decide +kernel) (by decide) rfl (kz := 0) rfl hO7 hb9 ?_
      obtain ⟨n10, hA11, h⟩ := h
      refine r_alen x_199_23 hA11 ?_
      obtain ⟨h12, h⟩ := h
      refine r_ic_ge x_199_24 (t := 43) (by decide +kernel) hv1 h12 (fun hc => ?_) (fun hc => ?_)
      · replace h := h.2 hc
        refine r_iconst x_199_43 ?_
        exact r_retI x_199_44 rfl (g_Rk rfl) h
      · replace h := h.1 hc
        refine r_aload_n x_199_27 rfl ?_
        obtain ⟨b13, hb14, h⟩ := h
        refine r_getR x_199_28 rfl (ci := 11) (k := 1) (ns := 0) (by decide +kernel) (by decide) rfl (kz := 1) rfl hO1 hb14 ?_
        obtain ⟨hO15, h⟩ := h
        obtain ⟨b16, hb17, h⟩ := h
        refine r_getR x_199_31 rfl (ci := 4) (k := 0) (ns := 1) (by decide +kernel) (by decide) rfl (kz := 0) rfl hO15 hb17 ?_
        refine r_iload_n x_199_34 rfl ?_
        obtain ⟨n18, hA19, h⟩ := h
        obtain ⟨h20, h⟩ := h
        refine r_bald x_199_35 (Or.inl rfl) hA19 hv1 h20.1 h20.2 ?_
        refine r_sipush x_199_36 (x := 255) rfl ?_
        refine r_iand x_199_39 ?_
        refine r_goto x_199_40 (t := 44) (by decide +kernel) ?_
        exact r_retI x_199_44 rfl (g_InR_toInt _) h
theorem m_X11_state {d : Nat} {M : g_M} {Q : Int → g_M → Prop} {a0 : Nat} {v1 : Int} (hv1 : g_InR v1) (h : g_ok M → ((v1 = 0 → g_O M a0 11 ∧ ∃ b2, g_r M a0 9 = some b2 ∧ ∃ n4, g_A M b2 4 n4 ∧ ((0 : Int) ≤ v1 ∧ (v1 : Int) < n4) ∧ ∃ b7, g_r M b2 v1 = some b7 ∧ g_O M b7 8 ∧ Q (g_i M b7 6) M) ∧ (¬ v1 = 0 → ((v1 = 1 → g_O M a0 11 ∧ ∃ b12, g_r M a0 9 = some b12 ∧ ∃ n14, g_A M b12 4 n14 ∧ ((0 : Int) ≤ v1 ∧ (v1 : Int) < n14) ∧ ∃ b17, g_r M b12 v1 = some b17 ∧ g_O M b17 8 ∧ Q (g_i M b17 6) M) ∧ (¬ v1 = 1 → ((v1 = 2 → g_O M a0 11 ∧ ∃ b22, g_r M a0 9 = some b22 ∧ g_InR (v1 - 2) ∧ ∃ n25, g_A M b22 4 n25 ∧ ((0 : Int) ≤ v1 - 2 ∧ (v1 - 2 : Int) < n25) ∧ ∃ b28, g_r M b22 (v1 - 2) = some b28 ∧ g_O M b28 8 ∧ Q (g_i M b28 7) M) ∧ (¬ v1 = 2 → ((v1 = 3 → g_O M a0 11 ∧ ∃ b33, g_r M a0 9 = some b33 ∧ g_InR (v1 - 2) ∧ ∃ n36, g_A M b33 4 n36 ∧ ((0 : Int) ≤ v1 - 2 ∧ (v1 - 2 : Int) < n36) ∧ ∃ b39, g_r M b33 (v1 - 2) = some b39 ∧ g_O M b39 8 ∧ Q (g_i M b39 7) M) ∧ (¬ v1 = 3 → ((v1 = 4 → g_O M a0 11 ∧ ∃ b44, g_r M a0 9 = some b44 ∧ g_InR (v1 - 4) ∧ ∃ n47, g_A M b44 4 n47 ∧ ((0 : Int) ≤ v1 - 4 ∧ (v1 - 4 : Int) < n47) ∧ ∃ b50, g_r M b44 (v1 - 4) = some b50 ∧ g_O M b50 8 ∧ g_Call d 132 [.ref b50] M (g_qI fun r56 M53 => g_ext M M53 → g_ok M53 → g_InR r56 → Q r56 M53)) ∧ (¬ v1 = 4 → ((v1 = 5 → g_O M a0 11 ∧ ∃ b60, g_r M a0 9 = some b60 ∧ g_InR (v1 - 4) ∧ ∃ n63, g_A M b60 4 n63 ∧ ((0 : Int) ≤ v1 - 4 ∧ (v1 - 4 : Int) < n63) ∧ ∃ b66, g_r M b60 (v1 - 4) = some b66 ∧ g_O M b66 8 ∧ g_Call d 132 [.ref b66] M (g_qI fun r72 M69 => g_ext M M69 → g_ok M69 → g_InR r72 → Q r72 M69)) ∧ (¬ v1 = 5 → ((v1 = 6 → g_O M a0 11 ∧ ∃ b76, g_r M a0 1 = some b76 ∧ g_O M b76 4 ∧ Q (g_i M b76 1) M) ∧ (¬ v1 = 6 → ((v1 = 7 → g_O M a0 11 ∧ Q (g_i M a0 12) M) ∧ (¬ v1 = 7 → Q ((-1)) M))))))))))))))))) : g_Call (d + 1) 200 [.ref a0, g_n v1] M (g_qI Q) := by
  refine g_Call.ok fun hok0 => ?_
  replace h := h hok0
  refine r_body rfl (lv := [(0, .ref a0), (1, g_n v1)]) rfl ?_
  refine g_Run.ok fun hok => ?_
  refine r_iload_n x_200_0 rfl ?_
  by_cases hk10 : v1 = 0
  · refine r_tableAt x_200_1 hk10 (t := 48) (g_Rk rfl) (by decide +kernel) ?_
    replace h := h.1 hk10
    refine r_aload_n x_200_48 rfl ?_
    obtain ⟨hO1, h⟩ := h
    obtain ⟨b2, hb3, h⟩ := h
    refine r_getR x_200_49 rfl (ci := 11) (k := 9) (ns := 0) (by decide +kernel) (by decide) rfl (kz := 9) rfl hO1 hb3 ?_
    refine r_iload_n x_200_52 rfl ?_
    obtain ⟨n4, hA5, h⟩ := h
    obtain ⟨h6, h⟩ := h
    obtain ⟨b7, hb8, h⟩ := h
    refine r_aald x_200_53 (by decide) hA5 hv1 h6.1 h6.2 hb8 ?_
    obtain ⟨hO9, h⟩ := h
    refine r_getI x_200_54 rfl (ci := 8) (k := 6) (ns := 1) (by decide +kernel) (by decide) rfl (kz := 6) rfl hO9 ?_
    exact r_retI x_200_57 rfl (hok.1 _ _) h
  replace h := h.2 hk10
  by_cases hk20 : v1 = 1
  · refine r_tableAt x_200_1 hk20 (t := 48) (g_Rk rfl) (by decide +kernel) ?_
    replace h := h.1 hk20
    refine r_aload_n x_200_48 rfl ?_
    obtain ⟨hO11, h⟩ := h
    obtain ⟨b12, hb13, h⟩ := h
    refine r_getR x_200_49 rfl (ci := 11) (k := 9) (ns := 0) (by decide +kernel) (by decide) rfl (kz := 9) rfl hO11 hb13 ?_
    refine r_iload_n x_200_52 rfl ?_
    obtain ⟨n14, hA15, h⟩ := h
    obtain ⟨h16, h⟩ := h
    obtain ⟨b17, hb18, h⟩ := h
    refine r_aald x_200_53 (by decide) hA15 hv1 h16.1 h16.2 hb18 ?_
    obtain ⟨hO19, h⟩ := h
    refine r_getI x_200_54 rfl (ci := 8) (k := 6) (ns := 1) (by decide +kernel) (by decide) rfl (kz := 6) rfl hO19 ?_
    exact r_retI x_200_57 rfl (hok.1 _ _) h
  replace h := h.2 hk20
  by_cases hk31 : v1 = 2
  · refine r_tableAt x_200_1 hk31 (t := 58) (g_Rk rfl) (by decide +kernel) ?_
    replace h := h.1 hk31
    refine r_aload_n x_200_58 rfl ?_
    obtain ⟨hO21, h⟩ := h
    obtain ⟨b22, hb23, h⟩ := h
    refine r_getR x_200_59 rfl (ci := 11) (k := 9) (ns := 0) (by decide +kernel) (by decide) rfl (kz := 9) rfl hO21 hb23 ?_
    refine r_iload_n x_200_62 rfl ?_
    refine r_iconst x_200_63 ?_
    refine r_isub x_200_64 ?_
    obtain ⟨h24, h⟩ := h
    obtain ⟨n25, hA26, h⟩ := h
    obtain ⟨h27, h⟩ := h
    obtain ⟨b28, hb29, h⟩ := h
    refine r_aald x_200_65 (by decide) hA26 h24 h27.1 h27.2 hb29 ?_
    obtain ⟨hO30, h⟩ := h
    refine r_getI x_200_66 rfl (ci := 8) (k := 7) (ns := 1) (by decide +kernel) (by decide) rfl (kz := 7) rfl hO30 ?_
    exact r_retI x_200_69 rfl (hok.1 _ _) h
  replace h := h.2 hk31
  by_cases hk42 : v1 = 3
  · refine r_tableAt x_200_1 hk42 (t := 58) (g_Rk rfl) (by decide +kernel) ?_
    replace h := h.1 hk42
    refine r_aload_n x_200_58 rfl ?_
    obtain ⟨hO32, h⟩ := h
    obtain ⟨b33, hb34, h⟩ := h
    refine r_getR x_200_59 rfl (ci := 11) (k := 9) (ns := 0) (by decide +kernel) (by decide) rfl (kz := 9) rfl hO32 hb34 ?_
    refine r_iload_n x_200_62 rfl ?_
    refine r_iconst x_200_63 ?_
    refine r_isub x_200_64 ?_
    obtain ⟨h35, h⟩ := h
    obtain ⟨n36, hA37, h⟩ := h
    obtain ⟨h38, h⟩ := h
    obtain ⟨b39, hb40, h⟩ := h
    refine r_aald x_200_65 (by decide) hA37 h35 h38.1 h38.2 hb40 ?_
    obtain ⟨hO41, h⟩ := h
    refine r_getI x_200_66 rfl (ci := 8) (k := 7) (ns := 1) (by decide +kernel) (by decide) rfl (kz := 7) rfl hO41 ?_
    exact r_retI x_200_69 rfl (hok.1 _ _) h
  replace h := h.2 hk42
  by_cases hk58 : v1 = 4
  · refine r_tableAt x_200_1 hk58 (t := 70) (g_Rk rfl) (by decide +kernel) ?_
    replace h := h.1 hk58
    refine r_aload_n x_200_70 rfl ?_
    obtain ⟨hO43, h⟩ := h
    obtain ⟨b44, hb45, h⟩ := h
    refine r_getR x_200_71 rfl (ci := 11) (k := 9) (ns := 0) (by decide +kernel) (by decide) rfl (kz := 9) rfl hO43 hb45 ?_
    refine r_iload_n x_200_74 rfl ?_
    refine r_iconst x_200_75 ?_
    refine r_isub x_200_76 ?_
    obtain ⟨h46, h⟩ := h
    obtain ⟨n47, hA48, h⟩ := h
    obtain ⟨h49, h⟩ := h
    obtain ⟨b50, hb51, h⟩ := h
    refine r_aald x_200_77 (by decide) hA48 h46 h49.1 h49.2 hb51 ?_
    obtain ⟨hO52, h⟩ := h
    refine r_invV x_200_78 (z := 132) (ns := 1) (by decide +kernel) (as := []) (r := []) rfl rfl rfl hO52 rfl rfl ?_
    refine r_callI h fun r56 M53 hx54 hok55 hr57 h => ?_
    replace h := h hx54 hok55 hr57
    replace hO43 := hO43.up hx54
    replace hO52 := hO52.up hx54
    replace hA48 := hA48.up hx54
    exact r_retI x_200_81 rfl hr57 h
  replace h := h.2 hk58
  by_cases hk74 : v1 = 5
  · refine r_tableAt x_200_1 hk74 (t := 70) (g_Rk rfl) (by decide +kernel) ?_
    replace h := h.1 hk74
    refine r_aload_n x_200_70 rfl ?_
    obtain ⟨hO59, h⟩ := h
    obtain ⟨b60, hb61, h⟩ := h
    refine r_getR x_200_71 rfl (ci := 11) (k := 9) (ns := 0) (by decide +kernel) (by decide) rfl (kz := 9) rfl hO59 hb61 ?_
    refine r_iload_n x_200_74 rfl ?_
    refine r_iconst x_200_75 ?_
    refine r_isub x_200_76 ?_
    obtain ⟨h62, h⟩ := h
    obtain ⟨n63, hA64, h⟩ := h
    obtain ⟨h65, h⟩ := h
    obtain ⟨b66, hb67, h⟩ := h
    refine r_aald x_200_77 (by decide) hA64 h62 h65.1 h65.2 hb67 ?_
    obtain ⟨hO68, h⟩ := h
    refine r_invV x_200_78 (z := 132) (ns := 1) (by decide +kernel) (as := []) (r := []) rfl rfl rfl hO68 rfl rfl ?_
    refine r_callI h fun r72 M69 hx70 hok71 hr73 h => ?_
    replace h := h hx70 hok71 hr73
    replace hO59 := hO59.up hx70
    replace hO68 := hO68.up hx70
    replace hA64 := hA64.up hx70
    exact r_retI x_200_81 rfl hr73 h
  replace h := h.2 hk74
  by_cases hk79 : v1 = 6
  · refine r_tableAt x_200_1 hk79 (t := 82) (g_Rk rfl) (by decide +kernel) ?_
    replace h := h.1 hk79
    refine r_aload_n x_200_82 rfl ?_
    obtain ⟨hO75, h⟩ := h
    obtain ⟨b76, hb77, h⟩ := h
    refine r_getR x_200_83 rfl (ci := 11) (k := 1) (ns := 0) (by decide +kernel) (by decide) rfl (kz := 1) rfl hO75 hb77 ?_
    obtain ⟨hO78, h⟩ := h
    refine r_getI x_200_86 rfl (ci := 4) (k := 1) (ns := 1) (by decide +kernel) (by decide) rfl (kz := 1) rfl hO78 ?_
    exact r_retI x_200_89 rfl (hok.1 _ _) h
  replace h := h.2 hk79
  by_cases hk81 : v1 = 7
  · refine r_tableAt x_200_1 hk81 (t := 90) (g_Rk rfl) (by decide +kernel) ?_
    replace h := h.1 hk81
    refine r_aload_n x_200_90 rfl ?_
    obtain ⟨hO80, h⟩ := h
    refine r_getI x_200_91 rfl (ci := 11) (k := 12) (ns := 0) (by decide +kernel) (by decide) rfl (kz := 12) rfl hO80 ?_
    exact r_retI x_200_94 rfl (hok.1 _ _) h
  replace h := h.2 hk81
  refine r_tableD x_200_1 hv1 (t := 95) (lo := 0) (hi := 7) (by omega) (by decide +kernel) ?_
  refine r_iconst x_200_95 ?_
  exact r_retI x_200_96 rfl (g_Rk rfl) h
theorem m_X11_number {d : Nat} {M : g_M} {Q : Int → g_M → Prop} {a0 : Nat} {v1 : Int} (hv1 : g_InR v1) {v2 : Int} (hv2 : g_InR v2) (h : g_ok M → g_O M a0 11 ∧ g_Call d 204 [.ref a0, g_n v1, g_n v2] M (g_qI fun r5 M2 => g_ext M M2 → g_ok M2 → g_InR r5 → ((r5 = 0 → Q 0 M2) ∧ (¬ r5 = 0 → ∃ b7, g_r M2 a0 9 = some b7 ∧ ∃ n9, g_A M2 b7 4 n9 ∧ ((0 : Int) ≤ v1 ∧ (v1 : Int) < n9) ∧ ∃ b12, g_r M2 b7 v1 = some b12 ∧ g_O M2 b12 8 ∧ ∃ b15, g_r M2 b12 3 = some b15 ∧ ∃ n17, g_A M2 b15 1 n17 ∧ ((0 : Int) ≤ v2 ∧ (v2 : Int) < n17) ∧ Q (g_i M2 b15 v2) M2)))) : g_Call (d + 1) 201 [.ref a0, g_n v1, g_n v2] M (g_qI Q) := by
  refine g_Call.ok fun hok0 => ?_
  replace h := h hok0
  refine r_body rfl (lv := [(0, .ref a0), (1, g_n v1), (2, g_n v2)]) rfl ?_
  refine g_Run.ok fun hok => ?_
  refine r_aload_n x_201_0 rfl ?_
  refine r_iload_n x_201_1 rfl ?_
  refine r_iload_n x_201_2 rfl ?_
  obtain ⟨hO1, h⟩ := h
  refine r_invV x_201_3 (z := 204) (ns := 0) (by decide +kernel) (as := [g_n v1, g_n v2]) (r := []) rfl rfl rfl hO1 rfl rfl ?_
  refine r_callI h fun r5 M2 hx3 hok4 hr6 h => ?_
  replace h := h hx3 hok4 hr6
  replace hO1 := hO1.up hx3
  refine r_if_eq x_201_6 (t := 23) (by decide +kernel) hr6 (fun hc => ?_) (fun hc => ?_)
  · replace h := h.1 hc
    refine r_iconst x_201_23 ?_
    exact r_retI x_201_24 rfl (g_Rk rfl) h
  · replace h := h.2 hc
    refine r_aload_n x_201_9 rfl ?_
    obtain ⟨b7, hb8, h⟩ := h
    refine r_getR x_201_10 rfl (ci := 11) (k := 9) (ns := 0) (by decide +kernel) (by decide) rfl (kz := 9) rfl hO1 hb8 ?_
    refine r_iload_n x_201_13 rfl ?_
    obtain ⟨n9, hA10, h⟩ := h
    obtain ⟨h11, h⟩ := h
    obtain ⟨b12, hb13, h⟩ := h
    refine r_aald x_201_14 (by decide) hA10 hv1 h11.1 h11.2 hb13 ?_
    obtain ⟨hO14, h⟩ := h
    obtain ⟨b15, hb16, h⟩ := h
    refine r_getR x_201_15 rfl (ci := 8) (k := 3) (ns := 1) (by decide +kernel) (by decide) rfl (kz := 3) rfl hO14 hb16 ?_
    refine r_iload_n x_201_18 rfl ?_
    obtain ⟨n17, hA18, h⟩ := h
    obtain ⟨h19, h⟩ := h
    refine r_iald x_201_19 hA18 hv2 h19.1 h19.2 ?_
    refine r_goto x_201_20 (t := 24) (by decide +kernel) ?_
    exact r_retI x_201_24 rfl (hok4.1 _ _) h
theorem m_X11_size {d : Nat} {M : g_M} {Q : Int → g_M → Prop} {a0 : Nat} {v1 : Int} (hv1 : g_InR v1) {v2 : Int} (hv2 : g_InR v2) (h : g_ok M → g_O M a0 11 ∧ g_Call d 204 [.ref a0, g_n v1, g_n v2] M (g_qI fun r5 M2 => g_ext M M2 → g_ok M2 → g_InR r5 → ((r5 = 0 → Q ((-1)) M2) ∧ (¬ r5 = 0 → ∃ b7, g_r M2 a0 0 = some b7 ∧ ∃ b9, g_r M2 a0 9 = some b9 ∧ ∃ n11, g_A M2 b9 4 n11 ∧ ((0 : Int) ≤ v1 ∧ (v1 : Int) < n11) ∧ ∃ b14, g_r M2 b9 v1 = some b14 ∧ g_O M2 b14 8 ∧ ∃ b17, g_r M2 b14 2 = some b17 ∧ ∃ n19, g_A M2 b17 1 n19 ∧ ((0 : Int) ≤ v2 ∧ (v2 : Int) < n19) ∧ g_InR ((g_i M2 b17 v2) + 2) ∧ g_Call d 109 [.ref b7, g_n ((g_i M2 b17 v2) + 2)] M2 (g_qI fun r26 M23 => g_ext M2 M23 → g_ok M23 → g_InR r26 → Q r26 M23))))) : g_Call (d + 1) 202 [.ref a0, g_n v1, g_n v2] M (g_qI Q) := by
  refine g_Call.ok fun hok0 => ?_
  replace h := h hok0
  refine r_body rfl (lv := [(0, .ref a0), (1, g_n v1), (2, g_n v2)]) rfl ?_
  refine g_Run.ok fun hok => ?_
  refine r_aload_n x_202_0 rfl ?_
  refine r_iload_n x_202_1 rfl ?_
  refine r_iload_n x_202_2 rfl ?_
  obtain ⟨hO1, h⟩ := h
  refine r_invV x_202_3 (z := 204) (ns := 0) (by decide +kernel) (as := [g_n v1, g_n v2]) (r := []) rfl rfl rfl hO1 rfl rfl ?_
  refine r_callI h fun r5 M2 hx3 hok4 hr6 h => ?_
  replace h := h hx3 hok4 hr6
  replace hO1 := hO1.up hx3
  refine r_if_eq x_202_6 (t := 32) (by decide +kernel) hr6 (fun hc => ?_) (fun hc => ?_)
  · replace h := h.1 hc
    refine r_iconst x_202_32 ?_
    exact r_retI x_202_33 rfl (g_Rk rfl) h
  · replace h := h.2 hc
    refine r_aload_n x_202_9 rfl ?_
    obtain ⟨b7, hb8, h⟩ := h
    refine r_getR x_202_10 rfl (ci := 11) (k := 0) (ns := 0) (by decide +kernel) (by decide) rfl (kz := 0) rfl hO1 hb8 ?_
    refine r_aload_n x_202_13 rfl ?_
    obtain ⟨b9, hb10, h⟩ := h
    refine r_getR x_202_14 rfl (ci := 11) (k := 9) (ns := 0) (by decide +kernel) (by decide) rfl (kz := 9) rfl hO1 hb10 ?_
    refine r_iload_n x_202_17 rfl ?_
    obtain ⟨n11, hA12, h⟩ := h
    obtain ⟨h13, h⟩ := h
    obtain ⟨b14, hb15, h⟩ := h
    refine r_aald x_202_18 (by decide) hA12 hv1 h13.1 h13.2 hb15 ?_
    obtain ⟨hO16, h⟩ := h
    obtain ⟨b17, hb18, h⟩ := h
    refine r_getR x_202_19 rfl (ci := 8) (k := 2) (ns := 1) (by decide +kernel) (by decide) rfl (kz := 2) rfl hO16 hb18 ?_
    refine r_iload_n x_202_22 rfl ?_
    obtain ⟨n19, hA20, h⟩ := h
    obtain ⟨h21, h⟩ := h
    refine r_iald x_202_23 hA20 hv2 h21.1 h21.2 ?_
    refine r_iconst x_202_24 ?_
    refine r_iadd x_202_25 ?_
    obtain ⟨h22, h⟩ := h
    refine r_invS x_202_26 (z := 109) (ns := 1) (by decide +kernel) (as := [.ref b7, g_n ((g_i M2 b17 v2) + 2)]) (r := []) rfl rfl rfl ?_
    refine r_callI h fun r26 M23 hx24 hok25 hr27 h => ?_
    replace h := h hx24 hok25 hr27
    replace hO1 := hO1.up hx24
    replace hO16 := hO16.up hx24
    replace hA12 := hA12.up hx24
    replace hA20 := hA20.up hx24
    refine r_goto x_202_29 (t := 33) (by decide +kernel) ?_
    exact r_retI x_202_33 rfl hr27 h
theorem m_X11_byteAt {d : Nat} {M : g_M} {Q : Int → g_M → Prop} {a0 : Nat} {v1 : Int} (hv1 : g_InR v1) {v2 : Int} (hv2 : g_InR v2) {v3 : Int} (hv3 : g_InR v3) (h : g_ok M → g_O M a0 11 ∧ g_Call d 204 [.ref a0, g_n v1, g_n v2] M (g_qI fun r5 M2 => g_ext M M2 → g_ok M2 → g_InR r5 → ((r5 = 0 → Q ((-1)) M2) ∧ (¬ r5 = 0 → ((v3 < 0 → Q ((-1)) M2) ∧ (¬ v3 < 0 → ∃ b7, g_r M2 a0 9 = some b7 ∧ ∃ n9, g_A M2 b7 4 n9 ∧ ((0 : Int) ≤ v1 ∧ (v1 : Int) < n9) ∧ ∃ b12, g_r M2 b7 v1 = some b12 ∧ g_O M2 b12 8 ∧ ∃ b15, g_r M2 b12 2 = some b15 ∧ ∃ n17, g_A M2 b15 1 n17 ∧ ((0 : Int) ≤ v2 ∧ (v2 : Int) < n17) ∧ g_InR ((g_i M2 b15 v2) + 2) ∧ ∃ b21, g_r M2 a0 0 = some b21 ∧ g_Call d 109 [.ref b21, g_n ((g_i M2 b15 v2) + 2)] M2 (g_qI fun r26 M23 => g_ext M2 M23 → g_ok M23 → g_InR r26 → ((v3 < r26 → g_InR (((g_i M2 b15 v2) + 2) + v3) ∧ ∃ b29, g_r M23 a0 0 = some b29 ∧ ∃ n31, g_A M23 b29 0 n31 ∧ g_InR n31 ∧ ((((g_i M2 b15 v2) + 2) + v3 < n31 → ∃ b34, g_r M23 a0 0 = some b34 ∧ g_InR (((g_i M2 b15 v2) + 2) + v3) ∧ ∃ n37, g_A M23 b34 0 n37 ∧ ((0 : Int) ≤ ((g_i M2 b15 v2) + 2) + v3 ∧ (((g_i M2 b15 v2) + 2) + v3 : Int) < n37) ∧ Q (g_and (g_i M23 b34 (((g_i M2 b15 v2) + 2) + v3)) 255) M23) ∧ (¬ ((g_i M2 b15 v2) + 2) + v3 < n31 → Q ((-1)) M23))) ∧ (¬ v3 < r26 → Q ((-1)) M23))))))))) : g_Call (d + 1) 203 [.ref a0, g_n v1, g_n v2, g_n v3] M (g_qI Q) := by
  refine g_Call.ok fun hok0 => ?_
  replace h := h hok0
  refine r_body rfl (lv := [(0, .ref a0), (1, g_n v1), (2, g_n v2), (3, g_n v3)]) rfl ?_
  refine g_Run.ok fun hok => ?_
  refine r_aload_n x_203_0 rfl ?_
  refine r_iload_n x_203_1 rfl ?_
  refine r_iload_n x_203_2 rfl ?_
  obtain ⟨hO1, h⟩ := h
  refine r_invV x_203_3 (z := 204) (ns := 0) (by decide +kernel) (as := [g_n v1, g_n v2]) (r := []) rfl rfl rfl hO1 rfl rfl ?_
  refine r_callI h fun r5 M2 hx3 hok4 hr6 h => ?_
  replace h := h hx3 hok4 hr6
  replace hO1 := hO1.up hx3
  refine r_if_eq x_203_6 (t := 13) (by decide +kernel) hr6 (fun hc => ?_) (fun hc => ?_)
  · replace h := h.1 hc
    refine r_iconst x_203_13 ?_
    exact r_retI x_203_14 rfl (g_Rk rfl) h
  · replace h := h.2 hc
    refine r_iload_n x_203_9 rfl ?_
    refine r_if_ge x_203_10 (t := 15) (by decide +kernel) hv3 (fun hc => ?_) (fun hc => ?_)
    · replace h := h.2 hc
      refine r_aload_n x_203_15 rfl ?_
      obtain ⟨b7, hb8, h⟩ := h
      refine r_getR x_203_16 rfl (ci := 11) (k := 9) (ns := 0) (by decide +kernel) (by decide) rfl (kz := 9) rfl hO1 hb8 ?_
      refine r_iload_n x_203_19 rfl ?_
      obtain ⟨n9, hA10, h⟩ := h
      obtain ⟨h11, h⟩ := h
      obtain ⟨b12, hb13, h⟩ := h
      refine r_aald x_203_20 (by decide) hA10 hv1 h11.1 h11.2 hb13 ?_
      obtain ⟨hO14, h⟩ := h
      obtain ⟨b15, hb16, h⟩ := h
      refine r_getR x_203_21 rfl (ci := 8) (k := 2) (ns := 1) (by decide +kernel) (by decide) rfl (kz := 2) rfl hO14 hb16 ?_
      refine r_iload_n x_203_24 rfl ?_
      obtain ⟨n17, hA18, h⟩ := h
      obtain ⟨h19, h⟩ := h
      refine r_iald x_203_25 hA18 hv2 h19.1 h19.2 ?_
      refine r_iconst x_203_26 ?_
      refine r_iadd x_203_27 ?_
      obtain ⟨h20, h⟩ := h
      refine r_istore x_203_28 (by decide +kernel) rfl (lv1 := [(0, .ref a0), (1, g_n v1), (2, g_n v2), (3, g_n v3), (4, g_n ((g_i M2 b15 v2) + 2))]) rfl ?_
      refine r_iload_n x_203_30 rfl ?_
      refine r_aload_n x_203_31 rfl ?_
      obtain ⟨b21, hb22, h⟩ := h
      refine r_getR x_203_32 rfl (ci := 11) (k := 0) (ns := 0) (by decide +kernel) (by decide) rfl (kz := 0) rfl hO1 hb22 ?_
      refine r_iload x_203_35 rfl ?_
      refine r_invS x_203_37 (z := 109) (ns := 1) (by decide +kernel) (as := [.ref b21, g_n ((g_i M2 b15 v2) + 2)]) (r := [g_n v3]) rfl rfl rfl ?_
      refine r_callI h fun r26 M23 hx24 hok25 hr27 h => ?_
      replace h := h hx24 hok25 hr27
      replace hO1 := hO1.up hx24
      replace hO14 := hO14.up hx24
      replace hA10 := hA10.up hx24
      replace hA18 := hA18.up hx24
      refine r_ic_ge x_203_40 (t := 71) (by decide +kernel) hv3 hr27 (fun hc => ?_) (fun hc => ?_)
      · replace h := h.2 hc
        refine r_iconst x_203_71 ?_
        exact r_retI x_203_72 rfl (g_Rk rfl) h
      · replace h := h.1 hc
        refine r_iload x_203_43 rfl ?_
        refine r_iload_n x_203_45 rfl ?_
        refine r_iadd x_203_46 ?_
        obtain ⟨h28, h⟩ := h
        refine r_aload_n x_203_47 rfl ?_
        obtain ⟨b29, hb30, h⟩ := h
        refine r_getR x_203_48 rfl (ci := 11) (k := 0) (ns := 0) (by decide +kernel) (by decide) rfl (kz := 0) rfl hO1 hb30 ?_
        obtain ⟨n31, hA32, h⟩ := h
        refine r_alen x_203_51 hA32 ?_
        obtain ⟨h33, h⟩ := h
        refine r_ic_ge x_203_52 (t := 71) (by decide +kernel) h28 h33 (fun hc => ?_) (fun hc => ?_)
        · replace h := h.2 hc
          refine r_iconst x_203_71 ?_
          exact r_retI x_203_72 rfl (g_Rk rfl) h
        · replace h := h.1 hc
          refine r_aload_n x_203_55 rfl ?_
          obtain ⟨b34, hb35, h⟩ := h
          refine r_getR x_203_56 rfl (ci := 11) (k := 0) (ns := 0) (by decide +kernel) (by decide) rfl (kz := 0) rfl hO1 hb35 ?_
          refine r_iload x_203_59 rfl ?_
          refine r_iload_n x_203_61 rfl ?_
          refine r_iadd x_203_62 ?_
          obtain ⟨h36, h⟩ := h
          obtain ⟨n37, hA38, h⟩ := h
          obtain ⟨h39, h⟩ := h
          refine r_bald x_203_63 (Or.inl rfl) hA38 h36 h39.1 h39.2 ?_
          refine r_sipush x_203_64 (x := 255) rfl ?_
          refine r_iand x_203_67 ?_
          refine r_goto x_203_68 (t := 72) (by decide +kernel) ?_
          exact r_retI x_203_72 rfl (g_InR_toInt _) h
    · replace h := h.1 hc
      refine r_iconst x_203_13 ?_
      exact r_retI x_203_14 rfl (g_Rk rfl) h
theorem m_X11_standsOn {d : Nat} {M : g_M} {Q : Int → g_M → Prop} {a0 : Nat} {v1 : Int} (hv1 : g_InR v1) {v2 : Int} (hv2 : g_InR v2) (h : g_ok M → ((v1 = 0 → g_Run d 204 9 [(0, .ref a0), (1, g_n v1), (2, g_n v2)] [] M (g_qI Q)) ∧ (¬ v1 = 0 → ((v1 = 1 → g_Run d 204 9 [(0, .ref a0), (1, g_n v1), (2, g_n v2)] [] M (g_qI Q)) ∧ (¬ v1 = 1 → Q 0 M))))) : g_Call (d + 1) 204 [.ref a0, g_n v1, g_n v2] M (g_qI Q) := by
  refine g_Call.ok fun hok0 => ?_
  replace h := h hok0
  refine r_body rfl (lv := [(0, .ref a0), (1, g_n v1), (2, g_n v2)]) rfl ?_
  refine g_Run.ok fun hok => ?_
  refine r_iload_n x_204_0 rfl ?_
  refine r_if_eq x_204_1 (t := 9) (by decide +kernel) hv1 (fun hc => ?_) (fun hc => ?_)
  · replace h := h.1 hc
    exact h
  · replace h := h.2 hc
    refine r_iload_n x_204_4 rfl ?_
    refine r_iconst x_204_5 ?_
    refine r_ic_ne x_204_6 (t := 37) (by decide +kernel) hv1 (g_Rk rfl) (fun hc => ?_) (fun hc => ?_)
    · replace h := h.2 hc
      refine r_iconst x_204_37 ?_
      exact r_retZ x_204_38 rfl (Or.inl rfl) h
    · replace h := h.1 hc
      exact h
theorem s_X11_standsOn_9 {d : Nat} {M : g_M} {Q : Int → g_M → Prop} {a0 : Nat} {v1 : Int} (hv1 : g_InR v1) {v2 : Int} (hv2 : g_InR v2) (h : g_ok M → ((v2 < 0 → Q 0 M) ∧ (¬ v2 < 0 → g_O M a0 11 ∧ ∃ b2, g_r M a0 9 = some b2 ∧ ∃ n4, g_A M b2 4 n4 ∧ ((0 : Int) ≤ v1 ∧ (v1 : Int) < n4) ∧ ∃ b7, g_r M b2 v1 = some b7 ∧ g_O M b7 8 ∧ ((v2 < g_i M b7 6 → ((v2 < 200 → Q 1 M) ∧ (¬ v2 < 200 → Q 0 M))) ∧ (¬ v2 < g_i M b7 6 → Q 0 M))))) : g_Run d 204 9 [(0, .ref a0), (1, g_n v1), (2, g_n v2)] [] M (g_qI Q) := by
  refine g_Run.ok fun hok => ?_
  replace h := h hok
  refine r_iload_n x_204_9 rfl ?_
  refine r_if_lt x_204_10 (t := 37) (by decide +kernel) hv2 (fun hc => ?_) (fun hc => ?_)
  · replace h := h.1 hc
    refine r_iconst x_204_37 ?_
    exact r_retZ x_204_38 rfl (Or.inl rfl) h
  · replace h := h.2 hc
    refine r_iload_n x_204_13 rfl ?_
    refine r_aload_n x_204_14 rfl ?_
    obtain ⟨hO1, h⟩ := h
    obtain ⟨b2, hb3, h⟩ := h
    refine r_getR x_204_15 rfl (ci := 11) (k := 9) (ns := 0) (by decide +kernel) (by decide) rfl (kz := 9) rfl hO1 hb3 ?_
    refine r_iload_n x_204_18 rfl ?_
    obtain ⟨n4, hA5, h⟩ := h
    obtain ⟨h6, h⟩ := h
    obtain ⟨b7, hb8, h⟩ := h
    refine r_aald x_204_19 (by decide) hA5 hv1 h6.1 h6.2 hb8 ?_
    obtain ⟨hO9, h⟩ := h
    refine r_getI x_204_20 rfl (ci := 8) (k := 6) (ns := 1) (by decide +kernel) (by decide) rfl (kz := 6) rfl hO9 ?_
    refine r_ic_ge x_204_23 (t := 37) (by decide +kernel) hv2 (hok.1 _ _) (fun hc => ?_) (fun hc => ?_)
    · replace h := h.2 hc
      refine r_iconst x_204_37 ?_
      exact r_retZ x_204_38 rfl (Or.inl rfl) h
    · replace h := h.1 hc
      refine r_iload_n x_204_26 rfl ?_
      refine r_sipush x_204_27 (x := 200) rfl ?_
      refine r_ic_ge x_204_30 (t := 37) (by decide +kernel) hv2 (g_Rk rfl) (fun hc => ?_) (fun hc => ?_)
      · replace h := h.2 hc
        refine r_iconst x_204_37 ?_
        exact r_retZ x_204_38 rfl (Or.inl rfl) h
      · replace h := h.1 hc
        refine r_iconst x_204_33 ?_
        refine r_goto x_204_34 (t := 38) (by decide +kernel) ?_
        exact r_retZ x_204_38 rfl (Or.inr rfl) h
theorem m_X11_wrongInRequest {d : Nat} {M : g_M} {Q : Int → g_M → Prop} {a0 : Nat} (h : g_ok M → g_O M a0 11 ∧ ∃ b2, g_r M a0 0 = some b2 ∧ g_Call d 112 [.ref b2, g_n 2] M (g_qI fun r7 M4 => g_ext M M4 → g_ok M4 → g_InR r7 → (∀ M9, M9 = g_wi M4 a0 14 r7 → g_ok M9 → g_Call d 206 [.ref a0, g_n (g_i M9 a0 14)] M9 (g_qI fun r16 M13 => g_ext M9 M13 → g_ok M13 → g_InR r16 → (∀ M18, M18 = g_wi M13 a0 13 r16 → g_ok M18 → ((g_i M18 a0 13 = 0 → Q (g_i M18 a0 14) M18) ∧ (¬ g_i M18 a0 13 = 0 → g_Call d 208 [.ref a0] M18 (g_qI fun r25 M22 => g_ext M18 M22 → g_ok M22 → g_InR r25 → ((r25 < 0 → ∃ b27, g_r M22 a0 0 = some b27 ∧ g_Call d 111 [.ref b27, g_n (g_i M22 a0 14)] M22 (g_qI fun r32 M29 => g_ext M22 M29 → g_ok M29 → g_InR r32 → g_Call d 207 [.ref a0, g_n r32] M29 (g_qI fun r37 M34 => g_ext M29 M34 → g_ok M34 → g_InR r37 → ((r37 = 0 → Q r32 M34) ∧ (¬ r37 = 0 → ∃ b39, g_r M34 a0 9 = some b39 ∧ ∃ b41, g_r M34 a0 0 = some b41 ∧ g_Call d 118 [.ref b41, g_n r32] M34 (g_qL fun R46 M43 => g_ext M34 M43 → g_ok M43 → ((g_lc R46 0 = 0 → g_Run d 205 92 [(0, .ref a0), (1, g_n r25), (2, g_n r32)] [g_n 0, .ref b39, .ref a0] M43 (g_qI Q)) ∧ (¬ g_lc R46 0 = 0 → g_Run d 205 92 [(0, .ref a0), (1, g_n r25), (2, g_n r32)] [g_n 1, .ref b39, .ref a0] M43 (g_qI Q))))))))) ∧ (¬ r25 < 0 → Q r25 M22)))))))))) : g_Call (d + 1) 205 [.ref a0] M (g_qI Q) := by
  refine g_Call.ok fun hok0 => ?_
  replace h := h hok0
  refine r_body rfl (lv := [(0, .ref a0)]) rfl ?_
  refine g_Run.ok fun hok => ?_
  refine r_aload_n x_205_0 rfl ?_
  refine r_aload_n x_205_1 rfl ?_
  obtain ⟨hO1, h⟩ := h
  obtain ⟨b2, hb3, h⟩ := h
  refine r_getR x_205_2 rfl (ci := 11) (k := 0) (ns := 0) (by decide +kernel) (by decide) rfl (kz := 0) rfl hO1 hb3 ?_
  refine r_iconst x_205_5 ?_
  refine r_invS x_205_6 (z := 112) (ns := 1) (by decide +kernel) (as := [.ref b2, g_n 2]) (r := [.ref a0]) rfl rfl rfl ?_
  refine r_callI h fun r7 M4 hx5 hok6 hr8 h => ?_
  replace h := h hx5 hok6 hr8
  replace hO1 := hO1.up hx5
  refine r_putI x_205_9 (ci := 11) (k := 14) (ns := 0) (by decide +kernel) (by decide) (g_f0 (by decide +kernel)) rfl hr8 trivial (kz := 14) rfl hO1 ?_
  obtain ⟨M9, hM10⟩ : ∃ Mz, Mz = g_wi M4 a0 14 r7 := ⟨_, rfl⟩
  rw [← hM10]
  refine g_Run.ok fun hok11 => ?_
  replace h := h M9 hM10 hok11
  have hx12 := g_extW hM10
  replace hO1 := hO1.up hx12
  refine r_aload_n x_205_12 rfl ?_
  refine r_aload_n x_205_13 rfl ?_
  refine r_aload_n x_205_14 rfl ?_
  refine r_getI x_205_15 rfl (ci := 11) (k := 14) (ns := 0) (by decide +kernel) (by decide) rfl (kz := 14) rfl hO1 ?_
  refine r_invV x_205_18 (z := 206) (ns := 0) (by decide +kernel) (as := [g_n (g_i M9 a0 14)]) (r := [.ref a0]) rfl rfl rfl hO1 rfl rfl ?_
  refine r_callI h fun r16 M13 hx14 hok15 hr17 h => ?_
  replace h := h hx14 hok15 hr17
  replace hO1 := hO1.up hx14
  refine r_putI x_205_21 (ci := 11) (k := 13) (ns := 0) (by decide +kernel) (by decide) (g_f0 (by decide +kernel)) rfl hr17 trivial (kz := 13) rfl hO1 ?_
  obtain ⟨M18, hM19⟩ : ∃ Mz, Mz = g_wi M13 a0 13 r16 := ⟨_, rfl⟩
  rw [← hM19]
  refine g_Run.ok fun hok20 => ?_
  replace h := h M18 hM19 hok20
  have hx21 := g_extW hM19
  replace hO1 := hO1.up hx21
  refine r_aload_n x_205_24 rfl ?_
  refine r_getI x_205_25 rfl (ci := 11) (k := 13) (ns := 0) (by decide +kernel) (by decide) rfl (kz := 13) rfl hO1 ?_
  refine r_if_ne x_205_28 (t := 36) (by decide +kernel) (hok20.1 _ _) (fun hc => ?_) (fun hc => ?_)
  · replace h := h.2 hc
    refine r_aload_n x_205_36 rfl ?_
    refine r_invV x_205_37 (z := 208) (ns := 0) (by decide +kernel) (as := []) (r := []) rfl rfl rfl hO1 rfl rfl ?_
    refine r_callI h fun r25 M22 hx23 hok24 hr26 h => ?_
    replace h := h hx23 hok24 hr26
    replace hO1 := hO1.up hx23
    refine r_istore_n x_205_40 (by decide +kernel) rfl (lv1 := [(0, .ref a0), (1, g_n r25)]) rfl ?_
    refine r_iload_n x_205_41 rfl ?_
    refine r_if_lt x_205_42 (t := 47) (by decide +kernel) hr26 (fun hc => ?_) (fun hc => ?_)
    · replace h := h.1 hc
      refine r_aload_n x_205_47 rfl ?_
      obtain ⟨b27, hb28, h⟩ := h
      refine r_getR x_205_48 rfl (ci := 11) (k := 0) (ns := 0) (by decide +kernel) (by decide) rfl (kz := 0) rfl hO1 hb28 ?_
      refine r_aload_n x_205_51 rfl ?_
      refine r_getI x_205_52 rfl (ci := 11) (k := 14) (ns := 0) (by decide +kernel) (by decide) rfl (kz := 14) rfl hO1 ?_
      refine r_invS x_205_55 (z := 111) (ns := 1) (by decide +kernel) (as := [.ref b27, g_n (g_i M22 a0 14)]) (r := []) rfl rfl rfl ?_
      refine r_callI h fun r32 M29 hx30 hok31 hr33 h => ?_
      replace h := h hx30 hok31 hr33
      replace hO1 := hO1.up hx30
      refine r_istore_n x_205_58 (by decide +kernel) rfl (lv1 := [(0, .ref a0), (1, g_n r25), (2, g_n r32)]) rfl ?_
      refine r_aload_n x_205_59 rfl ?_
      refine r_iload_n x_205_60 rfl ?_
      refine r_invV x_205_61 (z := 207) (ns := 0) (by decide +kernel) (as := [g_n r32]) (r := []) rfl rfl rfl hO1 rfl rfl ?_
      refine r_callI h fun r37 M34 hx35 hok36 hr38 h => ?_
      replace h := h hx35 hok36 hr38
      replace hO1 := hO1.up hx35
      refine r_if_ne x_205_64 (t := 69) (by decide +kernel) hr38 (fun hc => ?_) (fun hc => ?_)
      · replace h := h.2 hc
        refine r_aload_n x_205_69 rfl ?_
        refine r_aload_n x_205_70 rfl ?_
        obtain ⟨b39, hb40, h⟩ := h
        refine r_getR x_205_71 rfl (ci := 11) (k := 9) (ns := 0) (by decide +kernel) (by decide) rfl (kz := 9) rfl hO1 hb40 ?_
        refine r_aload_n x_205_74 rfl ?_
        obtain ⟨b41, hb42, h⟩ := h
        refine r_getR x_205_75 rfl (ci := 11) (k := 0) (ns := 0) (by decide +kernel) (by decide) rfl (kz := 0) rfl hO1 hb42 ?_
        refine r_iload_n x_205_78 rfl ?_
        refine r_invS x_205_79 (z := 118) (ns := 1) (by decide +kernel) (as := [.ref b41, g_n r32]) (r := [.ref b39, .ref a0]) rfl rfl rfl ?_
        refine r_callL h fun R46 M43 hx44 hok45 h => ?_
        replace h := h hx44 hok45
        replace hO1 := hO1.up hx44
        refine r_lconst x_205_82 ?_
        show g_Run d 205 83 [(0, .ref a0), (1, g_n r25), (2, g_n r32)] [.long 0, .long R46, .ref b39, .ref a0] M43 _
        refine r_lcmp x_205_83 ?_
        refine r_if_ne x_205_84 (t := 91) (by decide +kernel) (g_InR_toInt _) (fun hc => ?_) (fun hc => ?_)
        · replace h := h.2 hc
          refine r_iconst x_205_91 ?_
          exact h
        · replace h := h.1 hc
          refine r_iconst x_205_87 ?_
          refine r_goto x_205_88 (t := 92) (by decide +kernel) ?_
          exact h
      · replace h := h.1 hc
        refine r_iload_n x_205_67 rfl ?_
        exact r_retI x_205_68 rfl hr33 h
    · replace h := h.2 hc
      refine r_iload_n x_205_45 rfl ?_
      exact r_retI x_205_46 rfl hr26 h
  · replace h := h.1 hc
    refine r_aload_n x_205_31 rfl ?_
    refine r_getI x_205_32 rfl (ci := 11) (k := 14) (ns := 0) (by decide +kernel) (by decide) rfl (kz := 14) rfl hO1 ?_
    exact r_retI x_205_35 rfl (hok20.1 _ _) h
theorem s_X11_wrongInRequest_92 {d : Nat} {M : g_M} {Q : Int → g_M → Prop} {a0 : Nat} {v1 : Int} (hv1 : g_InR v1) {v2 : Int} (hv2 : g_InR v2) {w0 : Int} (hw0 : g_InR w0) {c1 : Nat} {c2 : Nat} (h : g_ok M → ∃ n1, g_A M c1 4 n1 ∧ ((0 : Int) ≤ w0 ∧ (w0 : Int) < n1) ∧ ∃ b4, g_r M c1 w0 = some b4 ∧ g_O M c2 11 ∧ (∀ M7, M7 = g_wr M c2 16 (some b4) → g_ok M7 → g_O M7 a0 11 ∧ ∃ b12, g_r M7 a0 0 = some b12 ∧ g_Call d 111 [.ref b12, g_n v2] M7 (g_qI fun r17 M14 => g_ext M7 M14 → g_ok M14 → g_InR r17 → (∀ M19, M19 = g_wi M14 a0 15 r17 → g_ok M19 → ((g_i M19 a0 13 = 4 → ((g_i M19 a0 13 = 4 → g_Call d 211 [.ref a0] M19 (g_qI fun r31 M28 => g_ext M19 M28 → g_ok M28 → g_InR r31 → g_Run d 205 146 [(0, .ref a0), (1, g_n v1), (2, g_n r17)] [g_n r31] M28 (g_qI Q))) ∧ (¬ g_i M19 a0 13 = 4 → g_Call d 212 [.ref a0] M19 (g_qI fun r26 M23 => g_ext M19 M23 → g_ok M23 → g_InR r26 → g_Run d 205 146 [(0, .ref a0), (1, g_n v1), (2, g_n r17)] [g_n r26] M23 (g_qI Q))))) ∧ (¬ g_i M19 a0 13 = 4 → ((g_i M19 a0 13 = 6 → ((g_i M19 a0 13 = 4 → g_Call d 211 [.ref a0] M19 (g_qI fun r48 M45 => g_ext M19 M45 → g_ok M45 → g_InR r48 → g_Run d 205 146 [(0, .ref a0), (1, g_n v1), (2, g_n r17)] [g_n r48] M45 (g_qI Q))) ∧ (¬ g_i M19 a0 13 = 4 → g_Call d 212 [.ref a0] M19 (g_qI fun r43 M40 => g_ext M19 M40 → g_ok M40 → g_InR r43 → g_Run d 205 146 [(0, .ref a0), (1, g_n v1), (2, g_n r17)] [g_n r43] M40 (g_qI Q))))) ∧ (¬ g_i M19 a0 13 = 6 → ∃ b33, g_r M19 a0 0 = some b33 ∧ g_Call d 108 [.ref b33, g_n r17] M19 (g_qI fun r38 M35 => g_ext M19 M35 → g_ok M35 → g_InR r38 → ((r38 = 0 → Q ((-1)) M35) ∧ (¬ r38 = 0 → Q r17 M35))))))))))) : g_Run d 205 92 [(0, .ref a0), (1, g_n v1), (2, g_n v2)] [g_n w0, .ref c1, .ref c2] M (g_qI Q) := by
  refine g_Run.ok fun hok => ?_
  replace h := h hok
  obtain ⟨n1, hA2, h⟩ := h
  obtain ⟨h3, h⟩ := h
  obtain ⟨b4, hb5, h⟩ := h
  refine r_aald x_205_92 (by decide) hA2 hw0 h3.1 h3.2 hb5 ?_
  obtain ⟨hO6, h⟩ := h
  refine r_putR x_205_93 (o := (some b4)) (ci := 11) (k := 16) (ns := 0) (by decide +kernel) (by decide) (g_fR (by decide +kernel) rfl) rfl (kz := 16) rfl hO6 ?_
  obtain ⟨M7, hM8⟩ : ∃ Mz, Mz = g_wr M c2 16 (some b4) := ⟨_, rfl⟩
  rw [← hM8]
  refine g_Run.ok fun hok9 => ?_
  replace h := h M7 hM8 hok9
  have hx10 := g_extR hM8
  replace hO6 := hO6.up hx10
  replace hA2 := hA2.up hx10
  refine r_aload_n x_205_96 rfl ?_
  obtain ⟨hO11, h⟩ := h
  obtain ⟨b12, hb13, h⟩ := h
  refine r_getR x_205_97 rfl (ci := 11) (k := 0) (ns := 0) (by decide +kernel) (by decide) rfl (kz := 0) rfl hO11 hb13 ?_
  refine r_iload_n x_205_100 rfl ?_
  refine r_invS x_205_101 (z := 111) (ns := 1) (by decide +kernel) (as := [.ref b12, g_n v2]) (r := []) rfl rfl rfl ?_
  refine r_callI h fun r17 M14 hx15 hok16 hr18 h => ?_
  replace h := h hx15 hok16 hr18
  replace hO6 := hO6.up hx15
  replace hO11 := hO11.up hx15
  replace hA2 := hA2.up hx15
  refine r_istore_n x_205_104 (by decide +kernel) rfl (lv1 := [(0, .ref a0), (1, g_n v1), (2, g_n r17)]) rfl ?_
  refine r_aload_n x_205_105 rfl ?_
  refine r_iload_n x_205_106 rfl ?_
  refine r_putI x_205_107 (ci := 11) (k := 15) (ns := 0) (by decide +kernel) (by decide) (g_f0 (by decide +kernel)) rfl hr18 trivial (kz := 15) rfl hO11 ?_
  obtain ⟨M19, hM20⟩ : ∃ Mz, Mz = g_wi M14 a0 15 r17 := ⟨_, rfl⟩
  rw [← hM20]
  refine g_Run.ok fun hok21 => ?_
  replace h := h M19 hM20 hok21
  have hx22 := g_extW hM20
  replace hO6 := hO6.up hx22
  replace hO11 := hO11.up hx22
  replace hA2 := hA2.up hx22
  refine r_aload_n x_205_110 rfl ?_
  refine r_getI x_205_111 rfl (ci := 11) (k := 13) (ns := 0) (by decide +kernel) (by decide) rfl (kz := 13) rfl hO11 ?_
  refine r_iconst x_205_114 ?_
  refine r_ic_eq x_205_115 (t := 127) (by decide +kernel) (hok21.1 _ _) (g_Rk rfl) (fun hc => ?_) (fun hc => ?_)
  · replace h := h.1 hc
    refine r_aload_n x_205_127 rfl ?_
    refine r_getI x_205_128 rfl (ci := 11) (k := 13) (ns := 0) (by decide +kernel) (by decide) rfl (kz := 13) rfl hO11 ?_
    refine r_iconst x_205_131 ?_
    refine r_ic_ne x_205_132 (t := 142) (by decide +kernel) (hok21.1 _ _) (g_Rk rfl) (fun hc => ?_) (fun hc => ?_)
    · replace h := h.2 hc
      refine r_aload_n x_205_142 rfl ?_
      refine r_invV x_205_143 (z := 212) (ns := 0) (by decide +kernel) (as := []) (r := []) rfl rfl rfl hO11 rfl rfl ?_
      refine r_callI h fun r26 M23 hx24 hok25 hr27 h => ?_
      replace h := h hx24 hok25 hr27
      replace hO6 := hO6.up hx24
      replace hO11 := hO11.up hx24
      replace hA2 := hA2.up hx24
      exact h
    · replace h := h.1 hc
      refine r_aload_n x_205_135 rfl ?_
      refine r_invV x_205_136 (z := 211) (ns := 0) (by decide +kernel) (as := []) (r := []) rfl rfl rfl hO11 rfl rfl ?_
      refine r_callI h fun r31 M28 hx29 hok30 hr32 h => ?_
      replace h := h hx29 hok30 hr32
      replace hO6 := hO6.up hx29
      replace hO11 := hO11.up hx29
      replace hA2 := hA2.up hx29
      refine r_goto x_205_139 (t := 146) (by decide +kernel) ?_
      exact h
  · replace h := h.2 hc
    refine r_aload_n x_205_118 rfl ?_
    refine r_getI x_205_119 rfl (ci := 11) (k := 13) (ns := 0) (by decide +kernel) (by decide) rfl (kz := 13) rfl hO11 ?_
    refine r_bipush x_205_122 (x := 6) rfl ?_
    refine r_ic_ne x_205_124 (t := 162) (by decide +kernel) (hok21.1 _ _) (g_Rk rfl) (fun hc => ?_) (fun hc => ?_)
    · replace h := h.2 hc
      refine r_aload_n x_205_162 rfl ?_
      obtain ⟨b33, hb34, h⟩ := h
      refine r_getR x_205_163 rfl (ci := 11) (k := 0) (ns := 0) (by decide +kernel) (by decide) rfl (kz := 0) rfl hO11 hb34 ?_
      refine r_iload_n x_205_166 rfl ?_
      refine r_invS x_205_167 (z := 108) (ns := 1) (by decide +kernel) (as := [.ref b33, g_n r17]) (r := []) rfl rfl rfl ?_
      refine r_callI h fun r38 M35 hx36 hok37 hr39 h => ?_
      replace h := h hx36 hok37 hr39
      replace hO6 := hO6.up hx36
      replace hO11 := hO11.up hx36
      replace hA2 := hA2.up hx36
      refine r_if_ne x_205_170 (t := 177) (by decide +kernel) hr39 (fun hc => ?_) (fun hc => ?_)
      · replace h := h.2 hc
        refine r_iload_n x_205_177 rfl ?_
        exact r_retI x_205_178 rfl hr18 h
      · replace h := h.1 hc
        refine r_iconst x_205_173 ?_
        refine r_goto x_205_174 (t := 178) (by decide +kernel) ?_
        exact r_retI x_205_178 rfl (g_Rk rfl) h
    · replace h := h.1 hc
      refine r_aload_n x_205_127 rfl ?_
      refine r_getI x_205_128 rfl (ci := 11) (k := 13) (ns := 0) (by decide +kernel) (by decide) rfl (kz := 13) rfl hO11 ?_
      refine r_iconst x_205_131 ?_
      refine r_ic_ne x_205_132 (t := 142) (by decide +kernel) (hok21.1 _ _) (g_Rk rfl) (fun hc => ?_) (fun hc => ?_)
      · replace h := h.2 hc
        refine r_aload_n x_205_142 rfl ?_
        refine r_invV x_205_143 (z := 212) (ns := 0) (by decide +kernel) (as := []) (r := []) rfl rfl rfl hO11 rfl rfl ?_
        refine r_callI h fun r43 M40 hx41 hok42 hr44 h => ?_
        replace h := h hx41 hok42 hr44
        replace hO6 := hO6.up hx41
        replace hO11 := hO11.up hx41
        replace hA2 := hA2.up hx41
        exact h
      · replace h := h.1 hc
        refine r_aload_n x_205_135 rfl ?_
        refine r_invV x_205_136 (z := 211) (ns := 0) (by decide +kernel) (as := []) (r := []) rfl rfl rfl hO11 rfl rfl ?_
        refine r_callI h fun r48 M45 hx46 hok47 hr49 h => ?_
        replace h := h hx46 hok47 hr49
        replace hO6 := hO6.up hx46
        replace hO11 := hO11.up hx46
        replace hA2 := hA2.up hx46
        refine r_goto x_205_139 (t := 146) (by decide +kernel) ?_
        exact h
theorem s_X11_wrongInRequest_146 {d : Nat} {M : g_M} {Q : Int → g_M → Prop} {a0 : Nat} {v1 : Int} (hv1 : g_InR v1) {v2 : Int} (hv2 : g_InR v2) {w0 : Int} (hw0 : g_InR w0) (h : g_ok M → ((w0 < 0 → g_O M a0 11 ∧ ∃ b2, g_r M a0 0 = some b2 ∧ g_Call d 111 [.ref b2, g_n v2] M (g_qI fun r7 M4 => g_ext M M4 → g_ok M4 → g_InR r7 → ∃ b9, g_r M4 a0 0 = some b9 ∧ g_Call d 108 [.ref b9, g_n r7] M4 (g_qI fun r14 M11 => g_ext M4 M11 → g_ok M11 → g_InR r14 → ((r14 = 0 → Q ((-1)) M11) ∧ (¬ r14 = 0 → Q r7 M11))))) ∧ (¬ w0 < 0 → Q w0 M))) : g_Run d 205 146 [(0, .ref a0), (1, g_n v1), (2, g_n v2)] [g_n w0] M (g_qI Q) := by
  refine g_Run.ok fun hok => ?_
  replace h := h hok
  refine r_istore_n x_205_146 (by decide +kernel) rfl (lv1 := [(0, .ref a0), (1, g_n w0), (2, g_n v2)]) rfl ?_
  refine r_iload_n x_205_147 rfl ?_
  refine r_if_lt x_205_148 (t := 153) (by decide +kernel) hw0 (fun hc => ?_) (fun hc => ?_)
  · replace h := h.1 hc
    refine r_aload_n x_205_153 rfl ?_
    obtain ⟨hO1, h⟩ := h
    obtain ⟨b2, hb3, h⟩ := h
    refine r_getR x_205_154 rfl (ci := 11) (k := 0) (ns := 0) (by decide +kernel) (by decide) rfl (kz := 0) rfl hO1 hb3 ?_
    refine r_iload_n x_205_157 rfl ?_
    refine r_invS x_205_158 (z := 111) (ns := 1) (by decide +kernel) (as := [.ref b2, g_n v2]) (r := []) rfl rfl rfl ?_
    refine r_callI h fun r7 M4 hx5 hok6 hr8 h => ?_
    replace h := h hx5 hok6 hr8
    replace hO1 := hO1.up hx5
    refine r_istore_n x_205_161 (by decide +kernel) rfl (lv1 := [(0, .ref a0), (1, g_n w0), (2, g_n r7)]) rfl ?_
    refine r_aload_n x_205_162 rfl ?_
    obtain ⟨b9, hb10, h⟩ := h
    refine r_getR x_205_163 rfl (ci := 11) (k := 0) (ns := 0) (by decide +kernel) (by decide) rfl (kz := 0) rfl hO1 hb10 ?_
    refine r_iload_n x_205_166 rfl ?_
    refine r_invS x_205_167 (z := 108) (ns := 1) (by decide +kernel) (as := [.ref b9, g_n r7]) (r := []) rfl rfl rfl ?_
    refine r_callI h fun r14 M11 hx12 hok13 hr15 h => ?_
    replace h := h hx12 hok13 hr15
    replace hO1 := hO1.up hx12
    refine r_if_ne x_205_170 (t := 177) (by decide +kernel) hr15 (fun hc => ?_) (fun hc => ?_)
    · replace h := h.2 hc
      refine r_iload_n x_205_177 rfl ?_
      exact r_retI x_205_178 rfl hr8 h
    · replace h := h.1 hc
      refine r_iconst x_205_173 ?_
      refine r_goto x_205_174 (t := 178) (by decide +kernel) ?_
      exact r_retI x_205_178 rfl (g_Rk rfl) h
  · replace h := h.2 hc
    refine r_iload_n x_205_151 rfl ?_
    exact r_retI x_205_152 rfl hw0 h
theorem m_X11_operationOf {d : Nat} {M : g_M} {Q : Int → g_M → Prop} {a0 : Nat} {v1 : Int} (hv1 : g_InR v1) (h : g_ok M → g_O M a0 11 ∧ ∃ b2, g_r M a0 0 = some b2 ∧ g_Call d 108 [.ref b2, g_n v1] M (g_qI fun r7 M4 => g_ext M M4 → g_ok M4 → g_InR r7 → ((r7 = 0 → Q 0 M4) ∧ (¬ r7 = 0 → ∃ b9, g_r M4 a0 0 = some b9 ∧ g_Call d 115 [.ref b9, g_n v1, .ref (4 * 0 + 1)] M4 (g_qI fun r14 M11 => g_ext M4 M11 → g_ok M11 → g_InR r14 → ((r14 = 0 → ∃ b16, g_r M11 a0 0 = some b16 ∧ g_Call d 115 [.ref b16, g_n v1, .ref (4 * 1 + 1)] M11 (g_qI fun r21 M18 => g_ext M11 M18 → g_ok M18 → g_InR r21 → ((r21 = 0 → ∃ b23, g_r M18 a0 0 = some b23 ∧ g_Call d 115 [.ref b23, g_n v1, .ref (4 * 2 + 1)] M18 (g_qI fun r28 M25 => g_ext M18 M25 → g_ok M25 → g_InR r28 → ((r28 = 0 → ∃ b30, g_r M25 a0 0 = some b30 ∧ g_Call d 115 [.ref b30, g_n v1, .ref (4 * 3 + 1)] M25 (g_qI fun r35 M32 => g_ext M25 M32 → g_ok M32 → g_InR r35 → ((r35 = 0 → ∃ b37, g_r M32 a0 0 = some b37 ∧ g_Call d 115 [.ref b37, g_n v1, .ref (4 * 4 + 1)] M32 (g_qI fun r42 M39 => g_ext M32 M39 → g_ok M39 → g_InR r42 → ((r42 = 0 → ∃ b44, g_r M39 a0 0 = some b44 ∧ g_Call d 115 [.ref b44, g_n v1, .ref (4 * 5 + 1)] M39 (g_qI fun r49 M46 => g_ext M39 M46 → g_ok M46 → g_InR r49 → ((r49 = 0 → ∃ b51, g_r M46 a0 0 = some b51 ∧ g_Call d 115 [.ref b51, g_n v1, .ref (4 * 6 + 1)] M46 (g_qI fun r56 M53 => g_ext M46 M53 → g_ok M53 → g_InR r56 → ((r56 = 0 → ∃ b58, g_r M53 a0 0 = some b58 ∧ g_Call d 115 [.ref b58, g_n v1, .ref (4 * 7 + 1)] M53 (g_qI fun r63 M60 => g_ext M53 M60 → g_ok M60 → g_InR r63 → ((r63 = 0 → ∃ b65, g_r M60 a0 0 = some b65 ∧ g_Call d 115 [.ref b65, g_n v1, .ref (4 * 8 + 1)] M60 (g_qI fun r70 M67 => g_ext M60 M67 → g_ok M67 → g_InR r70 → ((r70 = 0 → ∃ b72, g_r M67 a0 0 = some b72 ∧ g_Call d 115 [.ref b72, g_n v1, .ref (4 * 9 + 1)] M67 (g_qI fun r77 M74 => g_ext M67 M74 → g_ok M74 → g_InR r77 → ((r77 = 0 → Q 0 M74) ∧ (¬ r77 = 0 → Q 10 M74)))) ∧ (¬ r70 = 0 → Q 9 M67)))) ∧ (¬ r63 = 0 → Q 8 M60)))) ∧ (¬ r56 = 0 → Q 7 M53)))) ∧ (¬ r49 = 0 → Q 6 M46)))) ∧ (¬ r42 = 0 → Q 5 M39)))) ∧ (¬ r35 = 0 → Q 4 M32)))) ∧ (¬ r28 = 0 → Q 3 M25)))) ∧ (¬ r21 = 0 → Q 2 M18)))) ∧ (¬ r14 = 0 → Q 1 M11))))))) : g_Call (d + 1) 206 [.ref a0, g_n v1] M (g_qI Q) := by
  refine g_Call.ok fun hok0 => ?_
  replace h := h hok0
  refine r_body rfl (lv := [(0, .ref a0), (1, g_n v1)]) rfl ?_
  refine g_Run.ok fun hok => ?_
  refine r_aload_n x_206_0 rfl ?_
  obtain ⟨hO1, h⟩ := h
  obtain ⟨b2, hb3, h⟩ := h
  refine r_getR x_206_1 rfl (ci := 11) (k := 0) (ns := 0) (by decide +kernel) (by decide) rfl (kz := 0) rfl hO1 hb3 ?_
  refine r_iload_n x_206_4 rfl ?_
  refine r_invS x_206_5 (z := 108) (ns := 1) (by decide +kernel) (as := [.ref b2, g_n v1]) (r := []) rfl rfl rfl ?_
  refine r_callI h fun r7 M4 hx5 hok6 hr8 h => ?_
  replace h := h hx5 hok6 hr8
  replace hO1 := hO1.up hx5
  refine r_if_ne x_206_8 (t := 13) (by decide +kernel) hr8 (fun hc => ?_) (fun hc => ?_)
  · replace h := h.2 hc
    refine r_aload_n x_206_13 rfl ?_
    obtain ⟨b9, hb10, h⟩ := h
    refine r_getR x_206_14 rfl (ci := 11) (k := 0) (ns := 0) (by decide +kernel) (by decide) rfl (kz := 0) rfl hO1 hb10 ?_
    refine r_iload_n x_206_17 rfl ?_
    refine r_ldc x_206_18 (v := .ref (4 * 0 + 1)) rfl ?_
    refine r_invS x_206_20 (z := 115) (ns := 1) (by decide +kernel) (as := [.ref b9, g_n v1, .ref (4 * 0 + 1)]) (r := []) rfl rfl rfl ?_
    refine r_callI h fun r14 M11 hx12 hok13 hr15 h => ?_
    replace h := h hx12 hok13 hr15
    replace hO1 := hO1.up hx12
    refine r_if_eq x_206_23 (t := 30) (by decide +kernel) hr15 (fun hc => ?_) (fun hc => ?_)
    · replace h := h.1 hc
      refine r_aload_n x_206_30 rfl ?_
      obtain ⟨b16, hb17, h⟩ := h
      refine r_getR x_206_31 rfl (ci := 11) (k := 0) (ns := 0) (by decide +kernel) (by decide) rfl (kz := 0) rfl hO1 hb17 ?_
      refine r_iload_n x_206_34 rfl ?_
      refine r_ldc x_206_35 (v := .ref (4 * 1 + 1)) rfl ?_
      refine r_invS x_206_37 (z := 115) (ns := 1) (by decide +kernel) (as := [.ref b16, g_n v1, .ref (4 * 1 + 1)]) (r := []) rfl rfl rfl ?_
      refine r_callI h fun r21 M18 hx19 hok20 hr22 h => ?_
      replace h := h hx19 hok20 hr22
      replace hO1 := hO1.up hx19
      refine r_if_eq x_206_40 (t := 47) (by decide +kernel) hr22 (fun hc => ?_) (fun hc => ?_)
      · replace h := h.1 hc
        refine r_aload_n x_206_47 rfl ?_
        obtain ⟨b23, hb24, h⟩ := h
        refine r_getR x_206_48 rfl (ci := 11) (k := 0) (ns := 0) (by decide +kernel) (by decide) rfl (kz := 0) rfl hO1 hb24 ?_
        refine r_iload_n x_206_51 rfl ?_
        refine r_ldc x_206_52 (v := .ref (4 * 2 + 1)) rfl ?_
        refine r_invS x_206_54 (z := 115) (ns := 1) (by decide +kernel) (as := [.ref b23, g_n v1, .ref (4 * 2 + 1)]) (r := []) rfl rfl rfl ?_
        refine r_callI h fun r28 M25 hx26 hok27 hr29 h => ?_
        replace h := h hx26 hok27 hr29
        replace hO1 := hO1.up hx26
        refine r_if_eq x_206_57 (t := 64) (by decide +kernel) hr29 (fun hc => ?_) (fun hc => ?_)
        · replace h := h.1 hc
          refine r_aload_n x_206_64 rfl ?_
          obtain ⟨b30, hb31, h⟩ := h
          refine r_getR x_206_65 rfl (ci := 11) (k := 0) (ns := 0) (by decide +kernel) (by decide) rfl (kz := 0) rfl hO1 hb31 ?_
          refine r_iload_n x_206_68 rfl ?_
          refine r_ldc x_206_69 (v := .ref (4 * 3 + 1)) rfl ?_
          refine r_invS x_206_71 (z := 115) (ns := 1) (by decide +kernel) (as := [.ref b30, g_n v1, .ref (4 * 3 + 1)]) (r := []) rfl rfl rfl ?_
          refine r_callI h fun r35 M32 hx33 hok34 hr36 h => ?_
          replace h := h hx33 hok34 hr36
          replace hO1 := hO1.up hx33
          refine r_if_eq x_206_74 (t := 81) (by decide +kernel) hr36 (fun hc => ?_) (fun hc => ?_)
          · replace h := h.1 hc
            refine r_aload_n x_206_81 rfl ?_
            obtain ⟨b37, hb38, h⟩ := h
            refine r_getR x_206_82 rfl (ci := 11) (k := 0) (ns := 0) (by decide +kernel) (by decide) rfl (kz := 0) rfl hO1 hb38 ?_
            refine r_iload_n x_206_85 rfl ?_
            refine r_ldc x_206_86 (v := .ref (4 * 4 + 1)) rfl ?_
            refine r_invS x_206_88 (z := 115) (ns := 1) (by decide +kernel) (as := [.ref b37, g_n v1, .ref (4 * 4 + 1)]) (r := []) rfl rfl rfl ?_
            refine r_callI h fun r42 M39 hx40 hok41 hr43 h => ?_
            replace h := h hx40 hok41 hr43
            replace hO1 := hO1.up hx40
            refine r_if_eq x_206_91 (t := 98) (by decide +kernel) hr43 (fun hc => ?_) (fun hc => ?_)
            · replace h := h.1 hc
              refine r_aload_n x_206_98 rfl ?_
              obtain ⟨b44, hb45, h⟩ := h
              refine r_getR x_206_99 rfl (ci := 11) (k := 0) (ns := 0) (by decide +kernel) (by decide) rfl (kz := 0) rfl hO1 hb45 ?_
              refine r_iload_n x_206_102 rfl ?_
              refine r_ldc x_206_103 (v := .ref (4 * 5 + 1)) rfl ?_
              refine r_invS x_206_105 (z := 115) (ns := 1) (by decide +kernel) (as := [.ref b44, g_n v1, .ref (4 * 5 + 1)]) (r := []) rfl rfl rfl ?_
              refine r_callI h fun r49 M46 hx47 hok48 hr50 h => ?_
              replace h := h hx47 hok48 hr50
              replace hO1 := hO1.up hx47
              refine r_if_eq x_206_108 (t := 116) (by decide +kernel) hr50 (fun hc => ?_) (fun hc => ?_)
              · replace h := h.1 hc
                refine r_aload_n x_206_116 rfl ?_
                obtain ⟨b51, hb52, h⟩ := h
                refine r_getR x_206_117 rfl (ci := 11) (k := 0) (ns := 0) (by decide +kernel) (by decide) rfl (kz := 0) rfl hO1 hb52 ?_
                refine r_iload_n x_206_120 rfl ?_
                refine r_ldc x_206_121 (v := .ref (4 * 6 + 1)) rfl ?_
                refine r_invS x_206_123 (z := 115) (ns := 1) (by decide +kernel) (as := [.ref b51, g_n v1, .ref (4 * 6 + 1)]) (r := []) rfl rfl rfl ?_
                refine r_callI h fun r56 M53 hx54 hok55 hr57 h => ?_
                replace h := h hx54 hok55 hr57
                replace hO1 := hO1.up hx54
                refine r_if_eq x_206_126 (t := 134) (by decide +kernel) hr57 (fun hc => ?_) (fun hc => ?_)
                · replace h := h.1 hc
                  refine r_aload_n x_206_134 rfl ?_
                  obtain ⟨b58, hb59, h⟩ := h
                  refine r_getR x_206_135 rfl (ci := 11) (k := 0) (ns := 0) (by decide +kernel) (by decide) rfl (kz := 0) rfl hO1 hb59 ?_
                  refine r_iload_n x_206_138 rfl ?_
                  refine r_ldcw x_206_139 (v := .ref (4 * 7 + 1)) rfl ?_
                  refine r_invS x_206_142 (z := 115) (ns := 1) (by decide +kernel) (as := [.ref b58, g_n v1, .ref (4 * 7 + 1)]) (r := []) rfl rfl rfl ?_
                  refine r_callI h fun r63 M60 hx61 hok62 hr64 h => ?_
                  replace h := h hx61 hok62 hr64
                  replace hO1 := hO1.up hx61
                  refine r_if_eq x_206_145 (t := 153) (by decide +kernel) hr64 (fun hc => ?_) (fun hc => ?_)
                  · replace h := h.1 hc
                    refine r_aload_n x_206_153 rfl ?_
                    obtain ⟨b65, hb66, h⟩ := h
                    refine r_getR x_206_154 rfl (ci := 11) (k := 0) (ns := 0) (by decide +kernel) (by decide) rfl (kz := 0) rfl hO1 hb66 ?_
                    refine r_iload_n x_206_157 rfl ?_
                    refine r_ldcw x_206_158 (v := .ref (4 * 8 + 1)) rfl ?_
                    refine r_invS x_206_161 (z := 115) (ns := 1) (by decide +kernel) (as := [.ref b65, g_n v1, .ref (4 * 8 + 1)]) (r := []) rfl rfl rfl ?_
                    refine r_callI h fun r70 M67 hx68 hok69 hr71 h => ?_
                    replace h := h hx68 hok69 hr71
                    replace hO1 := hO1.up hx68
                    refine r_if_eq x_206_164 (t := 172) (by decide +kernel) hr71 (fun hc => ?_) (fun hc => ?_)
                    · replace h := h.1 hc
                      refine r_aload_n x_206_172 rfl ?_
                      obtain ⟨b72, hb73, h⟩ := h
                      refine r_getR x_206_173 rfl (ci := 11) (k := 0) (ns := 0) (by decide +kernel) (by decide) rfl (kz := 0) rfl hO1 hb73 ?_
                      refine r_iload_n x_206_176 rfl ?_
                      refine r_ldcw x_206_177 (v := .ref (4 * 9 + 1)) rfl ?_
                      refine r_invS x_206_180 (z := 115) (ns := 1) (by decide +kernel) (as := [.ref b72, g_n v1, .ref (4 * 9 + 1)]) (r := []) rfl rfl rfl ?_
                      refine r_callI h fun r77 M74 hx75 hok76 hr78 h => ?_
                      replace h := h hx75 hok76 hr78
                      replace hO1 := hO1.up hx75
                      refine r_if_eq x_206_183 (t := 191) (by decide +kernel) hr78 (fun hc => ?_) (fun hc => ?_)
                      · replace h := h.1 hc
                        refine r_iconst x_206_191 ?_
                        exact r_retI x_206_192 rfl (g_Rk rfl) h
                      · replace h := h.2 hc
                        refine r_bipush x_206_186 (x := 10) rfl ?_
                        refine r_goto x_206_188 (t := 192) (by decide +kernel) ?_
                        exact r_retI x_206_192 rfl (g_Rk rfl) h
                    · replace h := h.2 hc
                      refine r_bipush x_206_167 (x := 9) rfl ?_
                      refine r_goto x_206_169 (t := 192) (by decide +kernel) ?_
                      exact r_retI x_206_192 rfl (g_Rk rfl) h
                  · replace h := h.2 hc
                    refine r_bipush x_206_148 (x := 8) rfl ?_
                    refine r_goto x_206_150 (t := 192) (by decide +kernel) ?_
                    exact r_retI x_206_192 rfl (g_Rk rfl) h
                · replace h := h.2 hc
                  refine r_bipush x_206_129 (x := 7) rfl ?_
                  refine r_goto x_206_131 (t := 192) (by decide +kernel) ?_
                  exact r_retI x_206_192 rfl (g_Rk rfl) h
              · replace h := h.2 hc
                refine r_bipush x_206_111 (x := 6) rfl ?_
                refine r_goto x_206_113 (t := 192) (by decide +kernel) ?_
                exact r_retI x_206_192 rfl (g_Rk rfl) h
            · replace h := h.2 hc
              refine r_iconst x_206_94 ?_
              refine r_goto x_206_95 (t := 192) (by decide +kernel) ?_
              exact r_retI x_206_192 rfl (g_Rk rfl) h
          · replace h := h.2 hc
            refine r_iconst x_206_77 ?_
            refine r_goto x_206_78 (t := 192) (by decide +kernel) ?_
            exact r_retI x_206_192 rfl (g_Rk rfl) h
        · replace h := h.2 hc
          refine r_iconst x_206_60 ?_
          refine r_goto x_206_61 (t := 192) (by decide +kernel) ?_
          exact r_retI x_206_192 rfl (g_Rk rfl) h
      · replace h := h.2 hc
        refine r_iconst x_206_43 ?_
        refine r_goto x_206_44 (t := 192) (by decide +kernel) ?_
        exact r_retI x_206_192 rfl (g_Rk rfl) h
    · replace h := h.2 hc
      refine r_iconst x_206_26 ?_
      refine r_goto x_206_27 (t := 192) (by decide +kernel) ?_
      exact r_retI x_206_192 rfl (g_Rk rfl) h
  · replace h := h.1 hc
    refine r_iconst x_206_11 ?_
    exact r_retI x_206_12 rfl (g_Rk rfl) h
theorem m_X11_isShelf {d : Nat} {M : g_M} {Q : Int → g_M → Prop} {a0 : Nat} {v1 : Int} (hv1 : g_InR v1) (h : g_ok M → g_O M a0 11 ∧ ∃ b2, g_r M a0 0 = some b2 ∧ g_Call d 117 [.ref b2, g_n v1] M (g_qI fun r7 M4 => g_ext M M4 → g_ok M4 → g_InR r7 → ((r7 = 0 → Q 0 M4) ∧ (¬ r7 = 0 → ∃ b9, g_r M4 a0 0 = some b9 ∧ g_Call d 115 [.ref b9, g_n v1, .ref (4 * 10 + 1)] M4 (g_qI fun r14 M11 => g_ext M4 M11 → g_ok M11 → g_InR r14 → ((r14 = 0 → Q 0 M11) ∧ (¬ r14 = 0 → ∃ b16, g_r M11 a0 0 = some b16 ∧ g_Call d 118 [.ref b16, g_n v1] M11 (g_qL fun R21 M18 => g_ext M11 M18 → g_ok M18 → ((g_lc R21 0 = 0 → Q 1 M18) ∧ (¬ g_lc R21 0 = 0 → ((g_lc R21 1 = 0 → Q 1 M18) ∧ (¬ g_lc R21 1 = 0 → Q 0 M18)))))))))))) : g_Call (d + 1) 207 [.ref a0, g_n v1] M (g_qI Q) := by
  refine g_Call.ok fun hok0 => ?_
  replace h := h hok0
  refine r_body rfl (lv := [(0, .ref a0), (1, g_n v1)]) rfl ?_
  refine g_Run.ok fun hok => ?_
  refine r_aload_n x_207_0 rfl ?_
  obtain ⟨hO1, h⟩ := h
  obtain ⟨b2, hb3, h⟩ := h
  refine r_getR x_207_1 rfl (ci := 11) (k := 0) (ns := 0) (by decide +kernel) (by decide) rfl (kz := 0) rfl hO1 hb3 ?_
  refine r_iload_n x_207_4 rfl ?_
  refine r_invS x_207_5 (z := 117) (ns := 1) (by decide +kernel) (as := [.ref b2, g_n v1]) (r := []) rfl rfl rfl ?_
  refine r_callI h fun r7 M4 hx5 hok6 hr8 h => ?_
  replace h := h hx5 hok6 hr8
  replace hO1 := hO1.up hx5
  refine r_if_eq x_207_8 (t := 25) (by decide +kernel) hr8 (fun hc => ?_) (fun hc => ?_)
  · replace h := h.1 hc
    refine r_iconst x_207_25 ?_
    exact r_retZ x_207_26 rfl (Or.inl rfl) h
  · replace h := h.2 hc
    refine r_aload_n x_207_11 rfl ?_
    obtain ⟨b9, hb10, h⟩ := h
    refine r_getR x_207_12 rfl (ci := 11) (k := 0) (ns := 0) (by decide +kernel) (by decide) rfl (kz := 0) rfl hO1 hb10 ?_
    refine r_iload_n x_207_15 rfl ?_
    refine r_ldcw x_207_16 (v := .ref (4 * 10 + 1)) rfl ?_
    refine r_invS x_207_19 (z := 115) (ns := 1) (by decide +kernel) (as := [.ref b9, g_n v1, .ref (4 * 10 + 1)]) (r := []) rfl rfl rfl ?_
    refine r_callI h fun r14 M11 hx12 hok13 hr15 h => ?_
    replace h := h hx12 hok13 hr15
    replace hO1 := hO1.up hx12
    refine r_if_ne x_207_22 (t := 27) (by decide +kernel) hr15 (fun hc => ?_) (fun hc => ?_)
    · replace h := h.2 hc
      refine r_aload_n x_207_27 rfl ?_
      obtain ⟨b16, hb17, h⟩ := h
      refine r_getR x_207_28 rfl (ci := 11) (k := 0) (ns := 0) (by decide +kernel) (by decide) rfl (kz := 0) rfl hO1 hb17 ?_
      refine r_iload_n x_207_31 rfl ?_
      refine r_invS x_207_32 (z := 118) (ns := 1) (by decide +kernel) (as := [.ref b16, g_n v1]) (r := []) rfl rfl rfl ?_
      refine r_callL h fun R21 M18 hx19 hok20 h => ?_
      replace h := h hx19 hok20
      replace hO1 := hO1.up hx19
      refine r_lstore_n x_207_35 (by decide +kernel) rfl (lv1 := [(0, .ref a0), (1, g_n v1), (2, .long R21)]) rfl ?_
      refine r_lload_n x_207_36 rfl ?_
      refine r_lconst x_207_37 ?_
      show g_Run d 207 38 [(0, .ref a0), (1, g_n v1), (2, .long R21)] [.long 0, .long R21] M18 _
      refine r_lcmp x_207_38 ?_
      refine r_if_eq x_207_39 (t := 48) (by decide +kernel) (g_InR_toInt _) (fun hc => ?_) (fun hc => ?_)
      · replace h := h.1 hc
        refine r_iconst x_207_48 ?_
        refine r_goto x_207_49 (t := 53) (by decide +kernel) ?_
        exact r_retZ x_207_53 rfl (Or.inr rfl) h
      · replace h := h.2 hc
        refine r_lload_n x_207_42 rfl ?_
        refine r_lconst x_207_43 ?_
        show g_Run d 207 44 [(0, .ref a0), (1, g_n v1), (2, .long R21)] [.long 1, .long R21] M18 _
        refine r_lcmp x_207_44 ?_
        refine r_if_ne x_207_45 (t := 52) (by decide +kernel) (g_InR_toInt _) (fun hc => ?_) (fun hc => ?_)
        · replace h := h.2 hc
          refine r_iconst x_207_52 ?_
          exact r_retZ x_207_53 rfl (Or.inl rfl) h
        · replace h := h.1 hc
          refine r_iconst x_207_48 ?_
          refine r_goto x_207_49 (t := 53) (by decide +kernel) ?_
          exact r_retZ x_207_53 rfl (Or.inr rfl) h
    · replace h := h.1 hc
      refine r_iconst x_207_25 ?_
      exact r_retZ x_207_26 rfl (Or.inl rfl) h
theorem m_X11_wrongInHead {d : Nat} {M : g_M} {Q : Int → g_M → Prop} {a0 : Nat} (h : g_ok M → g_O M a0 11 ∧ ∃ b2, g_r M a0 0 = some b2 ∧ g_Call d 108 [.ref b2, g_n (g_i M a0 14)] M (g_qI fun r7 M4 => g_ext M M4 → g_ok M4 → g_InR r7 → ((g_i M4 a0 13 = 6 → g_Call d 210 [.ref a0] M4 (g_qI fun r12 M9 => g_ext M4 M9 → g_ok M9 → g_InR r12 → Q r12 M9)) ∧ (¬ g_i M4 a0 13 = 6 → ((g_i M4 a0 13 = 7 → ∃ b15, g_r M4 a0 0 = some b15 ∧ g_Call d 117 [.ref b15, g_n (g_i M4 a0 14)] M4 (g_qI fun r20 M17 => g_ext M4 M17 → g_ok M17 → g_InR r20 → ((r20 = 0 → Q (g_i M17 a0 14) M17) ∧ (¬ r20 = 0 → Q ((-1)) M17)))) ∧ (¬ g_i M4 a0 13 = 7 → ((g_i M4 a0 13 = 8 → g_Call d 209 [.ref a0] M4 (g_qI fun r26 M23 => g_ext M4 M23 → g_ok M23 → g_InR r26 → Q r26 M23)) ∧ (¬ g_i M4 a0 13 = 8 → ((g_i M4 a0 13 = 9 → ((r7 = 3 → Q ((-1)) M4) ∧ (¬ r7 = 3 → Q (g_i M4 a0 14) M4))) ∧ (¬ g_i M4 a0 13 = 9 → ((g_i M4 a0 13 = 10 → ∃ b30, g_r M4 a0 0 = some b30 ∧ g_Call d 117 [.ref b30, g_n (g_i M4 a0 14)] M4 (g_qI fun r35 M32 => g_ext M4 M32 → g_ok M32 → g_InR r35 → ((r35 = 0 → Q (g_i M32 a0 14) M32) ∧ (¬ r35 = 0 → Q ((-1)) M32)))) ∧ (¬ g_i M4 a0 13 = 10 → ((r7 = 3 → Q ((-1)) M4) ∧ (¬ r7 = 3 → Q (g_i M4 a0 14) M4)))))))))))))) : g_Call (d + 1) 208 [.ref a0] M (g_qI Q) := by
  refine g_Call.ok fun hok0 => ?_
  replace h := h hok0
  refine r_body rfl (lv := [(0, .ref a0)]) rfl ?_
  refine g_Run.ok fun hok => ?_
  refine r_aload_n x_208_0 rfl ?_
  obtain ⟨hO1, h⟩ := h
  obtain ⟨b2, hb3, h⟩ := h
  refine r_getR x_208_1 rfl (ci := 11) (k := 0) (ns := 0) (by decide +kernel) (by decide) rfl (kz := 0) rfl hO1 hb3 ?_
  refine r_aload_n x_208_4 rfl ?_
  refine r_getI x_208_5 rfl (ci := 11) (k := 14) (ns := 0) (by decide +kernel) (by decide) rfl (kz := 14) rfl hO1 ?_
  refine r_invS x_208_8 (z := 108) (ns := 1) (by decide +kernel) (as := [.ref b2, g_n (g_i M a0 14)]) (r := []) rfl rfl rfl ?_
  refine r_callI h fun r7 M4 hx5 hok6 hr8 h => ?_
  replace h := h hx5 hok6 hr8
  replace hO1 := hO1.up hx5
  refine r_istore_n x_208_11 (by decide +kernel) rfl (lv1 := [(0, .ref a0), (1, g_n r7)]) rfl ?_
  refine r_aload_n x_208_12 rfl ?_
  refine r_getI x_208_13 rfl (ci := 11) (k := 13) (ns := 0) (by decide +kernel) (by decide) rfl (kz := 13) rfl hO1 ?_
  by_cases hk14 : g_i M4 a0 13 = 6
  · refine r_tableAt x_208_16 hk14 (t := 80) (g_Rk rfl) (by decide +kernel) ?_
    replace h := h.1 hk14
    refine r_aload_n x_208_80 rfl ?_
    refine r_invV x_208_81 (z := 210) (ns := 0) (by decide +kernel) (as := []) (r := []) rfl rfl rfl hO1 rfl rfl ?_
    refine r_callI h fun r12 M9 hx10 hok11 hr13 h => ?_
    replace h := h hx10 hok11 hr13
    replace hO1 := hO1.up hx10
    exact r_retI x_208_84 rfl hr13 h
  replace h := h.2 hk14
  by_cases hk22 : g_i M4 a0 13 = 7
  · refine r_tableAt x_208_16 hk22 (t := 52) (g_Rk rfl) (by decide +kernel) ?_
    replace h := h.1 hk22
    refine r_aload_n x_208_52 rfl ?_
    obtain ⟨b15, hb16, h⟩ := h
    refine r_getR x_208_53 rfl (ci := 11) (k := 0) (ns := 0) (by decide +kernel) (by decide) rfl (kz := 0) rfl hO1 hb16 ?_
    refine r_aload_n x_208_56 rfl ?_
    refine r_getI x_208_57 rfl (ci := 11) (k := 14) (ns := 0) (by decide +kernel) (by decide) rfl (kz := 14) rfl hO1 ?_
    refine r_invS x_208_60 (z := 117) (ns := 1) (by decide +kernel) (as := [.ref b15, g_n (g_i M4 a0 14)]) (r := []) rfl rfl rfl ?_
    refine r_callI h fun r20 M17 hx18 hok19 hr21 h => ?_
    replace h := h hx18 hok19 hr21
    replace hO1 := hO1.up hx18
    refine r_if_eq x_208_63 (t := 70) (by decide +kernel) hr21 (fun hc => ?_) (fun hc => ?_)
    · replace h := h.1 hc
      refine r_aload_n x_208_70 rfl ?_
      refine r_getI x_208_71 rfl (ci := 11) (k := 14) (ns := 0) (by decide +kernel) (by decide) rfl (kz := 14) rfl hO1 ?_
      exact r_retI x_208_74 rfl (hok19.1 _ _) h
    · replace h := h.2 hc
      refine r_iconst x_208_66 ?_
      refine r_goto x_208_67 (t := 74) (by decide +kernel) ?_
      exact r_retI x_208_74 rfl (g_Rk rfl) h
  replace h := h.2 hk22
  by_cases hk28 : g_i M4 a0 13 = 8
  · refine r_tableAt x_208_16 hk28 (t := 75) (g_Rk rfl) (by decide +kernel) ?_
    replace h := h.1 hk28
    refine r_aload_n x_208_75 rfl ?_
    refine r_invV x_208_76 (z := 209) (ns := 0) (by decide +kernel) (as := []) (r := []) rfl rfl rfl hO1 rfl rfl ?_
    refine r_callI h fun r26 M23 hx24 hok25 hr27 h => ?_
    replace h := h hx24 hok25 hr27
    replace hO1 := hO1.up hx24
    exact r_retI x_208_79 rfl hr27 h
  replace h := h.2 hk28
  by_cases hk29 : g_i M4 a0 13 = 9
  · refine r_tableAt x_208_16 hk29 (t := 85) (g_Rk rfl) (by decide +kernel) ?_
    replace h := h.1 hk29
    refine r_iload_n x_208_85 rfl ?_
    refine r_iconst x_208_86 ?_
    refine r_ic_ne x_208_87 (t := 94) (by decide +kernel) hr8 (g_Rk rfl) (fun hc => ?_) (fun hc => ?_)
    · replace h := h.2 hc
      refine r_aload_n x_208_94 rfl ?_
      refine r_getI x_208_95 rfl (ci := 11) (k := 14) (ns := 0) (by decide +kernel) (by decide) rfl (kz := 14) rfl hO1 ?_
      exact r_retI x_208_98 rfl (hok6.1 _ _) h
    · replace h := h.1 hc
      refine r_iconst x_208_90 ?_
      refine r_goto x_208_91 (t := 98) (by decide +kernel) ?_
      exact r_retI x_208_98 rfl (g_Rk rfl) h
  replace h := h.2 hk29
  by_cases hk37 : g_i M4 a0 13 = 10
  · refine r_tableAt x_208_16 hk37 (t := 52) (g_Rk rfl) (by decide +kernel) ?_
    replace h := h.1 hk37
    refine r_aload_n x_208_52 rfl ?_
    obtain ⟨b30, hb31, h⟩ := h
    refine r_getR x_208_53 rfl (ci := 11) (k := 0) (ns := 0) (by decide +kernel) (by decide) rfl (kz := 0) rfl hO1 hb31 ?_
    refine r_aload_n x_208_56 rfl ?_
    refine r_getI x_208_57 rfl (ci := 11) (k := 14) (ns := 0) (by decide +kernel) (by decide) rfl (kz := 14) rfl hO1 ?_
    refine r_invS x_208_60 (z := 117) (ns := 1) (by decide +kernel) (as := [.ref b30, g_n (g_i M4 a0 14)]) (r := []) rfl rfl rfl ?_
    refine r_callI h fun r35 M32 hx33 hok34 hr36 h => ?_
    replace h := h hx33 hok34 hr36
    replace hO1 := hO1.up hx33
    refine r_if_eq x_208_63 (t := 70) (by decide +kernel) hr36 (fun hc => ?_) (fun hc => ?_)
    · replace h := h.1 hc
      refine r_aload_n x_208_70 rfl ?_
      refine r_getI x_208_71 rfl (ci := 11) (k := 14) (ns := 0) (by decide +kernel) (by decide) rfl (kz := 14) rfl hO1 ?_
      exact r_retI x_208_74 rfl (hok34.1 _ _) h
    · replace h := h.2 hc
      refine r_iconst x_208_66 ?_
      refine r_goto x_208_67 (t := 74) (by decide +kernel) ?_
      exact r_retI x_208_74 rfl (g_Rk rfl) h
  replace h := h.2 hk37
  refine r_tableD x_208_16 (hok6.1 _ _) (t := 85) (lo := 6) (hi := 10) (by omega) (by decide +kernel) ?_
  refine r_iload_n x_208_85 rfl ?_
  refine r_iconst x_208_86 ?_
  refine r_ic_ne x_208_87 (t := 94) (by decide +kernel) hr8 (g_Rk rfl) (fun hc => ?_) (fun hc => ?_)
  · replace h := h.2 hc
    refine r_aload_n x_208_94 rfl ?_
    refine r_getI x_208_95 rfl (ci := 11) (k := 14) (ns := 0) (by decide +kernel) (by decide) rfl (kz := 14) rfl hO1 ?_
    exact r_retI x_208_98 rfl (hok6.1 _ _) h
  · replace h := h.1 hc
    refine r_iconst x_208_90 ?_
    refine r_goto x_208_91 (t := 98) (by decide +kernel) ?_
    exact r_retI x_208_98 rfl (g_Rk rfl) h
theorem m_X11_wrongPipeline {d : Nat} {M : g_M} {Q : Int → g_M → Prop} {a0 : Nat} (h : g_ok M → g_O M a0 11 ∧ ∃ b2, g_r M a0 0 = some b2 ∧ g_Call d 108 [.ref b2, g_n (g_i M a0 14)] M (g_qI fun r7 M4 => g_ext M M4 → g_ok M4 → g_InR r7 → ((r7 = 4 → ∃ b9, g_r M4 a0 0 = some b9 ∧ g_Call d 112 [.ref b9, g_n (g_i M4 a0 14)] M4 (g_qI fun r14 M11 => g_ext M4 M11 → g_ok M11 → g_InR r14 → g_Run d 209 34 [(0, .ref a0), (1, g_n r14), (2, g_n 0)] [] M11 (g_qI Q))) ∧ (¬ r7 = 4 → Q (g_i M4 a0 14) M4)))) : g_Call (d + 1) 209 [.ref a0] M (g_qI Q) := by
  refine g_Call.ok fun hok0 => ?_
  replace h := h hok0
  refine r_body rfl (lv := [(0, .ref a0)]) rfl ?_
  refine g_Run.ok fun hok => ?_
  refine r_aload_n x_209_0 rfl ?_
  obtain ⟨hO1, h⟩ := h
  obtain ⟨b2, hb3, h⟩ := h
  refine r_getR x_209_1 rfl (ci := 11) (k := 0) (ns := 0) (by decide +kernel) (by decide) rfl (kz := 0) rfl hO1 hb3 ?_
  refine r_aload_n x_209_4 rfl ?_
  refine r_getI x_209_5 rfl (ci := 11) (k := 14) (ns := 0) (by decide +kernel) (by decide) rfl (kz := 14) rfl hO1 ?_
  refine r_invS x_209_8 (z := 108) (ns := 1) (by decide +kernel) (as := [.ref b2, g_n (g_i M a0 14)]) (r := []) rfl rfl rfl ?_
  refine r_callI h fun r7 M4 hx5 hok6 hr8 h => ?_
  replace h := h hx5 hok6 hr8
  replace hO1 := hO1.up hx5
  refine r_iconst x_209_11 ?_
  refine r_ic_eq x_209_12 (t := 20) (by decide +kernel) hr8 (g_Rk rfl) (fun hc => ?_) (fun hc => ?_)
  · replace h := h.1 hc
    refine r_aload_n x_209_20 rfl ?_
    obtain ⟨b9, hb10, h⟩ := h
    refine r_getR x_209_21 rfl (ci := 11) (k := 0) (ns := 0) (by decide +kernel) (by decide) rfl (kz := 0) rfl hO1 hb10 ?_
    refine r_aload_n x_209_24 rfl ?_
    refine r_getI x_209_25 rfl (ci := 11) (k := 14) (ns := 0) (by decide +kernel) (by decide) rfl (kz := 14) rfl hO1 ?_
    refine r_invS x_209_28 (z := 112) (ns := 1) (by decide +kernel) (as := [.ref b9, g_n (g_i M4 a0 14)]) (r := []) rfl rfl rfl ?_
    refine r_callI h fun r14 M11 hx12 hok13 hr15 h => ?_
    replace h := h hx12 hok13 hr15
    replace hO1 := hO1.up hx12
    refine r_istore_n x_209_31 (by decide +kernel) rfl (lv1 := [(0, .ref a0), (1, g_n r14)]) rfl ?_
    refine r_iconst x_209_32 ?_
    refine r_istore_n x_209_33 (by decide +kernel) rfl (lv1 := [(0, .ref a0), (1, g_n r14), (2, g_n 0)]) rfl ?_
    exact h
  · replace h := h.2 hc
    refine r_aload_n x_209_15 rfl ?_
    refine r_getI x_209_16 rfl (ci := 11) (k := 14) (ns := 0) (by decide +kernel) (by decide) rfl (kz := 14) rfl hO1 ?_
    exact r_retI x_209_19 rfl (hok6.1 _ _) h
theorem s_X11_wrongPipeline_34 {d : Nat} {M : g_M} {Q : Int → g_M → Prop} {a0 : Nat} {v1 : Int} (hv1 : g_InR v1) {v2 : Int} (hv2 : g_InR v2) (h : g_ok M → ((v2 < 100000 → g_O M a0 11 ∧ ∃ b2, g_r M a0 0 = some b2 ∧ g_Call d 108 [.ref b2, g_n v1] M (g_qI fun r7 M4 => g_ext M M4 → g_ok M4 → g_InR r7 → ((r7 = 0 → Q ((-1)) M4) ∧ (¬ r7 = 0 → ∃ b9, g_r M4 a0 0 = some b9 ∧ g_Call d 108 [.ref b9, g_n v1] M4 (g_qI fun r14 M11 => g_ext M4 M11 → g_ok M11 → g_InR r14 → ((r14 = 3 → ∃ b16, g_r M11 a0 0 = some b16 ∧ g_Call d 111 [.ref b16, g_n v1] M11 (g_qI fun r21 M18 => g_ext M11 M18 → g_ok M18 → g_InR r21 → g_InR (v2 + 1) ∧ g_Run d 209 34 [(0, .ref a0), (1, g_n r21), (2, g_n (v2 + 1))] [] M18 (g_qI Q))) ∧ (¬ r14 = 3 → Q v1 M11))))))) ∧ (¬ v2 < 100000 → Q ((-1)) M))) : g_Run d 209 34 [(0, .ref a0), (1, g_n v1), (2, g_n v2)] [] M (g_qI Q) := by
  refine g_Run.ok fun hok => ?_
  replace h := h hok
  refine r_iload_n x_209_34 rfl ?_
  refine r_ldcw x_209_35 (v := g_n 100000) rfl ?_
  refine r_ic_ge x_209_38 (t := 81) (by decide +kernel) hv2 (g_Rk rfl) (fun hc => ?_) (fun hc => ?_)
  · replace h := h.2 hc
    refine r_iconst x_209_81 ?_
    exact r_retI x_209_82 rfl (g_Rk rfl) h
  · replace h := h.1 hc
    refine r_aload_n x_209_41 rfl ?_
    obtain ⟨hO1, h⟩ := h
    obtain ⟨b2, hb3, h⟩ := h
    refine r_getR x_209_42 rfl (ci := 11) (k := 0) (ns := 0) (by decide +kernel) (by decide) rfl (kz := 0) rfl hO1 hb3 ?_
    refine r_iload_n x_209_45 rfl ?_
    refine r_invS x_209_46 (z := 108) (ns := 1) (by decide +kernel) (as := [.ref b2, g_n v1]) (r := []) rfl rfl rfl ?_
    refine r_callI h fun r7 M4 hx5 hok6 hr8 h => ?_
    replace h := h hx5 hok6 hr8
    replace hO1 := hO1.up hx5
    refine r_if_eq x_209_49 (t := 81) (by decide +kernel) hr8 (fun hc => ?_) (fun hc => ?_)
    · replace h := h.1 hc
      refine r_iconst x_209_81 ?_
      exact r_retI x_209_82 rfl (g_Rk rfl) h
    · replace h := h.2 hc
      refine r_aload_n x_209_52 rfl ?_
      obtain ⟨b9, hb10, h⟩ := h
      refine r_getR x_209_53 rfl (ci := 11) (k := 0) (ns := 0) (by decide +kernel) (by decide) rfl (kz := 0) rfl hO1 hb10 ?_
      refine r_iload_n x_209_56 rfl ?_
      refine r_invS x_209_57 (z := 108) (ns := 1) (by decide +kernel) (as := [.ref b9, g_n v1]) (r := []) rfl rfl rfl ?_
      refine r_callI h fun r14 M11 hx12 hok13 hr15 h => ?_
      replace h := h hx12 hok13 hr15
      replace hO1 := hO1.up hx12
      refine r_iconst x_209_60 ?_
      refine r_ic_eq x_209_61 (t := 66) (by decide +kernel) hr15 (g_Rk rfl) (fun hc => ?_) (fun hc => ?_)
      · replace h := h.1 hc
        refine r_aload_n x_209_66 rfl ?_
        obtain ⟨b16, hb17, h⟩ := h
        refine r_getR x_209_67 rfl (ci := 11) (k := 0) (ns := 0) (by decide +kernel) (by decide) rfl (kz := 0) rfl hO1 hb17 ?_
        refine r_iload_n x_209_70 rfl ?_
        refine r_invS x_209_71 (z := 111) (ns := 1) (by decide +kernel) (as := [.ref b16, g_n v1]) (r := []) rfl rfl rfl ?_
        refine r_callI h fun r21 M18 hx19 hok20 hr22 h => ?_
        replace h := h hx19 hok20 hr22
        replace hO1 := hO1.up hx19
        refine r_istore_n x_209_74 (by decide +kernel) rfl (lv1 := [(0, .ref a0), (1, g_n r21), (2, g_n v2)]) rfl ?_
        obtain ⟨h23, h⟩ := h
        refine r_iinc x_209_75 (by decide +kernel) rfl rfl (lv1 := [(0, .ref a0), (1, g_n r21), (2, g_n (v2 + 1))]) rfl ?_
        refine r_goto x_209_78 (t := 34) (by decide +kernel) ?_
        exact h
      · replace h := h.2 hc
        refine r_iload_n x_209_64 rfl ?_
        exact r_retI x_209_65 rfl hv1 h
theorem m_X11_wrongPaths {d : Nat} {M : g_M} {Q : Int → g_M → Prop} {a0 : Nat} (h : g_ok M → g_O M a0 11 ∧ ∃ b2, g_r M a0 0 = some b2 ∧ g_Call d 112 [.ref b2, g_n (g_i M a0 14)] M (g_qI fun r7 M4 => g_ext M M4 → g_ok M4 → g_InR r7 → ∃ b9, g_r M4 a0 0 = some b9 ∧ g_Call d 108 [.ref b9, g_n (g_i M4 a0 14)] M4 (g_qI fun r14 M11 => g_ext M4 M11 → g_ok M11 → g_InR r14 → ((r14 = 4 → ∃ b16, g_r M11 a0 0 = some b16 ∧ g_Call d 108 [.ref b16, g_n r7] M11 (g_qI fun r21 M18 => g_ext M11 M18 → g_ok M18 → g_InR r21 → ((r21 = 0 → Q (g_i M18 a0 14) M18) ∧ (¬ r21 = 0 → ∃ b23, g_r M18 a0 0 = some b23 ∧ g_Call d 108 [.ref b23, g_n r7] M18 (g_qI fun r28 M25 => g_ext M18 M25 → g_ok M25 → g_InR r28 → ((r28 = 2 → ∃ b30, g_r M25 a0 7 = some b30 ∧ ∃ b32, g_r M25 a0 0 = some b32 ∧ g_O M25 b30 5 ∧ g_Call d 92 [.ref b30, .ref b32, g_n r7, g_n 0] M25 (g_qI fun r38 M35 => g_ext M25 M35 → g_ok M35 → g_InR r38 → ((r38 = 0 → Q r7 M35) ∧ (¬ r38 = 0 → ∃ b40, g_r M35 a0 0 = some b40 ∧ g_Call d 111 [.ref b40, g_n r7] M35 (g_qI fun r45 M42 => g_ext M35 M42 → g_ok M42 → g_InR r45 → ∃ b47, g_r M42 a0 0 = some b47 ∧ g_Call d 108 [.ref b47, g_n r45] M42 (g_qI fun r52 M49 => g_ext M42 M49 → g_ok M49 → g_InR r52 → ((r52 = 0 → Q ((-1)) M49) ∧ (¬ r52 = 0 → ∃ b54, g_r M49 a0 0 = some b54 ∧ g_Call d 108 [.ref b54, g_n r45] M49 (g_qI fun r59 M56 => g_ext M49 M56 → g_ok M56 → g_InR r59 → ((r59 = 2 → ∃ b61, g_r M56 a0 8 = some b61 ∧ ∃ b63, g_r M56 a0 0 = some b63 ∧ g_O M56 b61 5 ∧ g_Call d 92 [.ref b61, .ref b63, g_n r45, g_n 0] M56 (g_qI fun r69 M66 => g_ext M56 M66 → g_ok M66 → g_InR r69 → ((r69 = 0 → Q r45 M66) ∧ (¬ r69 = 0 → ∃ b71, g_r M66 a0 0 = some b71 ∧ ∃ b73, g_r M66 a0 0 = some b73 ∧ g_Call d 121 [.ref b71, g_n r7, .ref b73, g_n r45, g_n 0] M66 (g_qI fun r78 M75 => g_ext M66 M75 → g_ok M75 → g_InR r78 → ((r78 = 0 → Q r45 M75) ∧ (¬ r78 = 0 → ∃ b80, g_r M75 a0 0 = some b80 ∧ g_Call d 111 [.ref b80, g_n r45] M75 (g_qI fun r85 M82 => g_ext M75 M82 → g_ok M82 → g_InR r85 → ∃ b87, g_r M82 a0 0 = some b87 ∧ g_Call d 108 [.ref b87, g_n r85] M82 (g_qI fun r92 M89 => g_ext M82 M89 → g_ok M89 → g_InR r92 → ((r92 = 0 → Q ((-1)) M89) ∧ (¬ r92 = 0 → Q r85 M89))))))))))) ∧ (¬ r59 = 2 → Q r45 M56))))))))))) ∧ (¬ r28 = 2 → Q r7 M25))))))) ∧ (¬ r14 = 4 → Q (g_i M11 a0 14) M11))))) : g_Call (d + 1) 210 [.ref a0] M (g_qI Q) := by
  refine g_Call.ok fun hok0 => ?_
  replace h := h hok0
  refine r_body rfl (lv := [(0, .ref a0)]) rfl ?_
  refine g_Run.ok fun hok => ?_
  refine r_aload_n x_210_0 rfl ?_
  obtain ⟨hO1, h⟩ := h
  obtain ⟨b2, hb3, h⟩ := h
  refine r_getR x_210_1 rfl (ci := 11) (k := 0) (ns := 0) (by decide +kernel) (by decide) rfl (kz := 0) rfl hO1 hb3 ?_
  refine r_aload_n x_210_4 rfl ?_
  refine r_getI x_210_5 rfl (ci := 11) (k := 14) (ns := 0) (by decide +kernel) (by decide) rfl (kz := 14) rfl hO1 ?_
  refine r_invS x_210_8 (z := 112) (ns := 1) (by decide +kernel) (as := [.ref b2, g_n (g_i M a0 14)]) (r := []) rfl rfl rfl ?_
  refine r_callI h fun r7 M4 hx5 hok6 hr8 h => ?_
  replace h := h hx5 hok6 hr8
  replace hO1 := hO1.up hx5
  refine r_istore_n x_210_11 (by decide +kernel) rfl (lv1 := [(0, .ref a0), (1, g_n r7)]) rfl ?_
  refine r_aload_n x_210_12 rfl ?_
  obtain ⟨b9, hb10, h⟩ := h
  refine r_getR x_210_13 rfl (ci := 11) (k := 0) (ns := 0) (by decide +kernel) (by decide) rfl (kz := 0) rfl hO1 hb10 ?_
  refine r_aload_n x_210_16 rfl ?_
  refine r_getI x_210_17 rfl (ci := 11) (k := 14) (ns := 0) (by decide +kernel) (by decide) rfl (kz := 14) rfl hO1 ?_
  refine r_invS x_210_20 (z := 108) (ns := 1) (by decide +kernel) (as := [.ref b9, g_n (g_i M4 a0 14)]) (r := []) rfl rfl rfl ?_
  refine r_callI h fun r14 M11 hx12 hok13 hr15 h => ?_
  replace h := h hx12 hok13 hr15
  replace hO1 := hO1.up hx12
  refine r_iconst x_210_23 ?_
  refine r_ic_ne x_210_24 (t := 38) (by decide +kernel) hr15 (g_Rk rfl) (fun hc => ?_) (fun hc => ?_)
  · replace h := h.2 hc
    refine r_aload_n x_210_38 rfl ?_
    refine r_getI x_210_39 rfl (ci := 11) (k := 14) (ns := 0) (by decide +kernel) (by decide) rfl (kz := 14) rfl hO1 ?_
    exact r_retI x_210_42 rfl (hok13.1 _ _) h
  · replace h := h.1 hc
    refine r_aload_n x_210_27 rfl ?_
    obtain ⟨b16, hb17, h⟩ := h
    refine r_getR x_210_28 rfl (ci := 11) (k := 0) (ns := 0) (by decide +kernel) (by decide) rfl (kz := 0) rfl hO1 hb17 ?_
    refine r_iload_n x_210_31 rfl ?_
    refine r_invS x_210_32 (z := 108) (ns := 1) (by decide +kernel) (as := [.ref b16, g_n r7]) (r := []) rfl rfl rfl ?_
    refine r_callI h fun r21 M18 hx19 hok20 hr22 h => ?_
    replace h := h hx19 hok20 hr22
    replace hO1 := hO1.up hx19
    refine r_if_ne x_210_35 (t := 43) (by decide +kernel) hr22 (fun hc => ?_) (fun hc => ?_)
    · replace h := h.2 hc
      refine r_aload_n x_210_43 rfl ?_
      obtain ⟨b23, hb24, h⟩ := h
      refine r_getR x_210_44 rfl (ci := 11) (k := 0) (ns := 0) (by decide +kernel) (by decide) rfl (kz := 0) rfl hO1 hb24 ?_
      refine r_iload_n x_210_47 rfl ?_
      refine r_invS x_210_48 (z := 108) (ns := 1) (by decide +kernel) (as := [.ref b23, g_n r7]) (r := []) rfl rfl rfl ?_
      refine r_callI h fun r28 M25 hx26 hok27 hr29 h => ?_
      replace h := h hx26 hok27 hr29
      replace hO1 := hO1.up hx26
      refine r_iconst x_210_51 ?_
      refine r_ic_ne x_210_52 (t := 71) (by decide +kernel) hr29 (g_Rk rfl) (fun hc => ?_) (fun hc => ?_)
      · replace h := h.2 hc
        refine r_iload_n x_210_71 rfl ?_
        exact r_retI x_210_72 rfl hr8 h
      · replace h := h.1 hc
        refine r_aload_n x_210_55 rfl ?_
        obtain ⟨b30, hb31, h⟩ := h
        refine r_getR x_210_56 rfl (ci := 11) (k := 7) (ns := 0) (by decide +kernel) (by decide) rfl (kz := 7) rfl hO1 hb31 ?_
        refine r_aload_n x_210_59 rfl ?_
        obtain ⟨b32, hb33, h⟩ := h
        refine r_getR x_210_60 rfl (ci := 11) (k := 0) (ns := 0) (by decide +kernel) (by decide) rfl (kz := 0) rfl hO1 hb33 ?_
        refine r_iload_n x_210_63 rfl ?_
        refine r_iconst x_210_64 ?_
        obtain ⟨hO34, h⟩ := h
        refine r_invV x_210_65 (z := 92) (ns := 1) (by decide +kernel) (as := [.ref b32, g_n r7, g_n 0]) (r := []) rfl rfl rfl hO34 rfl rfl ?_
        refine r_callI h fun r38 M35 hx36 hok37 hr39 h => ?_
        replace h := h hx36 hok37 hr39
        replace hO1 := hO1.up hx36
        replace hO34 := hO34.up hx36
        refine r_if_ne x_210_68 (t := 73) (by decide +kernel) hr39 (fun hc => ?_) (fun hc => ?_)
        · replace h := h.2 hc
          refine r_aload_n x_210_73 rfl ?_
          obtain ⟨b40, hb41, h⟩ := h
          refine r_getR x_210_74 rfl (ci := 11) (k := 0) (ns := 0) (by decide +kernel) (by decide) rfl (kz := 0) rfl hO1 hb41 ?_
          refine r_iload_n x_210_77 rfl ?_
          refine r_invS x_210_78 (z := 111) (ns := 1) (by decide +kernel) (as := [.ref b40, g_n r7]) (r := []) rfl rfl rfl ?_
          refine r_callI h fun r45 M42 hx43 hok44 hr46 h => ?_
          replace h := h hx43 hok44 hr46
          replace hO1 := hO1.up hx43
          replace hO34 := hO34.up hx43
          refine r_istore_n x_210_81 (by decide +kernel) rfl (lv1 := [(0, .ref a0), (1, g_n r7), (2, g_n r45)]) rfl ?_
          refine r_aload_n x_210_82 rfl ?_
          obtain ⟨b47, hb48, h⟩ := h
          refine r_getR x_210_83 rfl (ci := 11) (k := 0) (ns := 0) (by decide +kernel) (by decide) rfl (kz := 0) rfl hO1 hb48 ?_
          refine r_iload_n x_210_86 rfl ?_
          refine r_invS x_210_87 (z := 108) (ns := 1) (by decide +kernel) (as := [.ref b47, g_n r45]) (r := []) rfl rfl rfl ?_
          refine r_callI h fun r52 M49 hx50 hok51 hr53 h => ?_
          replace h := h hx50 hok51 hr53
          replace hO1 := hO1.up hx50
          replace hO34 := hO34.up hx50
          refine r_if_ne x_210_90 (t := 95) (by decide +kernel) hr53 (fun hc => ?_) (fun hc => ?_)
          · replace h := h.2 hc
            refine r_aload_n x_210_95 rfl ?_
            obtain ⟨b54, hb55, h⟩ := h
            refine r_getR x_210_96 rfl (ci := 11) (k := 0) (ns := 0) (by decide +kernel) (by decide) rfl (kz := 0) rfl hO1 hb55 ?_
            refine r_iload_n x_210_99 rfl ?_
            refine r_invS x_210_100 (z := 108) (ns := 1) (by decide +kernel) (as := [.ref b54, g_n r45]) (r := []) rfl rfl rfl ?_
            refine r_callI h fun r59 M56 hx57 hok58 hr60 h => ?_
            replace h := h hx57 hok58 hr60
            replace hO1 := hO1.up hx57
            replace hO34 := hO34.up hx57
            refine r_iconst x_210_103 ?_
            refine r_ic_ne x_210_104 (t := 140) (by decide +kernel) hr60 (g_Rk rfl) (fun hc => ?_) (fun hc => ?_)
            · replace h := h.2 hc
              refine r_iload_n x_210_140 rfl ?_
              exact r_retI x_210_141 rfl hr46 h
            · replace h := h.1 hc
              refine r_aload_n x_210_107 rfl ?_
              obtain ⟨b61, hb62, h⟩ := h
              refine r_getR x_210_108 rfl (ci := 11) (k := 8) (ns := 0) (by decide +kernel) (by decide) rfl (kz := 8) rfl hO1 hb62 ?_
              refine r_aload_n x_210_111 rfl ?_
              obtain ⟨b63, hb64, h⟩ := h
              refine r_getR x_210_112 rfl (ci := 11) (k := 0) (ns := 0) (by decide +kernel) (by decide) rfl (kz := 0) rfl hO1 hb64 ?_
              refine r_iload_n x_210_115 rfl ?_
              refine r_iconst x_210_116 ?_
              obtain ⟨hO65, h⟩ := h
              refine r_invV x_210_117 (z := 92) (ns := 1) (by decide +kernel) (as := [.ref b63, g_n r45, g_n 0]) (r := []) rfl rfl rfl hO65 rfl rfl ?_
              refine r_callI h fun r69 M66 hx67 hok68 hr70 h => ?_
              replace h := h hx67 hok68 hr70
              replace hO1 := hO1.up hx67
              replace hO34 := hO34.up hx67
              replace hO65 := hO65.up hx67
              refine r_if_eq x_210_120 (t := 140) (by decide +kernel) hr70 (fun hc => ?_) (fun hc => ?_)
              · replace h := h.1 hc
                refine r_iload_n x_210_140 rfl ?_
                exact r_retI x_210_141 rfl hr46 h
              · replace h := h.2 hc
                refine r_aload_n x_210_123 rfl ?_
                obtain ⟨b71, hb72, h⟩ := h
                refine r_getR x_210_124 rfl (ci := 11) (k := 0) (ns := 0) (by decide +kernel) (by decide) rfl (kz := 0) rfl hO1 hb72 ?_
                refine r_iload_n x_210_127 rfl ?_
                refine r_aload_n x_210_128 rfl ?_
                obtain ⟨b73, hb74, h⟩ := h
                refine r_getR x_210_129 rfl (ci := 11) (k := 0) (ns := 0) (by decide +kernel) (by decide) rfl (kz := 0) rfl hO1 hb74 ?_
                refine r_iload_n x_210_132 rfl ?_
                refine r_iconst x_210_133 ?_
                refine r_invS x_210_134 (z := 121) (ns := 1) (by decide +kernel) (as := [.ref b71, g_n r7, .ref b73, g_n r45, g_n 0]) (r := []) rfl rfl rfl ?_
                refine r_callI h fun r78 M75 hx76 hok77 hr79 h => ?_
                replace h := h hx76 hok77 hr79
                replace hO1 := hO1.up hx76
                replace hO34 := hO34.up hx76
                replace hO65 := hO65.up hx76
                refine r_if_ne x_210_137 (t := 142) (by decide +kernel) hr79 (fun hc => ?_) (fun hc => ?_)
                · replace h := h.2 hc
                  refine r_aload_n x_210_142 rfl ?_
                  obtain ⟨b80, hb81, h⟩ := h
                  refine r_getR x_210_143 rfl (ci := 11) (k := 0) (ns := 0) (by decide +kernel) (by decide) rfl (kz := 0) rfl hO1 hb81 ?_
                  refine r_iload_n x_210_146 rfl ?_
                  refine r_invS x_210_147 (z := 111) (ns := 1) (by decide +kernel) (as := [.ref b80, g_n r45]) (r := []) rfl rfl rfl ?_
                  refine r_callI h fun r85 M82 hx83 hok84 hr86 h => ?_
                  replace h := h hx83 hok84 hr86
                  replace hO1 := hO1.up hx83
                  replace hO34 := hO34.up hx83
                  replace hO65 := hO65.up hx83
                  refine r_istore_n x_210_150 (by decide +kernel) rfl (lv1 := [(0, .ref a0), (1, g_n r7), (2, g_n r45), (3, g_n r85)]) rfl ?_
                  refine r_aload_n x_210_151 rfl ?_
                  obtain ⟨b87, hb88, h⟩ := h
                  refine r_getR x_210_152 rfl (ci := 11) (k := 0) (ns := 0) (by decide +kernel) (by decide) rfl (kz := 0) rfl hO1 hb88 ?_
                  refine r_iload_n x_210_155 rfl ?_
                  refine r_invS x_210_156 (z := 108) (ns := 1) (by decide +kernel) (as := [.ref b87, g_n r85]) (r := []) rfl rfl rfl ?_
                  refine r_callI h fun r92 M89 hx90 hok91 hr93 h => ?_
                  replace h := h hx90 hok91 hr93
                  replace hO1 := hO1.up hx90
                  replace hO34 := hO34.up hx90
                  replace hO65 := hO65.up hx90
                  refine r_if_ne x_210_159 (t := 166) (by decide +kernel) hr93 (fun hc => ?_) (fun hc => ?_)
                  · replace h := h.2 hc
                    refine r_iload_n x_210_166 rfl ?_
                    exact r_retI x_210_167 rfl hr86 h
                  · replace h := h.1 hc
                    refine r_iconst x_210_162 ?_
                    refine r_goto x_210_163 (t := 167) (by decide +kernel) ?_
                    exact r_retI x_210_167 rfl (g_Rk rfl) h
                · replace h := h.1 hc
                  refine r_iload_n x_210_140 rfl ?_
                  exact r_retI x_210_141 rfl hr46 h
          · replace h := h.1 hc
            refine r_iconst x_210_93 ?_
            exact r_retI x_210_94 rfl (g_Rk rfl) h
        · replace h := h.1 hc
          refine r_iload_n x_210_71 rfl ?_
          exact r_retI x_210_72 rfl hr8 h
    · replace h := h.1 hc
      refine r_aload_n x_210_38 rfl ?_
      refine r_getI x_210_39 rfl (ci := 11) (k := 14) (ns := 0) (by decide +kernel) (by decide) rfl (kz := 14) rfl hO1 ?_
      exact r_retI x_210_42 rfl (hok20.1 _ _) h
theorem m_X11_wrongChange {d : Nat} {M : g_M} {Q : Int → g_M → Prop} {a0 : Nat} (h : g_ok M → g_O M a0 11 ∧ ∃ b2, g_r M a0 0 = some b2 ∧ g_Call d 108 [.ref b2, g_n (g_i M a0 15)] M (g_qI fun r7 M4 => g_ext M M4 → g_ok M4 → g_InR r7 → ((r7 = 3 → ∃ b9, g_r M4 a0 0 = some b9 ∧ g_Call d 115 [.ref b9, g_n (g_i M4 a0 15), .ref (4 * 11 + 1)] M4 (g_qI fun r14 M11 => g_ext M4 M11 → g_ok M11 → g_InR r14 → ((r14 = 0 → Q (g_i M11 a0 15) M11) ∧ (¬ r14 = 0 → Q ((-1)) M11)))) ∧ (¬ r7 = 3 → Q (g_i M4 a0 15) M4)))) : g_Call (d + 1) 211 [.ref a0] M (g_qI Q) := by
  refine g_Call.ok fun hok0 => ?_
  replace h := h hok0
  refine r_body rfl (lv := [(0, .ref a0)]) rfl ?_
  refine g_Run.ok fun hok => ?_
  refine r_aload_n x_211_0 rfl ?_
  obtain ⟨hO1, h⟩ := h
  obtain ⟨b2, hb3, h⟩ := h
  refine r_getR x_211_1 rfl (ci := 11) (k := 0) (ns := 0) (by decide +kernel) (by decide) rfl (kz := 0) rfl hO1 hb3 ?_
  refine r_aload_n x_211_4 rfl ?_
  refine r_getI x_211_5 rfl (ci := 11) (k := 15) (ns := 0) (by decide +kernel) (by decide) rfl (kz := 15) rfl hO1 ?_
  refine r_invS x_211_8 (z := 108) (ns := 1) (by decide +kernel) (as := [.ref b2, g_n (g_i M a0 15)]) (r := []) rfl rfl rfl ?_
  refine r_callI h fun r7 M4 hx5 hok6 hr8 h => ?_
  replace h := h hx5 hok6 hr8
  replace hO1 := hO1.up hx5
  refine r_iconst x_211_11 ?_
  refine r_ic_ne x_211_12 (t := 36) (by decide +kernel) hr8 (g_Rk rfl) (fun hc => ?_) (fun hc => ?_)
  · replace h := h.2 hc
    refine r_aload_n x_211_36 rfl ?_
    refine r_getI x_211_37 rfl (ci := 11) (k := 15) (ns := 0) (by decide +kernel) (by decide) rfl (kz := 15) rfl hO1 ?_
    exact r_retI x_211_40 rfl (hok6.1 _ _) h
  · replace h := h.1 hc
    refine r_aload_n x_211_15 rfl ?_
    obtain ⟨b9, hb10, h⟩ := h
    refine r_getR x_211_16 rfl (ci := 11) (k := 0) (ns := 0) (by decide +kernel) (by decide) rfl (kz := 0) rfl hO1 hb10 ?_
    refine r_aload_n x_211_19 rfl ?_
    refine r_getI x_211_20 rfl (ci := 11) (k := 15) (ns := 0) (by decide +kernel) (by decide) rfl (kz := 15) rfl hO1 ?_
    refine r_ldcw x_211_23 (v := .ref (4 * 11 + 1)) rfl ?_
    refine r_invS x_211_26 (z := 115) (ns := 1) (by decide +kernel) (as := [.ref b9, g_n (g_i M4 a0 15), .ref (4 * 11 + 1)]) (r := []) rfl rfl rfl ?_
    refine r_callI h fun r14 M11 hx12 hok13 hr15 h => ?_
    replace h := h hx12 hok13 hr15
    replace hO1 := hO1.up hx12
    refine r_if_eq x_211_29 (t := 36) (by decide +kernel) hr15 (fun hc => ?_) (fun hc => ?_)
    · replace h := h.1 hc
      refine r_aload_n x_211_36 rfl ?_
      refine r_getI x_211_37 rfl (ci := 11) (k := 15) (ns := 0) (by decide +kernel) (by decide) rfl (kz := 15) rfl hO1 ?_
      exact r_retI x_211_40 rfl (hok13.1 _ _) h
    · replace h := h.2 hc
      refine r_iconst x_211_32 ?_
      refine r_goto x_211_33 (t := 40) (by decide +kernel) ?_
      exact r_retI x_211_40 rfl (g_Rk rfl) h
theorem m_X11_wrongDown {d : Nat} {M : g_M} {Q : Int → g_M → Prop} {a0 : Nat} (h : g_ok M → g_O M a0 11 ∧ ∃ b2, g_r M a0 0 = some b2 ∧ g_Call d 108 [.ref b2, g_n (g_i M a0 15)] M (g_qI fun r7 M4 => g_ext M M4 → g_ok M4 → g_InR r7 → ((r7 = 4 → ∃ b9, g_r M4 a0 0 = some b9 ∧ g_Call d 115 [.ref b9, g_n (g_i M4 a0 15), .ref (4 * 12 + 1)] M4 (g_qI fun r14 M11 => g_ext M4 M11 → g_ok M11 → g_InR r14 → ((r14 = 0 → Q (g_i M11 a0 15) M11) ∧ (¬ r14 = 0 → ∃ b16, g_r M11 a0 0 = some b16 ∧ g_Call d 113 [.ref b16, g_n (g_i M11 a0 15)] M11 (g_qI fun r21 M18 => g_ext M11 M18 → g_ok M18 → g_InR r21 → ∃ b23, g_r M18 a0 0 = some b23 ∧ g_Call d 113 [.ref b23, g_n (g_i M18 a0 14)] M18 (g_qI fun r28 M25 => g_ext M18 M25 → g_ok M25 → g_InR r28 → ((r21 = r28 → ∃ b30, g_r M25 a0 0 = some b30 ∧ g_Call d 112 [.ref b30, g_n (g_i M25 a0 15)] M25 (g_qI fun r35 M32 => g_ext M25 M32 → g_ok M32 → g_InR r35 → g_Run d 212 76 [(0, .ref a0), (1, g_n r35), (2, g_n 0)] [] M32 (g_qI Q))) ∧ (¬ r21 = r28 → Q (g_i M25 a0 15) M25)))))))) ∧ (¬ r7 = 4 → Q (g_i M4 a0 15) M4)))) : g_Call (d + 1) 212 [.ref a0] M (g_qI Q) := by
  refine g_Call.ok fun hok0 => ?_
  replace h := h hok0
  refine r_body rfl (lv := [(0, .ref a0)]) rfl ?_
  refine g_Run.ok fun hok => ?_
  refine r_aload_n x_212_0 rfl ?_
  obtain ⟨hO1, h⟩ := h
  obtain ⟨b2, hb3, h⟩ := h
  refine r_getR x_212_1 rfl (ci := 11) (k := 0) (ns := 0) (by decide +kernel) (by decide) rfl (kz := 0) rfl hO1 hb3 ?_
  refine r_aload_n x_212_4 rfl ?_
  refine r_getI x_212_5 rfl (ci := 11) (k := 15) (ns := 0) (by decide +kernel) (by decide) rfl (kz := 15) rfl hO1 ?_
  refine r_invS x_212_8 (z := 108) (ns := 1) (by decide +kernel) (as := [.ref b2, g_n (g_i M a0 15)]) (r := []) rfl rfl rfl ?_
  refine r_callI h fun r7 M4 hx5 hok6 hr8 h => ?_
  replace h := h hx5 hok6 hr8
  replace hO1 := hO1.up hx5
  refine r_iconst x_212_11 ?_
  refine r_ic_ne x_212_12 (t := 57) (by decide +kernel) hr8 (g_Rk rfl) (fun hc => ?_) (fun hc => ?_)
  · replace h := h.2 hc
    refine r_aload_n x_212_57 rfl ?_
    refine r_getI x_212_58 rfl (ci := 11) (k := 15) (ns := 0) (by decide +kernel) (by decide) rfl (kz := 15) rfl hO1 ?_
    exact r_retI x_212_61 rfl (hok6.1 _ _) h
  · replace h := h.1 hc
    refine r_aload_n x_212_15 rfl ?_
    obtain ⟨b9, hb10, h⟩ := h
    refine r_getR x_212_16 rfl (ci := 11) (k := 0) (ns := 0) (by decide +kernel) (by decide) rfl (kz := 0) rfl hO1 hb10 ?_
    refine r_aload_n x_212_19 rfl ?_
    refine r_getI x_212_20 rfl (ci := 11) (k := 15) (ns := 0) (by decide +kernel) (by decide) rfl (kz := 15) rfl hO1 ?_
    refine r_ldcw x_212_23 (v := .ref (4 * 12 + 1)) rfl ?_
    refine r_invS x_212_26 (z := 115) (ns := 1) (by decide +kernel) (as := [.ref b9, g_n (g_i M4 a0 15), .ref (4 * 12 + 1)]) (r := []) rfl rfl rfl ?_
    refine r_callI h fun r14 M11 hx12 hok13 hr15 h => ?_
    replace h := h hx12 hok13 hr15
    replace hO1 := hO1.up hx12
    refine r_if_eq x_212_29 (t := 57) (by decide +kernel) hr15 (fun hc => ?_) (fun hc => ?_)
    · replace h := h.1 hc
      refine r_aload_n x_212_57 rfl ?_
      refine r_getI x_212_58 rfl (ci := 11) (k := 15) (ns := 0) (by decide +kernel) (by decide) rfl (kz := 15) rfl hO1 ?_
      exact r_retI x_212_61 rfl (hok13.1 _ _) h
    · replace h := h.2 hc
      refine r_aload_n x_212_32 rfl ?_
      obtain ⟨b16, hb17, h⟩ := h
      refine r_getR x_212_33 rfl (ci := 11) (k := 0) (ns := 0) (by decide +kernel) (by decide) rfl (kz := 0) rfl hO1 hb17 ?_
      refine r_aload_n x_212_36 rfl ?_
      refine r_getI x_212_37 rfl (ci := 11) (k := 15) (ns := 0) (by decide +kernel) (by decide) rfl (kz := 15) rfl hO1 ?_
      refine r_invS x_212_40 (z := 113) (ns := 1) (by decide +kernel) (as := [.ref b16, g_n (g_i M11 a0 15)]) (r := []) rfl rfl rfl ?_
      refine r_callI h fun r21 M18 hx19 hok20 hr22 h => ?_
      replace h := h hx19 hok20 hr22
      replace hO1 := hO1.up hx19
      refine r_aload_n x_212_43 rfl ?_
      obtain ⟨b23, hb24, h⟩ := h
      refine r_getR x_212_44 rfl (ci := 11) (k := 0) (ns := 0) (by decide +kernel) (by decide) rfl (kz := 0) rfl hO1 hb24 ?_
      refine r_aload_n x_212_47 rfl ?_
      refine r_getI x_212_48 rfl (ci := 11) (k := 14) (ns := 0) (by decide +kernel) (by decide) rfl (kz := 14) rfl hO1 ?_
      refine r_invS x_212_51 (z := 113) (ns := 1) (by decide +kernel) (as := [.ref b23, g_n (g_i M18 a0 14)]) (r := [g_n r21]) rfl rfl rfl ?_
      refine r_callI h fun r28 M25 hx26 hok27 hr29 h => ?_
      replace h := h hx26 hok27 hr29
      replace hO1 := hO1.up hx26
      refine r_ic_eq x_212_54 (t := 62) (by decide +kernel) hr22 hr29 (fun hc => ?_) (fun hc => ?_)
      · replace h := h.1 hc
        refine r_aload_n x_212_62 rfl ?_
        obtain ⟨b30, hb31, h⟩ := h
        refine r_getR x_212_63 rfl (ci := 11) (k := 0) (ns := 0) (by decide +kernel) (by decide) rfl (kz := 0) rfl hO1 hb31 ?_
        refine r_aload_n x_212_66 rfl ?_
        refine r_getI x_212_67 rfl (ci := 11) (k := 15) (ns := 0) (by decide +kernel) (by decide) rfl (kz := 15) rfl hO1 ?_
        refine r_invS x_212_70 (z := 112) (ns := 1) (by decide +kernel) (as := [.ref b30, g_n (g_i M25 a0 15)]) (r := []) rfl rfl rfl ?_
        refine r_callI h fun r35 M32 hx33 hok34 hr36 h => ?_
        replace h := h hx33 hok34 hr36
        replace hO1 := hO1.up hx33
        refine r_istore_n x_212_73 (by decide +kernel) rfl (lv1 := [(0, .ref a0), (1, g_n r35)]) rfl ?_
        refine r_iconst x_212_74 ?_
        refine r_istore_n x_212_75 (by decide +kernel) rfl (lv1 := [(0, .ref a0), (1, g_n r35), (2, g_n 0)]) rfl ?_
        exact h
      · replace h := h.2 hc
        refine r_aload_n x_212_57 rfl ?_
        refine r_getI x_212_58 rfl (ci := 11) (k := 15) (ns := 0) (by decide +kernel) (by decide) rfl (kz := 15) rfl hO1 ?_
        exact r_retI x_212_61 rfl (hok27.1 _ _) h
theorem s_X11_wrongDown_76 {d : Nat} {M : g_M} {Q : Int → g_M → Prop} {a0 : Nat} {v1 : Int} (hv1 : g_InR v1) {v2 : Int} (hv2 : g_InR v2) (h : g_ok M → ((v2 < 100000 → g_O M a0 11 ∧ ∃ b2, g_r M a0 0 = some b2 ∧ g_Call d 108 [.ref b2, g_n v1] M (g_qI fun r7 M4 => g_ext M M4 → g_ok M4 → g_InR r7 → ((r7 = 0 → Q ((-1)) M4) ∧ (¬ r7 = 0 → ∃ b9, g_r M4 a0 0 = some b9 ∧ g_Call d 108 [.ref b9, g_n v1] M4 (g_qI fun r14 M11 => g_ext M4 M11 → g_ok M11 → g_InR r14 → ((r14 = 8 → ∃ b16, g_r M11 a0 0 = some b16 ∧ g_Call d 111 [.ref b16, g_n v1] M11 (g_qI fun r21 M18 => g_ext M11 M18 → g_ok M18 → g_InR r21 → g_InR (v2 + 1) ∧ g_Run d 212 76 [(0, .ref a0), (1, g_n r21), (2, g_n (v2 + 1))] [] M18 (g_qI Q))) ∧ (¬ r14 = 8 → Q v1 M11))))))) ∧ (¬ v2 < 100000 → Q ((-1)) M))) : g_Run d 212 76 [(0, .ref a0), (1, g_n v1), (2, g_n v2)] [] M (g_qI Q) := by
  refine g_Run.ok fun hok => ?_
  replace h := h hok
  refine r_iload_n x_212_76 rfl ?_
  refine r_ldcw x_212_77 (v := g_n 100000) rfl ?_
  refine r_ic_ge x_212_80 (t := 124) (by decide +kernel) hv2 (g_Rk rfl) (fun hc => ?_) (fun hc => ?_)
  · replace h := h.2 hc
    refine r_iconst x_212_124 ?_
    exact r_retI x_212_125 rfl (g_Rk rfl) h
  · replace h := h.1 hc
    refine r_aload_n x_212_83 rfl ?_
    obtain ⟨hO1, h⟩ := h
    obtain ⟨b2, hb3, h⟩ := h
    refine r_getR x_212_84 rfl (ci := 11) (k := 0) (ns := 0) (by decide +kernel) (by decide) rfl (kz := 0) rfl hO1 hb3 ?_
    refine r_iload_n x_212_87 rfl ?_
    refine r_invS x_212_88 (z := 108) (ns := 1) (by decide +kernel) (as := [.ref b2, g_n v1]) (r := []) rfl rfl rfl ?_
    refine r_callI h fun r7 M4 hx5 hok6 hr8 h => ?_
    replace h := h hx5 hok6 hr8
    replace hO1 := hO1.up hx5
    refine r_if_eq x_212_91 (t := 124) (by decide +kernel) hr8 (fun hc => ?_) (fun hc => ?_)
    · replace h := h.1 hc
      refine r_iconst x_212_124 ?_
      exact r_retI x_212_125 rfl (g_Rk rfl) h
    · replace h := h.2 hc
      refine r_aload_n x_212_94 rfl ?_
      obtain ⟨b9, hb10, h⟩ := h
      refine r_getR x_212_95 rfl (ci := 11) (k := 0) (ns := 0) (by decide +kernel) (by decide) rfl (kz := 0) rfl hO1 hb10 ?_
      refine r_iload_n x_212_98 rfl ?_
      refine r_invS x_212_99 (z := 108) (ns := 1) (by decide +kernel) (as := [.ref b9, g_n v1]) (r := []) rfl rfl rfl ?_
      refine r_callI h fun r14 M11 hx12 hok13 hr15 h => ?_
      replace h := h hx12 hok13 hr15
      replace hO1 := hO1.up hx12
      refine r_bipush x_212_102 (x := 8) rfl ?_
      refine r_ic_eq x_212_104 (t := 109) (by decide +kernel) hr15 (g_Rk rfl) (fun hc => ?_) (fun hc => ?_)
      · replace h := h.1 hc
        refine r_aload_n x_212_109 rfl ?_
        obtain ⟨b16, hb17, h⟩ := h
        refine r_getR x_212_110 rfl (ci := 11) (k := 0) (ns := 0) (by decide +kernel) (by decide) rfl (kz := 0) rfl hO1 hb17 ?_
        refine r_iload_n x_212_113 rfl ?_
        refine r_invS x_212_114 (z := 111) (ns := 1) (by decide +kernel) (as := [.ref b16, g_n v1]) (r := []) rfl rfl rfl ?_
        refine r_callI h fun r21 M18 hx19 hok20 hr22 h => ?_
        replace h := h hx19 hok20 hr22
        replace hO1 := hO1.up hx19
        refine r_istore_n x_212_117 (by decide +kernel) rfl (lv1 := [(0, .ref a0), (1, g_n r21), (2, g_n v2)]) rfl ?_
        obtain ⟨h23, h⟩ := h
        refine r_iinc x_212_118 (by decide +kernel) rfl rfl (lv1 := [(0, .ref a0), (1, g_n r21), (2, g_n (v2 + 1))]) rfl ?_
        refine r_goto x_212_121 (t := 76) (by decide +kernel) ?_
        exact h
      · replace h := h.2 hc
        refine r_iload_n x_212_107 rfl ?_
        exact r_retI x_212_108 rfl hv1 h
theorem m_X11_insert {d : Nat} {M : g_M} {Q : g_M → Prop} {a0 : Nat} (h : g_ok M → g_O M a0 11 ∧ ∃ b2, g_r M a0 0 = some b2 ∧ g_Call d 111 [.ref b2, g_n (g_i M a0 14)] M (g_qI fun r7 M4 => g_ext M M4 → g_ok M4 → g_InR r7 → ∃ b9, g_r M4 a0 0 = some b9 ∧ g_Call d 110 [.ref b9, g_n (g_i M4 a0 14)] M4 (g_qI fun r14 M11 => g_ext M4 M11 → g_ok M11 → g_InR r14 → g_InR (r7 - r14) ∧ ∃ b17, g_r M11 a0 16 = some b17 ∧ g_O M11 b17 8 ∧ ((g_i M11 b17 6 < 200 → ∃ b20, g_r M11 a0 16 = some b20 ∧ g_O M11 b20 8 ∧ g_InR ((g_i M11 b20 7) + (r7 - r14)) ∧ ((40000 < (g_i M11 b20 7) + (r7 - r14) → g_Run d 213 60 [(0, .ref a0), (1, g_n (r7 - r14)), (2, g_n 0), (3, g_n 0)] [] M11 (g_qV Q)) ∧ (¬ 40000 < (g_i M11 b20 7) + (r7 - r14) → g_Run d 213 60 [(0, .ref a0), (1, g_n (r7 - r14)), (2, g_n 1), (3, g_n 0)] [] M11 (g_qV Q)))) ∧ (¬ g_i M11 b17 6 < 200 → g_Run d 213 60 [(0, .ref a0), (1, g_n (r7 - r14)), (2, g_n 0), (3, g_n 0)] [] M11 (g_qV Q)))))) : g_Call (d + 1) 213 [.ref a0] M (g_qV Q) := by
  refine g_Call.ok fun hok0 => ?_
  replace h := h hok0
  refine r_body rfl (lv := [(0, .ref a0)]) rfl ?_
  refine g_Run.ok fun hok => ?_
  refine r_aload_n x_213_0 rfl ?_
  obtain ⟨hO1, h⟩ := h
  obtain ⟨b2, hb3, h⟩ := h
  refine r_getR x_213_1 rfl (ci := 11) (k := 0) (ns := 0) (by decide +kernel) (by decide) rfl (kz := 0) rfl hO1 hb3 ?_
  refine r_aload_n x_213_4 rfl ?_
  refine r_getI x_213_5 rfl (ci := 11) (k := 14) (ns := 0) (by decide +kernel) (by decide) rfl (kz := 14) rfl hO1 ?_
  refine r_invS x_213_8 (z := 111) (ns := 1) (by decide +kernel) (as := [.ref b2, g_n (g_i M a0 14)]) (r := []) rfl rfl rfl ?_
  refine r_callI h fun r7 M4 hx5 hok6 hr8 h => ?_
  replace h := h hx5 hok6 hr8
  replace hO1 := hO1.up hx5
  refine r_aload_n x_213_11 rfl ?_
  obtain ⟨b9, hb10, h⟩ := h
  refine r_getR x_213_12 rfl (ci := 11) (k := 0) (ns := 0) (by decide +kernel) (by decide) rfl (kz := 0) rfl hO1 hb10 ?_
  refine r_aload_n x_213_15 rfl ?_
  refine r_getI x_213_16 rfl (ci := 11) (k := 14) (ns := 0) (by decide +kernel) (by decide) rfl (kz := 14) rfl hO1 ?_
  refine r_invS x_213_19 (z := 110) (ns := 1) (by decide +kernel) (as := [.ref b9, g_n (g_i M4 a0 14)]) (r := [g_n r7]) rfl rfl rfl ?_
  refine r_callI h fun r14 M11 hx12 hok13 hr15 h => ?_
  replace h := h hx12 hok13 hr15
  replace hO1 := hO1.up hx12
  refine r_isub x_213_22 ?_
  obtain ⟨h16, h⟩ := h
  refine r_istore_n x_213_23 (by decide +kernel) rfl (lv1 := [(0, .ref a0), (1, g_n (r7 - r14))]) rfl ?_
  refine r_aload_n x_213_24 rfl ?_
  obtain ⟨b17, hb18, h⟩ := h
  refine r_getR x_213_25 rfl (ci := 11) (k := 16) (ns := 0) (by decide +kernel) (by decide) rfl (kz := 16) rfl hO1 hb18 ?_
  obtain ⟨hO19, h⟩ := h
  refine r_getI x_213_28 rfl (ci := 8) (k := 6) (ns := 1) (by decide +kernel) (by decide) rfl (kz := 6) rfl hO19 ?_
  refine r_sipush x_213_31 (x := 200) rfl ?_
  refine r_ic_ge x_213_34 (t := 56) (by decide +kernel) (hok13.1 _ _) (g_Rk rfl) (fun hc => ?_) (fun hc => ?_)
  · replace h := h.2 hc
    refine r_iconst x_213_56 ?_
    refine r_istore_n x_213_57 (by decide +kernel) rfl (lv1 := [(0, .ref a0), (1, g_n (r7 - r14)), (2, g_n 0)]) rfl ?_
    refine r_iconst x_213_58 ?_
    refine r_istore_n x_213_59 (by decide +kernel) rfl (lv1 := [(0, .ref a0), (1, g_n (r7 - r14)), (2, g_n 0), (3, g_n 0)]) rfl ?_
    exact h
  · replace h := h.1 hc
    refine r_aload_n x_213_37 rfl ?_
    obtain ⟨b20, hb21, h⟩ := h
    refine r_getR x_213_38 rfl (ci := 11) (k := 16) (ns := 0) (by decide +kernel) (by decide) rfl (kz := 16) rfl hO1 hb21 ?_
    obtain ⟨hO22, h⟩ := h
    refine r_getI x_213_41 rfl (ci := 8) (k := 7) (ns := 1) (by decide +kernel) (by decide) rfl (kz := 7) rfl hO22 ?_
    refine r_iload_n x_213_44 rfl ?_
    refine r_iadd x_213_45 ?_
    obtain ⟨h23, h⟩ := h
    refine r_ldcw x_213_46 (v := g_n 40000) rfl ?_
    refine r_ic_gt x_213_49 (t := 56) (by decide +kernel) h23 (g_Rk rfl) (fun hc => ?_) (fun hc => ?_)
    · replace h := h.1 hc
      refine r_iconst x_213_56 ?_
      refine r_istore_n x_213_57 (by decide +kernel) rfl (lv1 := [(0, .ref a0), (1, g_n (r7 - r14)), (2, g_n 0)]) rfl ?_
      refine r_iconst x_213_58 ?_
      refine r_istore_n x_213_59 (by decide +kernel) rfl (lv1 := [(0, .ref a0), (1, g_n (r7 - r14)), (2, g_n 0), (3, g_n 0)]) rfl ?_
      exact h
    · replace h := h.2 hc
      refine r_iconst x_213_52 ?_
      refine r_goto x_213_53 (t := 57) (by decide +kernel) ?_
      refine r_istore_n x_213_57 (by decide +kernel) rfl (lv1 := [(0, .ref a0), (1, g_n (r7 - r14)), (2, g_n 1)]) rfl ?_
      refine r_iconst x_213_58 ?_
      refine r_istore_n x_213_59 (by decide +kernel) rfl (lv1 := [(0, .ref a0), (1, g_n (r7 - r14)), (2, g_n 1), (3, g_n 0)]) rfl ?_
      exact h
theorem s_X11_insert_60 {d : Nat} {M : g_M} {Q : g_M → Prop} {a0 : Nat} {v1 : Int} (hv1 : g_InR v1) {v2 : Int} (hv2 : g_InR v2) {v3 : Int} (hv3 : g_InR v3) (h : g_ok M → ((v3 < 4 → ((v2 = 0 → g_Run d 213 92 [(0, .ref a0), (1, g_n v1), (2, g_n v2), (3, g_n v3)] [] M (g_qV Q)) ∧ (¬ v2 = 0 → g_O M a0 11 ∧ ∃ b2, g_r M a0 16 = some b2 ∧ g_O M b2 8 ∧ ∃ b5, g_r M b2 4 = some b5 ∧ ∃ n7, g_A M b5 3 n7 ∧ ((0 : Int) ≤ v3 ∧ (v3 : Int) < n7) ∧ ∃ b10, g_r M b5 v3 = some b10 ∧ g_O M b10 3 ∧ g_Call d 68 [.ref b10, g_n (g_i M a0 14)] M (g_qI fun r16 M13 => g_ext M M13 → g_ok M13 → g_InR r16 → g_InR (v3 + 1) ∧ g_Run d 213 60 [(0, .ref a0), (1, g_n v1), (2, g_n r16), (3, g_n (v3 + 1))] [] M13 (g_qV Q))))) ∧ (¬ v3 < 4 → g_Run d 213 92 [(0, .ref a0), (1, g_n v1), (2, g_n v2), (3, g_n v3)] [] M (g_qV Q)))) : g_Run d 213 60 [(0, .ref a0), (1, g_n v1), (2, g_n v2), (3, g_n v3)] [] M (g_qV Q) := by
  refine g_Run.ok fun hok => ?_
  replace h := h hok
  refine r_iload_n x_213_60 rfl ?_
  refine r_iconst x_213_61 ?_
  refine r_ic_ge x_213_62 (t := 92) (by decide +kernel) hv3 (g_Rk rfl) (fun hc => ?_) (fun hc => ?_)
  · replace h := h.2 hc
    exact h
  · replace h := h.1 hc
    refine r_iload_n x_213_65 rfl ?_
    refine r_if_eq x_213_66 (t := 92) (by decide +kernel) hv2 (fun hc => ?_) (fun hc => ?_)
    · replace h := h.1 hc
      exact h
    · replace h := h.2 hc
      refine r_aload_n x_213_69 rfl ?_
      obtain ⟨hO1, h⟩ := h
      obtain ⟨b2, hb3, h⟩ := h
      refine r_getR x_213_70 rfl (ci := 11) (k := 16) (ns := 0) (by decide +kernel) (by decide) rfl (kz := 16) rfl hO1 hb3 ?_
      obtain ⟨hO4, h⟩ := h
      obtain ⟨b5, hb6, h⟩ := h
      refine r_getR x_213_73 rfl (ci := 8) (k := 4) (ns := 1) (by decide +kernel) (by decide) rfl (kz := 4) rfl hO4 hb6 ?_
      refine r_iload_n x_213_76 rfl ?_
      obtain ⟨n7, hA8, h⟩ := h
      obtain ⟨h9, h⟩ := h
      obtain ⟨b10, hb11, h⟩ := h
      refine r_aald x_213_77 (by decide) hA8 hv3 h9.1 h9.2 hb11 ?_
      refine r_aload_n x_213_78 rfl ?_
      refine r_getI x_213_79 rfl (ci := 11) (k := 14) (ns := 0) (by decide +kernel) (by decide) rfl (kz := 14) rfl hO1 ?_
      obtain ⟨hO12, h⟩ := h
      refine r_invV x_213_82 (z := 68) (ns := 1) (by decide +kernel) (as := [g_n (g_i M a0 14)]) (r := []) rfl rfl rfl hO12 rfl rfl ?_
      refine r_callI h fun r16 M13 hx14 hok15 hr17 h => ?_
      replace h := h hx14 hok15 hr17
      replace hO1 := hO1.up hx14
      replace hO4 := hO4.up hx14
      replace hO12 := hO12.up hx14
      replace hA8 := hA8.up hx14
      refine r_istore_n x_213_85 (by decide +kernel) rfl (lv1 := [(0, .ref a0), (1, g_n v1), (2, g_n r16), (3, g_n v3)]) rfl ?_
      obtain ⟨h18, h⟩ := h
      refine r_iinc x_213_86 (by decide +kernel) rfl rfl (lv1 := [(0, .ref a0), (1, g_n v1), (2, g_n r16), (3, g_n (v3 + 1))]) rfl ?_
      refine r_goto x_213_89 (t := 60) (by decide +kernel) ?_
      exact h
theorem s_X11_insert_92 {d : Nat} {M : g_M} {Q : g_M → Prop} {a0 : Nat} {v1 : Int} (hv1 : g_InR v1) {v2 : Int} (hv2 : g_InR v2) {v3 : Int} (hv3 : g_InR v3) (h : g_ok M → ((v2 = 0 → g_O M a0 11 ∧ g_Call d 197 [.ref a0, g_n 40, g_n ((-1))] M (g_qV fun M11 => g_ext M M11 → g_ok M11 → Q M11)) ∧ (¬ v2 = 0 → g_O M a0 11 ∧ ∃ b2, g_r M a0 16 = some b2 ∧ g_O M b2 8 ∧ g_Call d 129 [.ref b2, g_n (g_i M a0 14)] M (g_qI fun r8 M5 => g_ext M M5 → g_ok M5 → g_InR r8 → g_Run d 213 119 [(0, .ref a0), (1, g_n v1), (2, g_n v2), (3, g_n r8), (4, g_n 0)] [] M5 (g_qV Q))))) : g_Run d 213 92 [(0, .ref a0), (1, g_n v1), (2, g_n v2), (3, g_n v3)] [] M (g_qV Q) := by
  refine g_Run.ok fun hok => ?_
  replace h := h hok
  refine r_iload_n x_213_92 rfl ?_
  refine r_if_ne x_213_93 (t := 104) (by decide +kernel) hv2 (fun hc => ?_) (fun hc => ?_)
  · replace h := h.2 hc
    refine r_aload_n x_213_104 rfl ?_
    obtain ⟨hO1, h⟩ := h
    obtain ⟨b2, hb3, h⟩ := h
    refine r_getR x_213_105 rfl (ci := 11) (k := 16) (ns := 0) (by decide +kernel) (by decide) rfl (kz := 16) rfl hO1 hb3 ?_
    refine r_aload_n x_213_108 rfl ?_
    refine r_getI x_213_109 rfl (ci := 11) (k := 14) (ns := 0) (by decide +kernel) (by decide) rfl (kz := 14) rfl hO1 ?_
    obtain ⟨hO4, h⟩ := h
    refine r_invV x_213_112 (z := 129) (ns := 1) (by decide +kernel) (as := [g_n (g_i M a0 14)]) (r := []) rfl rfl rfl hO4 rfl rfl ?_
    refine r_callI h fun r8 M5 hx6 hok7 hr9 h => ?_
    replace h := h hx6 hok7 hr9
    replace hO1 := hO1.up hx6
    replace hO4 := hO4.up hx6
    refine r_istore_n x_213_115 (by decide +kernel) rfl (lv1 := [(0, .ref a0), (1, g_n v1), (2, g_n v2), (3, g_n r8)]) rfl ?_
    refine r_iconst x_213_116 ?_
    refine r_istore x_213_117 (by decide +kernel) rfl (lv1 := [(0, .ref a0), (1, g_n v1), (2, g_n v2), (3, g_n r8), (4, g_n 0)]) rfl ?_
    exact h
  · replace h := h.1 hc
    refine r_aload_n x_213_96 rfl ?_
    refine r_bipush x_213_97 (x := 40) rfl ?_
    refine r_iconst x_213_99 ?_
    obtain ⟨hO10, h⟩ := h
    refine r_invV x_213_100 (z := 197) (ns := 0) (by decide +kernel) (as := [g_n 40, g_n ((-1))]) (r := []) rfl rfl rfl hO10 rfl rfl ?_
    refine r_callV h fun M11 hx12 hok13 h => ?_
    replace h := h hx12 hok13
    replace hO10 := hO10.up hx12
    exact r_retV x_213_103 rfl h
theorem s_X11_insert_119 {d : Nat} {M : g_M} {Q : g_M → Prop} {a0 : Nat} {v1 : Int} (hv1 : g_InR v1) {v2 : Int} (hv2 : g_InR v2) {v3 : Int} (hv3 : g_InR v3) {v4 : Int} (hv4 : g_InR v4) (h : g_ok M → g_O M a0 11 ∧ ∃ b2, g_r M a0 16 = some b2 ∧ g_O M b2 8 ∧ ((v4 < g_i M b2 6 → ∃ b5, g_r M a0 10 = some b5 ∧ ((v4 = v3 → ∃ n15, g_A M b5 2 n15 ∧ ((0 : Int) ≤ v4 ∧ (v4 : Int) < n15) ∧ (∀ M18, M18 = g_wi M b5 v4 1 → g_ok M18 → g_InR (v4 + 1) ∧ g_Run d 213 119 [(0, .ref a0), (1, g_n v1), (2, g_n v2), (3, g_n v3), (4, g_n (v4 + 1))] [] M18 (g_qV Q))) ∧ (¬ v4 = v3 → ∃ n7, g_A M b5 2 n7 ∧ ((0 : Int) ≤ v4 ∧ (v4 : Int) < n7) ∧ (∀ M10, M10 = g_wi M b5 v4 0 → g_ok M10 → g_InR (v4 + 1) ∧ g_Run d 213 119 [(0, .ref a0), (1, g_n v1), (2, g_n v2), (3, g_n v3), (4, g_n (v4 + 1))] [] M10 (g_qV Q))))) ∧ (¬ v4 < g_i M b2 6 → g_Run d 213 158 [(0, .ref a0), (1, g_n v1), (2, g_n v2), (3, g_n v3), (4, g_n 0)] [] M (g_qV Q)))) : g_Run d 213 119 [(0, .ref a0), (1, g_n v1), (2, g_n v2), (3, g_n v3), (4, g_n v4)] [] M (g_qV Q) := by
  refine g_Run.ok fun hok => ?_
  replace h := h hok
  refine r_iload x_213_119 rfl ?_
  refine r_aload_n x_213_121 rfl ?_
  obtain ⟨hO1, h⟩ := h
  obtain ⟨b2, hb3, h⟩ := h
  refine r_getR x_213_122 rfl (ci := 11) (k := 16) (ns := 0) (by decide +kernel) (by decide) rfl (kz := 16) rfl hO1 hb3 ?_
  obtain ⟨hO4, h⟩ := h
  refine r_getI x_213_125 rfl (ci := 8) (k := 6) (ns := 1) (by decide +kernel) (by decide) rfl (kz := 6) rfl hO4 ?_
  refine r_ic_ge x_213_128 (t := 155) (by decide +kernel) hv4 (hok.1 _ _) (fun hc => ?_) (fun hc => ?_)
  · replace h := h.2 hc
    refine r_iconst x_213_155 ?_
    refine r_istore x_213_156 (by decide +kernel) rfl (lv1 := [(0, .ref a0), (1, g_n v1), (2, g_n v2), (3, g_n v3), (4, g_n 0)]) rfl ?_
    exact h
  · replace h := h.1 hc
    refine r_aload_n x_213_131 rfl ?_
    obtain ⟨b5, hb6, h⟩ := h
    refine r_getR x_213_132 rfl (ci := 11) (k := 10) (ns := 0) (by decide +kernel) (by decide) rfl (kz := 10) rfl hO1 hb6 ?_
    refine r_iload x_213_135 rfl ?_
    refine r_iload x_213_137 rfl ?_
    refine r_iload_n x_213_139 rfl ?_
    refine r_ic_ne x_213_140 (t := 147) (by decide +kernel) hv4 hv3 (fun hc => ?_) (fun hc => ?_)
    · replace h := h.2 hc
      refine r_iconst x_213_147 ?_
      obtain ⟨n7, hA8, h⟩ := h
      obtain ⟨h9, h⟩ := h
      refine r_bast2 x_213_148 hA8 hv4 h9.1 h9.2 (Or.inl rfl) ?_
      obtain ⟨M10, hM11⟩ : ∃ Mz, Mz = g_wi M b5 v4 0 := ⟨_, rfl⟩
      rw [← hM11]
      refine g_Run.ok fun hok12 => ?_
      replace h := h M10 hM11 hok12
      have hx13 := g_extW hM11
      replace hO1 := hO1.up hx13
      replace hO4 := hO4.up hx13
      replace hA8 := hA8.up hx13
      obtain ⟨h14, h⟩ := h
      refine r_iinc x_213_149 (by decide +kernel) rfl rfl (lv1 := [(0, .ref a0), (1, g_n v1), (2, g_n v2), (3, g_n v3), (4, g_n (v4 + 1))]) rfl ?_
      refine r_goto x_213_152 (t := 119) (by decide +kernel) ?_
      exact h
    · replace h := h.1 hc
      refine r_iconst x_213_143 ?_
      refine r_goto x_213_144 (t := 148) (by decide +kernel) ?_
      obtain ⟨n15, hA16, h⟩ := h
      obtain ⟨h17, h⟩ := h
      refine r_bast2 x_213_148 hA16 hv4 h17.1 h17.2 (Or.inr rfl) ?_
      obtain ⟨M18, hM19⟩ : ∃ Mz, Mz = g_wi M b5 v4 1 := ⟨_, rfl⟩
      rw [← hM19]
      refine g_Run.ok fun hok20 => ?_
      replace h := h M18 hM19 hok20
      have hx21 := g_extW hM19
      replace hO1 := hO1.up hx21
      replace hO4 := hO4.up hx21
      replace hA16 := hA16.up hx21
      obtain ⟨h22, h⟩ := h
      refine r_iinc x_213_149 (by decide +kernel) rfl rfl (lv1 := [(0, .ref a0), (1, g_n v1), (2, g_n v2), (3, g_n v3), (4, g_n (v4 + 1))]) rfl ?_
      refine r_goto x_213_152 (t := 119) (by decide +kernel) ?_
      exact h
theorem s_X11_insert_158 {d : Nat} {M : g_M} {Q : g_M → Prop} {a0 : Nat} {v1 : Int} (hv1 : g_InR v1) {v2 : Int} (hv2 : g_InR v2) {v3 : Int} (hv3 : g_InR v3) {v4 : Int} (hv4 : g_InR v4) (h : g_ok M → ((v4 < 4 → g_O M a0 11 ∧ ∃ b17, g_r M a0 16 = some b17 ∧ g_O M b17 8 ∧ ∃ b20, g_r M b17 4 = some b20 ∧ ∃ n22, g_A M b20 3 n22 ∧ ((0 : Int) ≤ v4 ∧ (v4 : Int) < n22) ∧ ∃ b25, g_r M b20 v4 = some b25 ∧ ∃ b27, g_r M a0 16 = some b27 ∧ ∃ b29, g_r M a0 10 = some b29 ∧ g_O M b25 3 ∧ g_Call d 72 [.ref b25, .ref b27, .ref b29] M (g_qV fun M32 => g_ext M M32 → g_ok M32 → g_InR (v4 + 1) ∧ g_Run d 213 158 [(0, .ref a0), (1, g_n v1), (2, g_n v2), (3, g_n v3), (4, g_n (v4 + 1))] [] M32 (g_qV Q))) ∧ (¬ v4 < 4 → g_O M a0 11 ∧ ∃ b2, g_r M a0 1 = some b2 ∧ ∃ b4, g_r M a0 16 = some b4 ∧ g_O M b4 8 ∧ ∃ b7, g_r M b4 3 = some b7 ∧ ∃ n9, g_A M b7 1 n9 ∧ ((0 : Int) ≤ v3 ∧ (v3 : Int) < n9) ∧ g_O M b2 4 ∧ g_Call d 87 [.ref b2, .ref (4 * 13 + 1), g_n (g_i M b7 v3)] M (g_qV fun M13 => g_ext M M13 → g_ok M13 → Q M13)))) : g_Run d 213 158 [(0, .ref a0), (1, g_n v1), (2, g_n v2), (3, g_n v3), (4, g_n v4)] [] M (g_qV Q) := by
  refine g_Run.ok fun hok => ?_
  replace h := h hok
  refine r_iload x_213_158 rfl ?_
  refine r_iconst x_213_160 ?_
  refine r_ic_ge x_213_161 (t := 191) (by decide +kernel) hv4 (g_Rk rfl) (fun hc => ?_) (fun hc => ?_)
  · replace h := h.2 hc
    refine r_aload_n x_213_191 rfl ?_
    obtain ⟨hO1, h⟩ := h
    obtain ⟨b2, hb3, h⟩ := h
    refine r_getR x_213_192 rfl (ci := 11) (k := 1) (ns := 0) (by decide +kernel) (by decide) rfl (kz := 1) rfl hO1 hb3 ?_
    refine r_ldcw x_213_195 (v := .ref (4 * 13 + 1)) rfl ?_
    refine r_aload_n x_213_198 rfl ?_
    obtain ⟨b4, hb5, h⟩ := h
    refine r_getR x_213_199 rfl (ci := 11) (k := 16) (ns := 0) (by decide +kernel) (by decide) rfl (kz := 16) rfl hO1 hb5 ?_
    obtain ⟨hO6, h⟩ := h
    obtain ⟨b7, hb8, h⟩ := h
    refine r_getR x_213_202 rfl (ci := 8) (k := 3) (ns := 1) (by decide +kernel) (by decide) rfl (kz := 3) rfl hO6 hb8 ?_
    refine r_iload_n x_213_205 rfl ?_
    obtain ⟨n9, hA10, h⟩ := h
    obtain ⟨h11, h⟩ := h
    refine r_iald x_213_206 hA10 hv3 h11.1 h11.2 ?_
    obtain ⟨hO12, h⟩ := h
    refine r_invV x_213_207 (z := 87) (ns := 1) (by decide +kernel) (as := [.ref (4 * 13 + 1), g_n (g_i M b7 v3)]) (r := []) rfl rfl rfl hO12 rfl rfl ?_
    refine r_callV h fun M13 hx14 hok15 h => ?_
    replace h := h hx14 hok15
    replace hO1 := hO1.up hx14
    replace hO6 := hO6.up hx14
    replace hO12 := hO12.up hx14
    replace hA10 := hA10.up hx14
    exact r_retV x_213_210 rfl h
  · replace h := h.1 hc
    refine r_aload_n x_213_164 rfl ?_
    obtain ⟨hO16, h⟩ := h
    obtain ⟨b17, hb18, h⟩ := h
    refine r_getR x_213_165 rfl (ci := 11) (k := 16) (ns := 0) (by decide +kernel) (by decide) rfl (kz := 16) rfl hO16 hb18 ?_
    obtain ⟨hO19, h⟩ := h
    obtain ⟨b20, hb21, h⟩ := h
    refine r_getR x_213_168 rfl (ci := 8) (k := 4) (ns := 1) (by decide +kernel) (by decide) rfl (kz := 4) rfl hO19 hb21 ?_
    refine r_iload x_213_171 rfl ?_
    obtain ⟨n22, hA23, h⟩ := h
    obtain ⟨h24, h⟩ := h
    obtain ⟨b25, hb26, h⟩ := h
    refine r_aald x_213_173 (by decide) hA23 hv4 h24.1 h24.2 hb26 ?_
    refine r_aload_n x_213_174 rfl ?_
    obtain ⟨b27, hb28, h⟩ := h
    refine r_getR x_213_175 rfl (ci := 11) (k := 16) (ns := 0) (by decide +kernel) (by decide) rfl (kz := 16) rfl hO16 hb28 ?_
    refine r_aload_n x_213_178 rfl ?_
    obtain ⟨b29, hb30, h⟩ := h
    refine r_getR x_213_179 rfl (ci := 11) (k := 10) (ns := 0) (by decide +kernel) (by decide) rfl (kz := 10) rfl hO16 hb30 ?_
    obtain ⟨hO31, h⟩ := h
    refine r_invV x_213_182 (z := 72) (ns := 1) (by decide +kernel) (as := [.ref b27, .ref b29]) (r := []) rfl rfl rfl hO31 rfl rfl ?_
    refine r_callV h fun M32 hx33 hok34 h => ?_
    replace h := h hx33 hok34
    replace hO16 := hO16.up hx33
    replace hO19 := hO19.up hx33
    replace hO31 := hO31.up hx33
    replace hA23 := hA23.up hx33
    obtain ⟨h35, h⟩ := h
    refine r_iinc x_213_185 (by decide +kernel) rfl rfl (lv1 := [(0, .ref a0), (1, g_n v1), (2, g_n v2), (3, g_n v3), (4, g_n (v4 + 1))]) rfl ?_
    refine r_goto x_213_188 (t := 158) (by decide +kernel) ?_
    exact h
theorem m_X11_hitsOfFilter {d : Nat} {M : g_M} {Q : Int → g_M → Prop} {a0 : Nat} (h : g_ok M → g_O M a0 11 ∧ ∃ b2, g_r M a0 3 = some b2 ∧ g_O M b2 2 ∧ g_Call d 42 [.ref b2, g_n (g_i M a0 14)] M (g_qI fun r8 M5 => g_ext M M5 → g_ok M5 → g_InR r8 → ((r8 = 0 → ∃ b10, g_r M5 a0 3 = some b10 ∧ g_O M5 b10 2 ∧ g_InR (10 + (g_i M5 b10 4)) ∧ ∃ b14, g_r M5 a0 3 = some b14 ∧ g_O M5 b14 2 ∧ g_Call d 198 [.ref a0, g_n (10 + (g_i M5 b10 4)), g_n (g_i M5 b14 5)] M5 (g_qV fun M17 => g_ext M5 M17 → g_ok M17 → Q ((-1)) M17)) ∧ (¬ r8 = 0 → g_Run d 214 41 [(0, .ref a0), (1, g_n 0), (2, g_n 0)] [] M5 (g_qI Q))))) : g_Call (d + 1) 214 [.ref a0] M (g_qI Q) := by
  refine g_Call.ok fun hok0 => ?_
  replace h := h hok0
  refine r_body rfl (lv := [(0, .ref a0)]) rfl ?_
  refine g_Run.ok fun hok => ?_
  refine r_aload_n x_214_0 rfl ?_
  obtain ⟨hO1, h⟩ := h
  obtain ⟨b2, hb3, h⟩ := h
  refine r_getR x_214_1 rfl (ci := 11) (k := 3) (ns := 0) (by decide +kernel) (by decide) rfl (kz := 3) rfl hO1 hb3 ?_
  refine r_aload_n x_214_4 rfl ?_
  refine r_getI x_214_5 rfl (ci := 11) (k := 14) (ns := 0) (by decide +kernel) (by decide) rfl (kz := 14) rfl hO1 ?_
  obtain ⟨hO4, h⟩ := h
  refine r_invV x_214_8 (z := 42) (ns := 1) (by decide +kernel) (as := [g_n (g_i M a0 14)]) (r := []) rfl rfl rfl hO4 rfl rfl ?_
  refine r_callI h fun r8 M5 hx6 hok7 hr9 h => ?_
  replace h := h hx6 hok7 hr9
  replace hO1 := hO1.up hx6
  replace hO4 := hO4.up hx6
  refine r_if_ne x_214_11 (t := 37) (by decide +kernel) hr9 (fun hc => ?_) (fun hc => ?_)
  · replace h := h.2 hc
    refine r_iconst x_214_37 ?_
    refine r_istore_n x_214_38 (by decide +kernel) rfl (lv1 := [(0, .ref a0), (1, g_n 0)]) rfl ?_
    refine r_iconst x_214_39 ?_
    refine r_istore_n x_214_40 (by decide +kernel) rfl (lv1 := [(0, .ref a0), (1, g_n 0), (2, g_n 0)]) rfl ?_
    exact h
  · replace h := h.1 hc
    refine r_aload_n x_214_14 rfl ?_
    refine r_bipush x_214_15 (x := 10) rfl ?_
    refine r_aload_n x_214_17 rfl ?_
    obtain ⟨b10, hb11, h⟩ := h
    refine r_getR x_214_18 rfl (ci := 11) (k := 3) (ns := 0) (by decide +kernel) (by decide) rfl (kz := 3) rfl hO1 hb11 ?_
    obtain ⟨hO12, h⟩ := h
    refine r_getI x_214_21 rfl (ci := 2) (k := 4) (ns := 1) (by decide +kernel) (by decide) rfl (kz := 4) rfl hO12 ?_
    refine r_iadd x_214_24 ?_
    obtain ⟨h13, h⟩ := h
    refine r_aload_n x_214_25 rfl ?_
    obtain ⟨b14, hb15, h⟩ := h
    refine r_getR x_214_26 rfl (ci := 11) (k := 3) (ns := 0) (by decide +kernel) (by decide) rfl (kz := 3) rfl hO1 hb15 ?_
    obtain ⟨hO16, h⟩ := h
    refine r_getI x_214_29 rfl (ci := 2) (k := 5) (ns := 1) (by decide +kernel) (by decide) rfl (kz := 5) rfl hO16 ?_
    refine r_invV x_214_32 (z := 198) (ns := 0) (by decide +kernel) (as := [g_n (10 + (g_i M5 b10 4)), g_n (g_i M5 b14 5)]) (r := []) rfl rfl rfl hO1 rfl rfl ?_
    refine r_callV h fun M17 hx18 hok19 h => ?_
    replace h := h hx18 hok19
    replace hO1 := hO1.up hx18
    replace hO4 := hO4.up hx18
    replace hO12 := hO12.up hx18
    replace hO16 := hO16.up hx18
    refine r_iconst x_214_35 ?_
    exact r_retI x_214_36 rfl (g_Rk rfl) h
theorem s_X11_hitsOfFilter_41 {d : Nat} {M : g_M} {Q : Int → g_M → Prop} {a0 : Nat} {v1 : Int} (hv1 : g_InR v1) {v2 : Int} (hv2 : g_InR v2) (h : g_ok M → g_O M a0 11 ∧ ∃ b2, g_r M a0 16 = some b2 ∧ g_O M b2 8 ∧ ((v2 < g_i M b2 6 → ∃ b5, g_r M a0 10 = some b5 ∧ ∃ b7, g_r M a0 3 = some b7 ∧ ∃ b9, g_r M a0 16 = some b9 ∧ g_O M b9 8 ∧ ∃ b12, g_r M b9 2 = some b12 ∧ ∃ n14, g_A M b12 1 n14 ∧ ((0 : Int) ≤ v2 ∧ (v2 : Int) < n14) ∧ g_O M b7 2 ∧ g_Call d 51 [.ref b7, g_n (g_i M a0 14), g_n (g_i M b12 v2), g_n 0] M (g_qI fun r21 M18 => g_ext M M18 → g_ok M18 → g_InR r21 → ∃ n23, g_A M18 b5 2 n23 ∧ ((0 : Int) ≤ v2 ∧ (v2 : Int) < n23) ∧ (r21 = 0 ∨ r21 = 1) ∧ (∀ M27, M27 = g_wi M18 b5 v2 r21 → g_ok M27 → ∃ b31, g_r M27 a0 10 = some b31 ∧ ∃ n33, g_A M27 b31 2 n33 ∧ ((0 : Int) ≤ v2 ∧ (v2 : Int) < n33) ∧ ((g_i M27 b31 v2 = 0 → g_InR (v1 + 0) ∧ g_InR (v2 + 1) ∧ g_Run d 214 41 [(0, .ref a0), (1, g_n (v1 + 0)), (2, g_n (v2 + 1))] [] M27 (g_qI Q)) ∧ (¬ g_i M27 b31 v2 = 0 → g_InR (v1 + 1) ∧ g_InR (v2 + 1) ∧ g_Run d 214 41 [(0, .ref a0), (1, g_n (v1 + 1)), (2, g_n (v2 + 1))] [] M27 (g_qI Q)))))) ∧ (¬ v2 < g_i M b2 6 → Q v1 M))) : g_Run d 214 41 [(0, .ref a0), (1, g_n v1), (2, g_n v2)] [] M (g_qI Q) := by
  refine g_Run.ok fun hok => ?_
  replace h := h hok
  refine r_iload_n x_214_41 rfl ?_
  refine r_aload_n x_214_42 rfl ?_
  obtain ⟨hO1, h⟩ := h
  obtain ⟨b2, hb3, h⟩ := h
  refine r_getR x_214_43 rfl (ci := 11) (k := 16) (ns := 0) (by decide +kernel) (by decide) rfl (kz := 16) rfl hO1 hb3 ?_
  obtain ⟨hO4, h⟩ := h
  refine r_getI x_214_46 rfl (ci := 8) (k := 6) (ns := 1) (by decide +kernel) (by decide) rfl (kz := 6) rfl hO4 ?_
  refine r_ic_ge x_214_49 (t := 102) (by decide +kernel) hv2 (hok.1 _ _) (fun hc => ?_) (fun hc => ?_)
  · replace h := h.2 hc
    refine r_iload_n x_214_102 rfl ?_
    exact r_retI x_214_103 rfl hv1 h
  · replace h := h.1 hc
    refine r_aload_n x_214_52 rfl ?_
    obtain ⟨b5, hb6, h⟩ := h
    refine r_getR x_214_53 rfl (ci := 11) (k := 10) (ns := 0) (by decide +kernel) (by decide) rfl (kz := 10) rfl hO1 hb6 ?_
    refine r_iload_n x_214_56 rfl ?_
    refine r_aload_n x_214_57 rfl ?_
    obtain ⟨b7, hb8, h⟩ := h
    refine r_getR x_214_58 rfl (ci := 11) (k := 3) (ns := 0) (by decide +kernel) (by decide) rfl (kz := 3) rfl hO1 hb8 ?_
    refine r_aload_n x_214_61 rfl ?_
    refine r_getI x_214_62 rfl (ci := 11) (k := 14) (ns := 0) (by decide +kernel) (by decide) rfl (kz := 14) rfl hO1 ?_
    refine r_aload_n x_214_65 rfl ?_
    obtain ⟨b9, hb10, h⟩ := h
    refine r_getR x_214_66 rfl (ci := 11) (k := 16) (ns := 0) (by decide +kernel) (by decide) rfl (kz := 16) rfl hO1 hb10 ?_
    obtain ⟨hO11, h⟩ := h
    obtain ⟨b12, hb13, h⟩ := h
    refine r_getR x_214_69 rfl (ci := 8) (k := 2) (ns := 1) (by decide +kernel) (by decide) rfl (kz := 2) rfl hO11 hb13 ?_
    refine r_iload_n x_214_72 rfl ?_
    obtain ⟨n14, hA15, h⟩ := h
    obtain ⟨h16, h⟩ := h
    refine r_iald x_214_73 hA15 hv2 h16.1 h16.2 ?_
    refine r_iconst x_214_74 ?_
    obtain ⟨hO17, h⟩ := h
    refine r_invV x_214_75 (z := 51) (ns := 1) (by decide +kernel) (as := [g_n (g_i M a0 14), g_n (g_i M b12 v2), g_n 0]) (r := [g_n v2, .ref b5]) rfl rfl rfl hO17 rfl rfl ?_
    refine r_callI h fun r21 M18 hx19 hok20 hr22 h => ?_
    replace h := h hx19 hok20 hr22
    replace hO1 := hO1.up hx19
    replace hO4 := hO4.up hx19
    replace hO11 := hO11.up hx19
    replace hO17 := hO17.up hx19
    replace hA15 := hA15.up hx19
    obtain ⟨n23, hA24, h⟩ := h
    obtain ⟨h25, h⟩ := h
    obtain ⟨h26, h⟩ := h
    refine r_bast2 x_214_78 hA24 hv2 h25.1 h25.2 h26 ?_
    obtain ⟨M27, hM28⟩ : ∃ Mz, Mz = g_wi M18 b5 v2 r21 := ⟨_, rfl⟩
    rw [← hM28]
    refine g_Run.ok fun hok29 => ?_
    replace h := h M27 hM28 hok29
    have hx30 := g_extW hM28
    replace hO1 := hO1.up hx30
    replace hO4 := hO4.up hx30
    replace hO11 := hO11.up hx30
    replace hO17 := hO17.up hx30
    replace hA15 := hA15.up hx30
    replace hA24 := hA24.up hx30
    refine r_iload_n x_214_79 rfl ?_
    refine r_aload_n x_214_80 rfl ?_
    obtain ⟨b31, hb32, h⟩ := h
    refine r_getR x_214_81 rfl (ci := 11) (k := 10) (ns := 0) (by decide +kernel) (by decide) rfl (kz := 10) rfl hO1 hb32 ?_
    refine r_iload_n x_214_84 rfl ?_
    obtain ⟨n33, hA34, h⟩ := h
    obtain ⟨h35, h⟩ := h
    refine r_bald x_214_85 (Or.inr rfl) hA34 hv2 h35.1 h35.2 ?_
    refine r_if_eq x_214_86 (t := 93) (by decide +kernel) (hok29.1 _ _) (fun hc => ?_) (fun hc => ?_)
    · replace h := h.1 hc
      refine r_iconst x_214_93 ?_
      refine r_iadd x_214_94 ?_
      obtain ⟨h36, h⟩ := h
      refine r_istore_n x_214_95 (by decide +kernel) rfl (lv1 := [(0, .ref a0), (1, g_n (v1 + 0)), (2, g_n v2)]) rfl ?_
      obtain ⟨h37, h⟩ := h
      refine r_iinc x_214_96 (by decide +kernel) rfl rfl (lv1 := [(0, .ref a0), (1, g_n (v1 + 0)), (2, g_n (v2 + 1))]) rfl ?_
      refine r_goto x_214_99 (t := 41) (by decide +kernel) ?_
      exact h
    · replace h := h.2 hc
      refine r_iconst x_214_89 ?_
      refine r_goto x_214_90 (t := 94) (by decide +kernel) ?_
      refine r_iadd x_214_94 ?_
      obtain ⟨h38, h⟩ := h
      refine r_istore_n x_214_95 (by decide +kernel) rfl (lv1 := [(0, .ref a0), (1, g_n (v1 + 1)), (2, g_n v2)]) rfl ?_
      obtain ⟨h39, h⟩ := h
      refine r_iinc x_214_96 (by decide +kernel) rfl rfl (lv1 := [(0, .ref a0), (1, g_n (v1 + 1)), (2, g_n (v2 + 1))]) rfl ?_
      refine r_goto x_214_99 (t := 41) (by decide +kernel) ?_
      exact h
theorem m_X11_find {d : Nat} {M : g_M} {Q : g_M → Prop} {a0 : Nat} (h : g_ok M → g_O M a0 11 ∧ g_Call d 214 [.ref a0] M (g_qI fun r5 M2 => g_ext M M2 → g_ok M2 → g_InR r5 → ((r5 < 0 → Q M2) ∧ (¬ r5 < 0 → ∃ b7, g_r M2 a0 1 = some b7 ∧ g_O M2 b7 4 ∧ g_Call d 87 [.ref b7, .ref (4 * 29 + 1), g_n r5] M2 (g_qV fun M10 => g_ext M2 M10 → g_ok M10 → ∃ b13, g_r M10 a0 1 = some b13 ∧ g_O M10 b13 4 ∧ g_Call d 81 [.ref b13, g_n 4, .ref (4 * 30 + 1)] M10 (g_qV fun M16 => g_ext M10 M16 → g_ok M16 → ∃ b19, g_r M16 a0 1 = some b19 ∧ g_O M16 b19 4 ∧ g_Call d 85 [.ref b19] M16 (g_qI fun r25 M22 => g_ext M16 M22 → g_ok M22 → g_InR r25 → g_Run d 215 45 [(0, .ref a0), (1, g_n r5), (2, g_n r25), (3, g_n 0), (4, g_n 0)] [] M22 (g_qV Q)))))))) : g_Call (d + 1) 215 [.ref a0] M (g_qV Q) := by
  refine g_Call.ok fun hok0 => ?_
  replace h := h hok0
  refine r_body rfl (lv := [(0, .ref a0)]) rfl ?_
  refine g_Run.ok fun hok => ?_
  refine r_aload_n x_215_0 rfl ?_
  obtain ⟨hO1, h⟩ := h
  refine r_invV x_215_1 (z := 214) (ns := 0) (by decide +kernel) (as := []) (r := []) rfl rfl rfl hO1 rfl rfl ?_
  refine r_callI h fun r5 M2 hx3 hok4 hr6 h => ?_
  replace h := h hx3 hok4 hr6
  replace hO1 := hO1.up hx3
  refine r_istore_n x_215_4 (by decide +kernel) rfl (lv1 := [(0, .ref a0), (1, g_n r5)]) rfl ?_
  refine r_iload_n x_215_5 rfl ?_
  refine r_if_ge x_215_6 (t := 10) (by decide +kernel) hr6 (fun hc => ?_) (fun hc => ?_)
  · replace h := h.2 hc
    refine r_aload_n x_215_10 rfl ?_
    obtain ⟨b7, hb8, h⟩ := h
    refine r_getR x_215_11 rfl (ci := 11) (k := 1) (ns := 0) (by decide +kernel) (by decide) rfl (kz := 1) rfl hO1 hb8 ?_
    refine r_ldcw x_215_14 (v := .ref (4 * 29 + 1)) rfl ?_
    refine r_iload_n x_215_17 rfl ?_
    obtain ⟨hO9, h⟩ := h
    refine r_invV x_215_18 (z := 87) (ns := 1) (by decide +kernel) (as := [.ref (4 * 29 + 1), g_n r5]) (r := []) rfl rfl rfl hO9 rfl rfl ?_
    refine r_callV h fun M10 hx11 hok12 h => ?_
    replace h := h hx11 hok12
    replace hO1 := hO1.up hx11
    replace hO9 := hO9.up hx11
    refine r_aload_n x_215_21 rfl ?_
    obtain ⟨b13, hb14, h⟩ := h
    refine r_getR x_215_22 rfl (ci := 11) (k := 1) (ns := 0) (by decide +kernel) (by decide) rfl (kz := 1) rfl hO1 hb14 ?_
    refine r_iconst x_215_25 ?_
    refine r_ldcw x_215_26 (v := .ref (4 * 30 + 1)) rfl ?_
    obtain ⟨hO15, h⟩ := h
    refine r_invV x_215_29 (z := 81) (ns := 1) (by decide +kernel) (as := [g_n 4, .ref (4 * 30 + 1)]) (r := []) rfl rfl rfl hO15 rfl rfl ?_
    refine r_callV h fun M16 hx17 hok18 h => ?_
    replace h := h hx17 hok18
    replace hO1 := hO1.up hx17
    replace hO9 := hO9.up hx17
    replace hO15 := hO15.up hx17
    refine r_aload_n x_215_32 rfl ?_
    obtain ⟨b19, hb20, h⟩ := h
    refine r_getR x_215_33 rfl (ci := 11) (k := 1) (ns := 0) (by decide +kernel) (by decide) rfl (kz := 1) rfl hO1 hb20 ?_
    obtain ⟨hO21, h⟩ := h
    refine r_invV x_215_36 (z := 85) (ns := 1) (by decide +kernel) (as := []) (r := []) rfl rfl rfl hO21 rfl rfl ?_
    refine r_callI h fun r25 M22 hx23 hok24 hr26 h => ?_
    replace h := h hx23 hok24 hr26
    replace hO1 := hO1.up hx23
    replace hO9 := hO9.up hx23
    replace hO15 := hO15.up hx23
    replace hO21 := hO21.up hx23
    refine r_istore_n x_215_39 (by decide +kernel) rfl (lv1 := [(0, .ref a0), (1, g_n r5), (2, g_n r25)]) rfl ?_
    refine r_iconst x_215_40 ?_
    refine r_istore_n x_215_41 (by decide +kernel) rfl (lv1 := [(0, .ref a0), (1, g_n r5), (2, g_n r25), (3, g_n 0)]) rfl ?_
    refine r_iconst x_215_42 ?_
    refine r_istore x_215_43 (by decide +kernel) rfl (lv1 := [(0, .ref a0), (1, g_n r5), (2, g_n r25), (3, g_n 0), (4, g_n 0)]) rfl ?_
    exact h
  · replace h := h.1 hc
    exact r_retV x_215_9 rfl h
theorem s_X11_find_45 {d : Nat} {M : g_M} {Q : g_M → Prop} {a0 : Nat} {v1 : Int} (hv1 : g_InR v1) {v2 : Int} (hv2 : g_InR v2) {v3 : Int} (hv3 : g_InR v3) {v4 : Int} (hv4 : g_InR v4) (h : g_ok M → g_O M a0 11 ∧ ∃ b2, g_r M a0 16 = some b2 ∧ g_O M b2 8 ∧ ((v4 < g_i M b2 6 → ∃ b11, g_r M a0 10 = some b11 ∧ ∃ n13, g_A M b11 2 n13 ∧ ((0 : Int) ≤ v4 ∧ (v4 : Int) < n13) ∧ ((g_i M b11 v4 = 0 → g_InR (v4 + 1) ∧ g_Run d 215 45 [(0, .ref a0), (1, g_n v1), (2, g_n v2), (3, g_n v3), (4, g_n (v4 + 1))] [] M (g_qV Q)) ∧ (¬ g_i M b11 v4 = 0 → ∃ b16, g_r M a0 1 = some b16 ∧ g_O M b16 4 ∧ g_Call d 83 [.ref b16, g_n 3, g_n v3] M (g_qV fun M19 => g_ext M M19 → g_ok M19 → ∃ b22, g_r M19 a0 1 = some b22 ∧ g_O M19 b22 4 ∧ g_Call d 85 [.ref b22] M19 (g_qI fun r28 M25 => g_ext M19 M25 → g_ok M25 → g_InR r28 → ∃ b30, g_r M25 a0 1 = some b30 ∧ ∃ b32, g_r M25 a0 16 = some b32 ∧ g_O M25 b32 8 ∧ ∃ b35, g_r M25 b32 3 = some b35 ∧ ∃ n37, g_A M25 b35 1 n37 ∧ ((0 : Int) ≤ v4 ∧ (v4 : Int) < n37) ∧ g_O M25 b30 4 ∧ g_Call d 87 [.ref b30, .ref (4 * 13 + 1), g_n (g_i M25 b35 v4)] M25 (g_qV fun M41 => g_ext M25 M41 → g_ok M41 → ∃ b44, g_r M41 a0 1 = some b44 ∧ g_O M41 b44 4 ∧ g_Call d 81 [.ref b44, g_n 3, .ref (4 * 31 + 1)] M41 (g_qV fun M47 => g_ext M41 M47 → g_ok M47 → ∃ b50, g_r M47 a0 1 = some b50 ∧ ∃ b52, g_r M47 a0 0 = some b52 ∧ ∃ b54, g_r M47 a0 16 = some b54 ∧ g_O M47 b54 8 ∧ ∃ b57, g_r M47 b54 2 = some b57 ∧ ∃ n59, g_A M47 b57 1 n59 ∧ ((0 : Int) ≤ v4 ∧ (v4 : Int) < n59) ∧ g_O M47 b50 4 ∧ g_Call d 84 [.ref b50, .ref b52, g_n (g_i M47 b57 v4)] M47 (g_qV fun M63 => g_ext M47 M63 → g_ok M63 → ∃ b66, g_r M63 a0 1 = some b66 ∧ g_O M63 b66 4 ∧ g_Call d 86 [.ref b66, g_n r28] M63 (g_qV fun M69 => g_ext M63 M69 → g_ok M69 → g_InR (v3 + 1) ∧ g_InR (v4 + 1) ∧ g_Run d 215 45 [(0, .ref a0), (1, g_n v1), (2, g_n v2), (3, g_n (v3 + 1)), (4, g_n (v4 + 1))] [] M69 (g_qV Q)))))))))) ∧ (¬ v4 < g_i M b2 6 → ∃ b5, g_r M a0 1 = some b5 ∧ g_O M b5 4 ∧ g_Call d 86 [.ref b5, g_n v2] M (g_qV fun M8 => g_ext M M8 → g_ok M8 → Q M8)))) : g_Run d 215 45 [(0, .ref a0), (1, g_n v1), (2, g_n v2), (3, g_n v3), (4, g_n v4)] [] M (g_qV Q) := by
  refine g_Run.ok fun hok => ?_
  replace h := h hok
  refine r_iload x_215_45 rfl ?_
  refine r_aload_n x_215_47 rfl ?_
  obtain ⟨hO1, h⟩ := h
  obtain ⟨b2, hb3, h⟩ := h
  refine r_getR x_215_48 rfl (ci := 11) (k := 16) (ns := 0) (by decide +kernel) (by decide) rfl (kz := 16) rfl hO1 hb3 ?_
  obtain ⟨hO4, h⟩ := h
  refine r_getI x_215_51 rfl (ci := 8) (k := 6) (ns := 1) (by decide +kernel) (by decide) rfl (kz := 6) rfl hO4 ?_
  refine r_ic_ge x_215_54 (t := 158) (by decide +kernel) hv4 (hok.1 _ _) (fun hc => ?_) (fun hc => ?_)
  · replace h := h.2 hc
    refine r_aload_n x_215_158 rfl ?_
    obtain ⟨b5, hb6, h⟩ := h
    refine r_getR x_215_159 rfl (ci := 11) (k := 1) (ns := 0) (by decide +kernel) (by decide) rfl (kz := 1) rfl hO1 hb6 ?_
    refine r_iload_n x_215_162 rfl ?_
    obtain ⟨hO7, h⟩ := h
    refine r_invV x_215_163 (z := 86) (ns := 1) (by decide +kernel) (as := [g_n v2]) (r := []) rfl rfl rfl hO7 rfl rfl ?_
    refine r_callV h fun M8 hx9 hok10 h => ?_
    replace h := h hx9 hok10
    replace hO1 := hO1.up hx9
    replace hO4 := hO4.up hx9
    replace hO7 := hO7.up hx9
    exact r_retV x_215_166 rfl h
  · replace h := h.1 hc
    refine r_aload_n x_215_57 rfl ?_
    obtain ⟨b11, hb12, h⟩ := h
    refine r_getR x_215_58 rfl (ci := 11) (k := 10) (ns := 0) (by decide +kernel) (by decide) rfl (kz := 10) rfl hO1 hb12 ?_
    refine r_iload x_215_61 rfl ?_
    obtain ⟨n13, hA14, h⟩ := h
    obtain ⟨h15, h⟩ := h
    refine r_bald x_215_63 (Or.inr rfl) hA14 hv4 h15.1 h15.2 ?_
    refine r_if_ne x_215_64 (t := 70) (by decide +kernel) (hok.1 _ _) (fun hc => ?_) (fun hc => ?_)
    · replace h := h.2 hc
      refine r_aload_n x_215_70 rfl ?_
      obtain ⟨b16, hb17, h⟩ := h
      refine r_getR x_215_71 rfl (ci := 11) (k := 1) (ns := 0) (by decide +kernel) (by decide) rfl (kz := 1) rfl hO1 hb17 ?_
      refine r_iconst x_215_74 ?_
      refine r_iload_n x_215_75 rfl ?_
      obtain ⟨hO18, h⟩ := h
      refine r_invV x_215_76 (z := 83) (ns := 1) (by decide +kernel) (as := [g_n 3, g_n v3]) (r := []) rfl rfl rfl hO18 rfl rfl ?_
      refine r_callV h fun M19 hx20 hok21 h => ?_
      replace h := h hx20 hok21
      replace hO1 := hO1.up hx20
      replace hO4 := hO4.up hx20
      replace hO18 := hO18.up hx20
      replace hA14 := hA14.up hx20
      refine r_aload_n x_215_79 rfl ?_
      obtain ⟨b22, hb23, h⟩ := h
      refine r_getR x_215_80 rfl (ci := 11) (k := 1) (ns := 0) (by decide +kernel) (by decide) rfl (kz := 1) rfl hO1 hb23 ?_
      obtain ⟨hO24, h⟩ := h
      refine r_invV x_215_83 (z := 85) (ns := 1) (by decide +kernel) (as := []) (r := []) rfl rfl rfl hO24 rfl rfl ?_
      refine r_callI h fun r28 M25 hx26 hok27 hr29 h => ?_
      replace h := h hx26 hok27 hr29
      replace hO1 := hO1.up hx26
      replace hO4 := hO4.up hx26
      replace hO18 := hO18.up hx26
      replace hO24 := hO24.up hx26
      replace hA14 := hA14.up hx26
      refine r_istore x_215_86 (by decide +kernel) rfl (lv1 := [(0, .ref a0), (1, g_n v1), (2, g_n v2), (3, g_n v3), (4, g_n v4), (5, g_n r28)]) rfl ?_
      refine r_aload_n x_215_88 rfl ?_
      obtain ⟨b30, hb31, h⟩ := h
      refine r_getR x_215_89 rfl (ci := 11) (k := 1) (ns := 0) (by decide +kernel) (by decide) rfl (kz := 1) rfl hO1 hb31 ?_
      refine r_ldcw x_215_92 (v := .ref (4 * 13 + 1)) rfl ?_
      refine r_aload_n x_215_95 rfl ?_
      obtain ⟨b32, hb33, h⟩ := h
      refine r_getR x_215_96 rfl (ci := 11) (k := 16) (ns := 0) (by decide +kernel) (by decide) rfl (kz := 16) rfl hO1 hb33 ?_
      obtain ⟨hO34, h⟩ := h
      obtain ⟨b35, hb36, h⟩ := h
      refine r_getR x_215_99 rfl (ci := 8) (k := 3) (ns := 1) (by decide +kernel) (by decide) rfl (kz := 3) rfl hO34 hb36 ?_
      refine r_iload x_215_102 rfl ?_
      obtain ⟨n37, hA38, h⟩ := h
      obtain ⟨h39, h⟩ := h
      refine r_iald x_215_104 hA38 hv4 h39.1 h39.2 ?_
      obtain ⟨hO40, h⟩ := h
      refine r_invV x_215_105 (z := 87) (ns := 1) (by decide +kernel) (as := [.ref (4 * 13 + 1), g_n (g_i M25 b35 v4)]) (r := []) rfl rfl rfl hO40 rfl rfl ?_
      refine r_callV h fun M41 hx42 hok43 h => ?_
      replace h := h hx42 hok43
      replace hO1 := hO1.up hx42
      replace hO4 := hO4.up hx42
      replace hO18 := hO18.up hx42
      replace hO24 := hO24.up hx42
      replace hO34 := hO34.up hx42
      replace hO40 := hO40.up hx42
      replace hA14 := hA14.up hx42
      replace hA38 := hA38.up hx42
      refine r_aload_n x_215_108 rfl ?_
      obtain ⟨b44, hb45, h⟩ := h
      refine r_getR x_215_109 rfl (ci := 11) (k := 1) (ns := 0) (by decide +kernel) (by decide) rfl (kz := 1) rfl hO1 hb45 ?_
      refine r_iconst x_215_112 ?_
      refine r_ldcw x_215_113 (v := .ref (4 * 31 + 1)) rfl ?_
      obtain ⟨hO46, h⟩ := h
      refine r_invV x_215_116 (z := 81) (ns := 1) (by decide +kernel) (as := [g_n 3, .ref (4 * 31 + 1)]) (r := []) rfl rfl rfl hO46 rfl rfl ?_
      refine r_callV h fun M47 hx48 hok49 h => ?_
      replace h := h hx48 hok49
      replace hO1 := hO1.up hx48
      replace hO4 := hO4.up hx48
      replace hO18 := hO18.up hx48
      replace hO24 := hO24.up hx48
      replace hO34 := hO34.up hx48
      replace hO40 := hO40.up hx48
      replace hO46 := hO46.up hx48
      replace hA14 := hA14.up hx48
      replace hA38 := hA38.up hx48
      refine r_aload_n x_215_119 rfl ?_
      obtain ⟨b50, hb51, h⟩ := h
      refine r_getR x_215_120 rfl (ci := 11) (k := 1) (ns := 0) (by decide +kernel) (by decide) rfl (kz := 1) rfl hO1 hb51 ?_
      refine r_aload_n x_215_123 rfl ?_
      obtain ⟨b52, hb53, h⟩ := h
      refine r_getR x_215_124 rfl (ci := 11) (k := 0) (ns := 0) (by decide +kernel) (by decide) rfl (kz := 0) rfl hO1 hb53 ?_
      refine r_aload_n x_215_127 rfl ?_
      obtain ⟨b54, hb55, h⟩ := h
      refine r_getR x_215_128 rfl (ci := 11) (k := 16) (ns := 0) (by decide +kernel) (by decide) rfl (kz := 16) rfl hO1 hb55 ?_
      obtain ⟨hO56, h⟩ := h
      obtain ⟨b57, hb58, h⟩ := h
      refine r_getR x_215_131 rfl (ci := 8) (k := 2) (ns := 1) (by decide +kernel) (by decide) rfl (kz := 2) rfl hO56 hb58 ?_
      refine r_iload x_215_134 rfl ?_
      obtain ⟨n59, hA60, h⟩ := h
      obtain ⟨h61, h⟩ := h
      refine r_iald x_215_136 hA60 hv4 h61.1 h61.2 ?_
      obtain ⟨hO62, h⟩ := h
      refine r_invV x_215_137 (z := 84) (ns := 1) (by decide +kernel) (as := [.ref b52, g_n (g_i M47 b57 v4)]) (r := []) rfl rfl rfl hO62 rfl rfl ?_
      refine r_callV h fun M63 hx64 hok65 h => ?_
      replace h := h hx64 hok65
      replace hO1 := hO1.up hx64
      replace hO4 := hO4.up hx64
      replace hO18 := hO18.up hx64
      replace hO24 := hO24.up hx64
      replace hO34 := hO34.up hx64
      replace hO40 := hO40.up hx64
      replace hO46 := hO46.up hx64
      replace hO56 := hO56.up hx64
      replace hO62 := hO62.up hx64
      replace hA14 := hA14.up hx64
      replace hA38 := hA38.up hx64
      replace hA60 := hA60.up hx64
      refine r_aload_n x_215_140 rfl ?_
      obtain ⟨b66, hb67, h⟩ := h
      refine r_getR x_215_141 rfl (ci := 11) (k := 1) (ns := 0) (by decide +kernel) (by decide) rfl (kz := 1) rfl hO1 hb67 ?_
      refine r_iload x_215_144 rfl ?_
      obtain ⟨hO68, h⟩ := h
      refine r_invV x_215_146 (z := 86) (ns := 1) (by decide +kernel) (as := [g_n r28]) (r := []) rfl rfl rfl hO68 rfl rfl ?_
      refine r_callV h fun M69 hx70 hok71 h => ?_
      replace h := h hx70 hok71
      replace hO1 := hO1.up hx70
      replace hO4 := hO4.up hx70
      replace hO18 := hO18.up hx70
      replace hO24 := hO24.up hx70
      replace hO34 := hO34.up hx70
      replace hO40 := hO40.up hx70
      replace hO46 := hO46.up hx70
      replace hO56 := hO56.up hx70
      replace hO62 := hO62.up hx70
      replace hO68 := hO68.up hx70
      replace hA14 := hA14.up hx70
      replace hA38 := hA38.up hx70
      replace hA60 := hA60.up hx70
      obtain ⟨h72, h⟩ := h
      refine r_iinc x_215_149 (by decide +kernel) rfl rfl (lv1 := [(0, .ref a0), (1, g_n v1), (2, g_n v2), (3, g_n (v3 + 1)), (4, g_n v4), (5, g_n r28)]) rfl ?_
      obtain ⟨h73, h⟩ := h
      refine r_iinc x_215_152 (by decide +kernel) rfl rfl (lv1 := [(0, .ref a0), (1, g_n v1), (2, g_n v2), (3, g_n (v3 + 1)), (4, g_n (v4 + 1)), (5, g_n r28)]) rfl ?_
      refine r_goto x_215_155 (t := 45) (by decide +kernel) ?_
      refine g_drop [0, 1, 2, 3, 4] (lv1 := [(0, .ref a0), (1, g_n v1), (2, g_n v2), (3, g_n (v3 + 1)), (4, g_n (v4 + 1))]) rfl ?_
      exact h
    · replace h := h.1 hc
      refine r_goto x_215_67 (t := 152) (by decide +kernel) ?_
      obtain ⟨h74, h⟩ := h
      refine r_iinc x_215_152 (by decide +kernel) rfl rfl (lv1 := [(0, .ref a0), (1, g_n v1), (2, g_n v2), (3, g_n v3), (4, g_n (v4 + 1))]) rfl ?_
      refine r_goto x_215_155 (t := 45) (by decide +kernel) ?_
      exact h
theorem m_X11_count {d : Nat} {M : g_M} {Q : g_M → Prop} {a0 : Nat} (h : g_ok M → g_O M a0 11 ∧ g_Call d 214 [.ref a0] M (g_qI fun r5 M2 => g_ext M M2 → g_ok M2 → g_InR r5 → ((r5 < 0 → Q M2) ∧ (¬ r5 < 0 → ∃ b7, g_r M2 a0 1 = some b7 ∧ g_O M2 b7 4 ∧ g_Call d 87 [.ref b7, .ref (4 * 29 + 1), g_n r5] M2 (g_qV fun M10 => g_ext M2 M10 → g_ok M10 → Q M10))))) : g_Call (d + 1) 216 [.ref a0] M (g_qV Q) := by
  refine g_Call.ok fun hok0 => ?_
  replace h := h hok0
  refine r_body rfl (lv := [(0, .ref a0)]) rfl ?_
  refine g_Run.ok fun hok => ?_
  refine r_aload_n x_216_0 rfl ?_
  obtain ⟨hO1, h⟩ := h
  refine r_invV x_216_1 (z := 214) (ns := 0) (by decide +kernel) (as := []) (r := []) rfl rfl rfl hO1 rfl rfl ?_
  refine r_callI h fun r5 M2 hx3 hok4 hr6 h => ?_
  replace h := h hx3 hok4 hr6
  replace hO1 := hO1.up hx3
  refine r_istore_n x_216_4 (by decide +kernel) rfl (lv1 := [(0, .ref a0), (1, g_n r5)]) rfl ?_
  refine r_iload_n x_216_5 rfl ?_
  refine r_if_lt x_216_6 (t := 20) (by decide +kernel) hr6 (fun hc => ?_) (fun hc => ?_)
  · replace h := h.1 hc
    exact r_retV x_216_20 rfl h
  · replace h := h.2 hc
    refine r_aload_n x_216_9 rfl ?_
    obtain ⟨b7, hb8, h⟩ := h
    refine r_getR x_216_10 rfl (ci := 11) (k := 1) (ns := 0) (by decide +kernel) (by decide) rfl (kz := 1) rfl hO1 hb8 ?_
    refine r_ldcw x_216_13 (v := .ref (4 * 29 + 1)) rfl ?_
    refine r_iload_n x_216_16 rfl ?_
    obtain ⟨hO9, h⟩ := h
    refine r_invV x_216_17 (z := 87) (ns := 1) (by decide +kernel) (as := [.ref (4 * 29 + 1), g_n r5]) (r := []) rfl rfl rfl hO9 rfl rfl ?_
    refine r_callV h fun M10 hx11 hok12 h => ?_
    replace h := h hx11 hok12
    replace hO1 := hO1.up hx11
    replace hO9 := hO9.up hx11
    exact r_retV x_216_20 rfl h
theorem m_X11_delete {d : Nat} {M : g_M} {Q : g_M → Prop} {a0 : Nat} (h : g_ok M → g_O M a0 11 ∧ g_Call d 214 [.ref a0] M (g_qI fun r5 M2 => g_ext M M2 → g_ok M2 → g_InR r5 → ((r5 < 0 → Q M2) ∧ (¬ r5 < 0 → g_Run d 217 12 [(0, .ref a0), (1, g_n r5), (2, g_n 0)] [] M2 (g_qV Q))))) : g_Call (d + 1) 217 [.ref a0] M (g_qV Q) := by
  refine g_Call.ok fun hok0 => ?_
  replace h := h hok0
  refine r_body rfl (lv := [(0, .ref a0)]) rfl ?_
  refine g_Run.ok fun hok => ?_
  refine r_aload_n x_217_0 rfl ?_
  obtain ⟨hO1, h⟩ := h
  refine r_invV x_217_1 (z := 214) (ns := 0) (by decide +kernel) (as := []) (r := []) rfl rfl rfl hO1 rfl rfl ?_
  refine r_callI h fun r5 M2 hx3 hok4 hr6 h => ?_
  replace h := h hx3 hok4 hr6
  replace hO1 := hO1.up hx3
  refine r_istore_n x_217_4 (by decide +kernel) rfl (lv1 := [(0, .ref a0), (1, g_n r5)]) rfl ?_
  refine r_iload_n x_217_5 rfl ?_
  refine r_if_ge x_217_6 (t := 10) (by decide +kernel) hr6 (fun hc => ?_) (fun hc => ?_)
  · replace h := h.2 hc
    refine r_iconst x_217_10 ?_
    refine r_istore_n x_217_11 (by decide +kernel) rfl (lv1 := [(0, .ref a0), (1, g_n r5), (2, g_n 0)]) rfl ?_
    exact h
  · replace h := h.1 hc
    exact r_retV x_217_9 rfl h
theorem s_X11_delete_12 {d : Nat} {M : g_M} {Q : g_M → Prop} {a0 : Nat} {v1 : Int} (hv1 : g_InR v1) {v2 : Int} (hv2 : g_InR v2) (h : g_ok M → ((v2 < 4 → g_O M a0 11 ∧ ∃ b17, g_r M a0 16 = some b17 ∧ g_O M b17 8 ∧ ∃ b20, g_r M b17 4 = some b20 ∧ ∃ n22, g_A M b20 3 n22 ∧ ((0 : Int) ≤ v2 ∧ (v2 : Int) < n22) ∧ ∃ b25, g_r M b20 v2 = some b25 ∧ ∃ b27, g_r M a0 16 = some b27 ∧ ∃ b29, g_r M a0 10 = some b29 ∧ g_O M b25 3 ∧ g_Call d 73 [.ref b25, .ref b27, .ref b29] M (g_qV fun M32 => g_ext M M32 → g_ok M32 → g_InR (v2 + 1) ∧ g_Run d 217 12 [(0, .ref a0), (1, g_n v1), (2, g_n (v2 + 1))] [] M32 (g_qV Q))) ∧ (¬ v2 < 4 → g_O M a0 11 ∧ ∃ b2, g_r M a0 16 = some b2 ∧ ∃ b4, g_r M a0 10 = some b4 ∧ g_O M b2 8 ∧ g_Call d 130 [.ref b2, .ref b4] M (g_qV fun M7 => g_ext M M7 → g_ok M7 → ∃ b10, g_r M7 a0 1 = some b10 ∧ g_O M7 b10 4 ∧ g_Call d 87 [.ref b10, .ref (4 * 29 + 1), g_n v1] M7 (g_qV fun M13 => g_ext M7 M13 → g_ok M13 → Q M13))))) : g_Run d 217 12 [(0, .ref a0), (1, g_n v1), (2, g_n v2)] [] M (g_qV Q) := by
  refine g_Run.ok fun hok => ?_
  replace h := h hok
  refine r_iload_n x_217_12 rfl ?_
  refine r_iconst x_217_13 ?_
  refine r_ic_ge x_217_14 (t := 43) (by decide +kernel) hv2 (g_Rk rfl) (fun hc => ?_) (fun hc => ?_)
  · replace h := h.2 hc
    refine r_aload_n x_217_43 rfl ?_
    obtain ⟨hO1, h⟩ := h
    obtain ⟨b2, hb3, h⟩ := h
    refine r_getR x_217_44 rfl (ci := 11) (k := 16) (ns := 0) (by decide +kernel) (by decide) rfl (kz := 16) rfl hO1 hb3 ?_
    refine r_aload_n x_217_47 rfl ?_
    obtain ⟨b4, hb5, h⟩ := h
    refine r_getR x_217_48 rfl (ci := 11) (k := 10) (ns := 0) (by decide +kernel) (by decide) rfl (kz := 10) rfl hO1 hb5 ?_
    obtain ⟨hO6, h⟩ := h
    refine r_invV x_217_51 (z := 130) (ns := 1) (by decide +kernel) (as := [.ref b4]) (r := []) rfl rfl rfl hO6 rfl rfl ?_
    refine r_callV h fun M7 hx8 hok9 h => ?_
    replace h := h hx8 hok9
    replace hO1 := hO1.up hx8
    replace hO6 := hO6.up hx8
    refine r_aload_n x_217_54 rfl ?_
    obtain ⟨b10, hb11, h⟩ := h
    refine r_getR x_217_55 rfl (ci := 11) (k := 1) (ns := 0) (by decide +kernel) (by decide) rfl (kz := 1) rfl hO1 hb11 ?_
    refine r_ldcw x_217_58 (v := .ref (4 * 29 + 1)) rfl ?_
    refine r_iload_n x_217_61 rfl ?_
    obtain ⟨hO12, h⟩ := h
    refine r_invV x_217_62 (z := 87) (ns := 1) (by decide +kernel) (as := [.ref (4 * 29 + 1), g_n v1]) (r := []) rfl rfl rfl hO12 rfl rfl ?_
    refine r_callV h fun M13 hx14 hok15 h => ?_
    replace h := h hx14 hok15
    replace hO1 := hO1.up hx14
    replace hO6 := hO6.up hx14
    replace hO12 := hO12.up hx14
    exact r_retV x_217_65 rfl h
  · replace h := h.1 hc
    refine r_aload_n x_217_17 rfl ?_
    obtain ⟨hO16, h⟩ := h
    obtain ⟨b17, hb18, h⟩ := h
    refine r_getR x_217_18 rfl (ci := 11) (k := 16) (ns := 0) (by decide +kernel) (by decide) rfl (kz := 16) rfl hO16 hb18 ?_
    obtain ⟨hO19, h⟩ := h
    obtain ⟨b20, hb21, h⟩ := h
    refine r_getR x_217_21 rfl (ci := 8) (k := 4) (ns := 1) (by decide +kernel) (by decide) rfl (kz := 4) rfl hO19 hb21 ?_
    refine r_iload_n x_217_24 rfl ?_
    obtain ⟨n22, hA23, h⟩ := h
    obtain ⟨h24, h⟩ := h
    obtain ⟨b25, hb26, h⟩ := h
    refine r_aald x_217_25 (by decide) hA23 hv2 h24.1 h24.2 hb26 ?_
    refine r_aload_n x_217_26 rfl ?_
    obtain ⟨b27, hb28, h⟩ := h
    refine r_getR x_217_27 rfl (ci := 11) (k := 16) (ns := 0) (by decide +kernel) (by decide) rfl (kz := 16) rfl hO16 hb28 ?_
    refine r_aload_n x_217_30 rfl ?_
    obtain ⟨b29, hb30, h⟩ := h
    refine r_getR x_217_31 rfl (ci := 11) (k := 10) (ns := 0) (by decide +kernel) (by decide) rfl (kz := 10) rfl hO16 hb30 ?_
    obtain ⟨hO31, h⟩ := h
    refine r_invV x_217_34 (z := 73) (ns := 1) (by decide +kernel) (as := [.ref b27, .ref b29]) (r := []) rfl rfl rfl hO31 rfl rfl ?_
    refine r_callV h fun M32 hx33 hok34 h => ?_
    replace h := h hx33 hok34
    replace hO16 := hO16.up hx33
    replace hO19 := hO19.up hx33
    replace hO31 := hO31.up hx33
    replace hA23 := hA23.up hx33
    obtain ⟨h35, h⟩ := h
    refine r_iinc x_217_37 (by decide +kernel) rfl rfl (lv1 := [(0, .ref a0), (1, g_n v1), (2, g_n (v2 + 1))]) rfl ?_
    refine r_goto x_217_40 (t := 12) (by decide +kernel) ?_
    exact h
theorem m_X11_update {d : Nat} {M : g_M} {Q : g_M → Prop} {a0 : Nat} (h : g_ok M → g_O M a0 11 ∧ g_Call d 214 [.ref a0] M (g_qI fun r5 M2 => g_ext M M2 → g_ok M2 → g_InR r5 → ((r5 < 0 → Q M2) ∧ (¬ r5 < 0 → ∃ b7, g_r M2 a0 4 = some b7 ∧ g_O M2 b7 1 ∧ g_Call d 20 [.ref b7, g_n (g_i M2 a0 15)] M2 (g_qI fun r13 M10 => g_ext M2 M10 → g_ok M10 → g_InR r13 → ((r13 = 0 → ∃ b24, g_r M10 a0 4 = some b24 ∧ g_O M10 b24 1 ∧ g_InR (20 + (g_i M10 b24 7)) ∧ ∃ b28, g_r M10 a0 4 = some b28 ∧ g_O M10 b28 1 ∧ g_Call d 198 [.ref a0, g_n (20 + (g_i M10 b24 7)), g_n (g_i M10 b28 8)] M10 (g_qV fun M31 => g_ext M10 M31 → g_ok M31 → Q M31)) ∧ (¬ r13 = 0 → ∃ b15, g_r M10 a0 16 = some b15 ∧ g_O M10 b15 8 ∧ ∃ b18, g_r M10 b15 5 = some b18 ∧ g_O M10 b18 4 ∧ g_Call d 75 [.ref b18, g_n 82808, g_n 123208] M10 (g_qV fun M21 => g_ext M10 M21 → g_ok M21 → g_Run d 218 72 [(0, .ref a0), (1, g_n r5), (2, .ref b18), (3, g_n 0), (4, g_n 0), (5, g_n 0)] [] M21 (g_qV Q))))))))) : g_Call (d + 1) 218 [.ref a0] M (g_qV Q) := by
  refine g_Call.ok fun hok0 => ?_
  replace h := h hok0
  refine r_body rfl (lv := [(0, .ref a0)]) rfl ?_
  refine g_Run.ok fun hok => ?_
  refine r_aload_n x_218_0 rfl ?_
  obtain ⟨hO1, h⟩ := h
  refine r_invV x_218_1 (z := 214) (ns := 0) (by decide +kernel) (as := []) (r := []) rfl rfl rfl hO1 rfl rfl ?_
  refine r_callI h fun r5 M2 hx3 hok4 hr6 h => ?_
  replace h := h hx3 hok4 hr6
  replace hO1 := hO1.up hx3
  refine r_istore_n x_218_4 (by decide +kernel) rfl (lv1 := [(0, .ref a0), (1, g_n r5)]) rfl ?_
  refine r_iload_n x_218_5 rfl ?_
  refine r_if_ge x_218_6 (t := 10) (by decide +kernel) hr6 (fun hc => ?_) (fun hc => ?_)
  · replace h := h.2 hc
    refine r_aload_n x_218_10 rfl ?_
    obtain ⟨b7, hb8, h⟩ := h
    refine r_getR x_218_11 rfl (ci := 11) (k := 4) (ns := 0) (by decide +kernel) (by decide) rfl (kz := 4) rfl hO1 hb8 ?_
    refine r_aload_n x_218_14 rfl ?_
    refine r_getI x_218_15 rfl (ci := 11) (k := 15) (ns := 0) (by decide +kernel) (by decide) rfl (kz := 15) rfl hO1 ?_
    obtain ⟨hO9, h⟩ := h
    refine r_invV x_218_18 (z := 20) (ns := 1) (by decide +kernel) (as := [g_n (g_i M2 a0 15)]) (r := []) rfl rfl rfl hO9 rfl rfl ?_
    refine r_callI h fun r13 M10 hx11 hok12 hr14 h => ?_
    replace h := h hx11 hok12 hr14
    replace hO1 := hO1.up hx11
    replace hO9 := hO9.up hx11
    refine r_if_ne x_218_21 (t := 46) (by decide +kernel) hr14 (fun hc => ?_) (fun hc => ?_)
    · replace h := h.2 hc
      refine r_aload_n x_218_46 rfl ?_
      obtain ⟨b15, hb16, h⟩ := h
      refine r_getR x_218_47 rfl (ci := 11) (k := 16) (ns := 0) (by decide +kernel) (by decide) rfl (kz := 16) rfl hO1 hb16 ?_
      obtain ⟨hO17, h⟩ := h
      obtain ⟨b18, hb19, h⟩ := h
      refine r_getR x_218_50 rfl (ci := 8) (k := 5) (ns := 1) (by decide +kernel) (by decide) rfl (kz := 5) rfl hO17 hb19 ?_
      refine r_astore_n x_218_53 (o := (some b18)) (by decide +kernel) rfl (lv1 := [(0, .ref a0), (1, g_n r5), (2, .ref b18)]) rfl ?_
      refine r_aload_n x_218_54 rfl ?_
      refine r_ldcw x_218_55 (v := g_n 82808) rfl ?_
      refine r_ldcw x_218_58 (v := g_n 123208) rfl ?_
      obtain ⟨hO20, h⟩ := h
      refine r_invV x_218_61 (z := 75) (ns := 1) (by decide +kernel) (as := [g_n 82808, g_n 123208]) (r := []) rfl rfl rfl hO20 rfl rfl ?_
      refine r_callV h fun M21 hx22 hok23 h => ?_
      replace h := h hx22 hok23
      replace hO1 := hO1.up hx22
      replace hO9 := hO9.up hx22
      replace hO17 := hO17.up hx22
      replace hO20 := hO20.up hx22
      refine r_iconst x_218_64 ?_
      refine r_istore_n x_218_65 (by decide +kernel) rfl (lv1 := [(0, .ref a0), (1, g_n r5), (2, .ref b18), (3, g_n 0)]) rfl ?_
      refine r_iconst x_218_66 ?_
      refine r_istore x_218_67 (by decide +kernel) rfl (lv1 := [(0, .ref a0), (1, g_n r5), (2, .ref b18), (3, g_n 0), (4, g_n 0)]) rfl ?_
      refine r_iconst x_218_69 ?_
      refine r_istore x_218_70 (by decide +kernel) rfl (lv1 := [(0, .ref a0), (1, g_n r5), (2, .ref b18), (3, g_n 0), (4, g_n 0), (5, g_n 0)]) rfl ?_
      exact h
    · replace h := h.1 hc
      refine r_aload_n x_218_24 rfl ?_
      refine r_bipush x_218_25 (x := 20) rfl ?_
      refine r_aload_n x_218_27 rfl ?_
      obtain ⟨b24, hb25, h⟩ := h
      refine r_getR x_218_28 rfl (ci := 11) (k := 4) (ns := 0) (by decide +kernel) (by decide) rfl (kz := 4) rfl hO1 hb25 ?_
      obtain ⟨hO26, h⟩ := h
      refine r_getI x_218_31 rfl (ci := 1) (k := 7) (ns := 1) (by decide +kernel) (by decide) rfl (kz := 7) rfl hO26 ?_
      refine r_iadd x_218_34 ?_
      obtain ⟨h27, h⟩ := h
      refine r_aload_n x_218_35 rfl ?_
      obtain ⟨b28, hb29, h⟩ := h
      refine r_getR x_218_36 rfl (ci := 11) (k := 4) (ns := 0) (by decide +kernel) (by decide) rfl (kz := 4) rfl hO1 hb29 ?_
      obtain ⟨hO30, h⟩ := h
      refine r_getI x_218_39 rfl (ci := 1) (k := 8) (ns := 1) (by decide +kernel) (by decide) rfl (kz := 8) rfl hO30 ?_
      refine r_invV x_218_42 (z := 198) (ns := 0) (by decide +kernel) (as := [g_n (20 + (g_i M10 b24 7)), g_n (g_i M10 b28 8)]) (r := []) rfl rfl rfl hO1 rfl rfl ?_
      refine r_callV h fun M31 hx32 hok33 h => ?_
      replace h := h hx32 hok33
      replace hO1 := hO1.up hx32
      replace hO9 := hO9.up hx32
      replace hO26 := hO26.up hx32
      replace hO30 := hO30.up hx32
      exact r_retV x_218_45 rfl h
  · replace h := h.1 hc
    exact r_retV x_218_9 rfl h
theorem s_X11_update_72 {d : Nat} {M : g_M} {Q : g_M → Prop} {a0 : Nat} {v1 : Int} (hv1 : g_InR v1) {a2 : Nat} {v3 : Int} (hv3 : g_InR v3) {v4 : Int} (hv4 : g_InR v4) {v5 : Int} (hv5 : g_InR v5) (h : g_ok M → g_O M a0 11 ∧ ∃ b2, g_r M a0 16 = some b2 ∧ g_O M b2 8 ∧ ((v5 < g_i M b2 6 → ∃ b5, g_r M a0 16 = some b5 ∧ g_O M b5 8 ∧ ∃ b8, g_r M b5 2 = some b8 ∧ ∃ n10, g_A M b8 1 n10 ∧ ((0 : Int) ≤ v5 ∧ (v5 : Int) < n10) ∧ ∃ b13, g_r M a0 10 = some b13 ∧ ∃ n15, g_A M b13 2 n15 ∧ ((0 : Int) ≤ v5 ∧ (v5 : Int) < n15) ∧ ((g_i M b13 v5 = 0 → g_Run d 218 183 [(0, .ref a0), (1, g_n v1), (2, .ref a2), (3, g_n v3), (4, g_n v4), (5, g_n v5), (6, g_n (g_i M b8 v5))] [] M (g_qV Q)) ∧ (¬ g_i M b13 v5 = 0 → ∃ b18, g_r M a0 4 = some b18 ∧ g_O M b18 1 ∧ g_Call d 23 [.ref b18, g_n (g_i M b8 v5), g_n (g_i M a0 15)] M (g_qI fun r24 M21 => g_ext M M21 → g_ok M21 → g_InR r24 → ((r24 = 0 → ∃ b44, g_r M21 a0 4 = some b44 ∧ g_O M21 b44 1 ∧ g_InR (20 + (g_i M21 b44 7)) ∧ ∃ b48, g_r M21 a0 4 = some b48 ∧ g_O M21 b48 1 ∧ g_Call d 198 [.ref a0, g_n (20 + (g_i M21 b44 7)), g_n (g_i M21 b48 8)] M21 (g_qV fun M51 => g_ext M21 M51 → g_ok M51 → Q M51)) ∧ (¬ r24 = 0 → ∃ b26, g_r M21 a0 10 = some b26 ∧ ∃ b28, g_r M21 a0 4 = some b28 ∧ g_O M21 b28 1 ∧ ∃ n31, g_A M21 b26 2 n31 ∧ ((0 : Int) ≤ v5 ∧ (v5 : Int) < n31) ∧ (g_i M21 b28 6 = 0 ∨ g_i M21 b28 6 = 1) ∧ (∀ M35, M35 = g_wi M21 b26 v5 (g_i M21 b28 6) → g_ok M35 → ∃ b39, g_r M35 a0 4 = some b39 ∧ g_O M35 b39 1 ∧ ((g_i M35 b39 6 = 0 → g_InR (v4 + 0) ∧ g_Run d 218 183 [(0, .ref a0), (1, g_n v1), (2, .ref a2), (3, g_n v3), (4, g_n (v4 + 0)), (5, g_n v5), (6, g_n 163608)] [] M35 (g_qV Q)) ∧ (¬ g_i M35 b39 6 = 0 → g_InR (v4 + 1) ∧ g_Run d 218 183 [(0, .ref a0), (1, g_n v1), (2, .ref a2), (3, g_n v3), (4, g_n (v4 + 1)), (5, g_n v5), (6, g_n 163608)] [] M35 (g_qV Q)))))))))) ∧ (¬ v5 < g_i M b2 6 → ((40000 < v3 → g_Run d 218 250 [(0, .ref a0), (1, g_n v1), (2, .ref a2), (3, g_n v3), (4, g_n v4), (5, g_n 0), (6, g_n 0)] [] M (g_qV Q)) ∧ (¬ 40000 < v3 → g_Run d 218 250 [(0, .ref a0), (1, g_n v1), (2, .ref a2), (3, g_n v3), (4, g_n v4), (5, g_n 1), (6, g_n 0)] [] M (g_qV Q)))))) : g_Run d 218 72 [(0, .ref a0), (1, g_n v1), (2, .ref a2), (3, g_n v3), (4, g_n v4), (5, g_n v5)] [] M (g_qV Q) := by
  refine g_Run.ok fun hok => ?_
  replace h := h hok
  refine r_iload x_218_72 rfl ?_
  refine r_aload_n x_218_74 rfl ?_
  obtain ⟨hO1, h⟩ := h
  obtain ⟨b2, hb3, h⟩ := h
  refine r_getR x_218_75 rfl (ci := 11) (k := 16) (ns := 0) (by decide +kernel) (by decide) rfl (kz := 16) rfl hO1 hb3 ?_
  obtain ⟨hO4, h⟩ := h
  refine r_getI x_218_78 rfl (ci := 8) (k := 6) (ns := 1) (by decide +kernel) (by decide) rfl (kz := 6) rfl hO4 ?_
  refine r_ic_ge x_218_81 (t := 233) (by decide +kernel) hv5 (hok.1 _ _) (fun hc => ?_) (fun hc => ?_)
  · replace h := h.2 hc
    refine r_iload_n x_218_233 rfl ?_
    refine r_ldcw x_218_234 (v := g_n 40000) rfl ?_
    refine r_ic_gt x_218_237 (t := 244) (by decide +kernel) hv3 (g_Rk rfl) (fun hc => ?_) (fun hc => ?_)
    · replace h := h.1 hc
      refine r_iconst x_218_244 ?_
      refine r_istore x_218_245 (by decide +kernel) rfl (lv1 := [(0, .ref a0), (1, g_n v1), (2, .ref a2), (3, g_n v3), (4, g_n v4), (5, g_n 0)]) rfl ?_
      refine r_iconst x_218_247 ?_
      refine r_istore x_218_248 (by decide +kernel) rfl (lv1 := [(0, .ref a0), (1, g_n v1), (2, .ref a2), (3, g_n v3), (4, g_n v4), (5, g_n 0), (6, g_n 0)]) rfl ?_
      exact h
    · replace h := h.2 hc
      refine r_iconst x_218_240 ?_
      refine r_goto x_218_241 (t := 245) (by decide +kernel) ?_
      refine r_istore x_218_245 (by decide +kernel) rfl (lv1 := [(0, .ref a0), (1, g_n v1), (2, .ref a2), (3, g_n v3), (4, g_n v4), (5, g_n 1)]) rfl ?_
      refine r_iconst x_218_247 ?_
      refine r_istore x_218_248 (by decide +kernel) rfl (lv1 := [(0, .ref a0), (1, g_n v1), (2, .ref a2), (3, g_n v3), (4, g_n v4), (5, g_n 1), (6, g_n 0)]) rfl ?_
      exact h
  · replace h := h.1 hc
    refine r_aload_n x_218_84 rfl ?_
    obtain ⟨b5, hb6, h⟩ := h
    refine r_getR x_218_85 rfl (ci := 11) (k := 16) (ns := 0) (by decide +kernel) (by decide) rfl (kz := 16) rfl hO1 hb6 ?_
    obtain ⟨hO7, h⟩ := h
    obtain ⟨b8, hb9, h⟩ := h
    refine r_getR x_218_88 rfl (ci := 8) (k := 2) (ns := 1) (by decide +kernel) (by decide) rfl (kz := 2) rfl hO7 hb9 ?_
    refine r_iload x_218_91 rfl ?_
    obtain ⟨n10, hA11, h⟩ := h
    obtain ⟨h12, h⟩ := h
    refine r_iald x_218_93 hA11 hv5 h12.1 h12.2 ?_
    refine r_istore x_218_94 (by decide +kernel) rfl (lv1 := [(0, .ref a0), (1, g_n v1), (2, .ref a2), (3, g_n v3), (4, g_n v4), (5, g_n v5), (6, g_n (g_i M b8 v5))]) rfl ?_
    refine r_aload_n x_218_96 rfl ?_
    obtain ⟨b13, hb14, h⟩ := h
    refine r_getR x_218_97 rfl (ci := 11) (k := 10) (ns := 0) (by decide +kernel) (by decide) rfl (kz := 10) rfl hO1 hb14 ?_
    refine r_iload x_218_100 rfl ?_
    obtain ⟨n15, hA16, h⟩ := h
    obtain ⟨h17, h⟩ := h
    refine r_bald x_218_102 (Or.inr rfl) hA16 hv5 h17.1 h17.2 ?_
    refine r_if_eq x_218_103 (t := 183) (by decide +kernel) (hok.1 _ _) (fun hc => ?_) (fun hc => ?_)
    · replace h := h.1 hc
      exact h
    · replace h := h.2 hc
      refine r_aload_n x_218_106 rfl ?_
      obtain ⟨b18, hb19, h⟩ := h
      refine r_getR x_218_107 rfl (ci := 11) (k := 4) (ns := 0) (by decide +kernel) (by decide) rfl (kz := 4) rfl hO1 hb19 ?_
      refine r_iload x_218_110 rfl ?_
      refine r_aload_n x_218_112 rfl ?_
      refine r_getI x_218_113 rfl (ci := 11) (k := 15) (ns := 0) (by decide +kernel) (by decide) rfl (kz := 15) rfl hO1 ?_
      obtain ⟨hO20, h⟩ := h
      refine r_invV x_218_116 (z := 23) (ns := 1) (by decide +kernel) (as := [g_n (g_i M b8 v5), g_n (g_i M a0 15)]) (r := []) rfl rfl rfl hO20 rfl rfl ?_
      refine r_callI h fun r24 M21 hx22 hok23 hr25 h => ?_
      replace h := h hx22 hok23 hr25
      replace hO1 := hO1.up hx22
      replace hO4 := hO4.up hx22
      replace hO7 := hO7.up hx22
      replace hO20 := hO20.up hx22
      replace hA11 := hA11.up hx22
      replace hA16 := hA16.up hx22
      refine r_if_ne x_218_119 (t := 144) (by decide +kernel) hr25 (fun hc => ?_) (fun hc => ?_)
      · replace h := h.2 hc
        refine r_ldcw x_218_144 (v := g_n 163608) rfl ?_
        refine r_istore x_218_147 (by decide +kernel) rfl (lv1 := [(0, .ref a0), (1, g_n v1), (2, .ref a2), (3, g_n v3), (4, g_n v4), (5, g_n v5), (6, g_n 163608)]) rfl ?_
        refine r_aload_n x_218_149 rfl ?_
        obtain ⟨b26, hb27, h⟩ := h
        refine r_getR x_218_150 rfl (ci := 11) (k := 10) (ns := 0) (by decide +kernel) (by decide) rfl (kz := 10) rfl hO1 hb27 ?_
        refine r_iload x_218_153 rfl ?_
        refine r_aload_n x_218_155 rfl ?_
        obtain ⟨b28, hb29, h⟩ := h
        refine r_getR x_218_156 rfl (ci := 11) (k := 4) (ns := 0) (by decide +kernel) (by decide) rfl (kz := 4) rfl hO1 hb29 ?_
        obtain ⟨hO30, h⟩ := h
        refine r_getI x_218_159 rfl (ci := 1) (k := 6) (ns := 1) (by decide +kernel) (by decide) rfl (kz := 6) rfl hO30 ?_
        obtain ⟨n31, hA32, h⟩ := h
        obtain ⟨h33, h⟩ := h
        obtain ⟨h34, h⟩ := h
        refine r_bast2 x_218_162 hA32 hv5 h33.1 h33.2 h34 ?_
        obtain ⟨M35, hM36⟩ : ∃ Mz, Mz = g_wi M21 b26 v5 (g_i M21 b28 6) := ⟨_, rfl⟩
        rw [← hM36]
        refine g_Run.ok fun hok37 => ?_
        replace h := h M35 hM36 hok37
        have hx38 := g_extW hM36
        replace hO1 := hO1.up hx38
        replace hO4 := hO4.up hx38
        replace hO7 := hO7.up hx38
        replace hO20 := hO20.up hx38
        replace hO30 := hO30.up hx38
        replace hA11 := hA11.up hx38
        replace hA16 := hA16.up hx38
        replace hA32 := hA32.up hx38
        refine r_iload x_218_163 rfl ?_
        refine r_aload_n x_218_165 rfl ?_
        obtain ⟨b39, hb40, h⟩ := h
        refine r_getR x_218_166 rfl (ci := 11) (k := 4) (ns := 0) (by decide +kernel) (by decide) rfl (kz := 4) rfl hO1 hb40 ?_
        obtain ⟨hO41, h⟩ := h
        refine r_getI x_218_169 rfl (ci := 1) (k := 6) (ns := 1) (by decide +kernel) (by decide) rfl (kz := 6) rfl hO41 ?_
        refine r_if_eq x_218_172 (t := 179) (by decide +kernel) (hok37.1 _ _) (fun hc => ?_) (fun hc => ?_)
        · replace h := h.1 hc
          refine r_iconst x_218_179 ?_
          refine r_iadd x_218_180 ?_
          obtain ⟨h42, h⟩ := h
          refine r_istore x_218_181 (by decide +kernel) rfl (lv1 := [(0, .ref a0), (1, g_n v1), (2, .ref a2), (3, g_n v3), (4, g_n (v4 + 0)), (5, g_n v5), (6, g_n 163608)]) rfl ?_
          exact h
        · replace h := h.2 hc
          refine r_iconst x_218_175 ?_
          refine r_goto x_218_176 (t := 180) (by decide +kernel) ?_
          refine r_iadd x_218_180 ?_
          obtain ⟨h43, h⟩ := h
          refine r_istore x_218_181 (by decide +kernel) rfl (lv1 := [(0, .ref a0), (1, g_n v1), (2, .ref a2), (3, g_n v3), (4, g_n (v4 + 1)), (5, g_n v5), (6, g_n 163608)]) rfl ?_
          exact h
      · replace h := h.1 hc
        refine r_aload_n x_218_122 rfl ?_
        refine r_bipush x_218_123 (x := 20) rfl ?_
        refine r_aload_n x_218_125 rfl ?_
        obtain ⟨b44, hb45, h⟩ := h
        refine r_getR x_218_126 rfl (ci := 11) (k := 4) (ns := 0) (by decide +kernel) (by decide) rfl (kz := 4) rfl hO1 hb45 ?_
        obtain ⟨hO46, h⟩ := h
        refine r_getI x_218_129 rfl (ci := 1) (k := 7) (ns := 1) (by decide +kernel) (by decide) rfl (kz := 7) rfl hO46 ?_
        refine r_iadd x_218_132 ?_
        obtain ⟨h47, h⟩ := h
        refine r_aload_n x_218_133 rfl ?_
        obtain ⟨b48, hb49, h⟩ := h
        refine r_getR x_218_134 rfl (ci := 11) (k := 4) (ns := 0) (by decide +kernel) (by decide) rfl (kz := 4) rfl hO1 hb49 ?_
        obtain ⟨hO50, h⟩ := h
        refine r_getI x_218_137 rfl (ci := 1) (k := 8) (ns := 1) (by decide +kernel) (by decide) rfl (kz := 8) rfl hO50 ?_
        refine r_invV x_218_140 (z := 198) (ns := 0) (by decide +kernel) (as := [g_n (20 + (g_i M21 b44 7)), g_n (g_i M21 b48 8)]) (r := []) rfl rfl rfl hO1 rfl rfl ?_
        refine r_callV h fun M51 hx52 hok53 h => ?_
        replace h := h hx52 hok53
        replace hO1 := hO1.up hx52
        replace hO4 := hO4.up hx52
        replace hO7 := hO7.up hx52
        replace hO20 := hO20.up hx52
        replace hO46 := hO46.up hx52
        replace hO50 := hO50.up hx52
        replace hA11 := hA11.up hx52
        replace hA16 := hA16.up hx52
        exact r_retV x_218_143 rfl h
theorem s_X11_update_183 {d : Nat} {M : g_M} {Q : g_M → Prop} {a0 : Nat} {v1 : Int} (hv1 : g_InR v1) {a2 : Nat} {v3 : Int} (hv3 : g_InR v3) {v4 : Int} (hv4 : g_InR v4) {v5 : Int} (hv5 : g_InR v5) {v6 : Int} (hv6 : g_InR v6) (h : g_ok M → g_O M a0 11 ∧ ∃ b2, g_r M a0 11 = some b2 ∧ g_O M a2 4 ∧ ∃ n5, g_A M b2 1 n5 ∧ ((0 : Int) ≤ v5 ∧ (v5 : Int) < n5) ∧ (∀ M8, M8 = g_wi M b2 v5 (g_i M a2 1) → g_ok M8 → ∃ b12, g_r M8 a0 0 = some b12 ∧ ∃ b14, g_r M8 a0 0 = some b14 ∧ g_Call d 111 [.ref b14, g_n v6] M8 (g_qI fun r19 M16 => g_ext M8 M16 → g_ok M16 → g_InR r19 → g_Call d 80 [.ref a2, .ref b12, g_n v6, g_n r19] M16 (g_qV fun M21 => g_ext M16 M21 → g_ok M21 → ∃ b24, g_r M21 a0 0 = some b24 ∧ g_InR (v6 + 2) ∧ g_Call d 109 [.ref b24, g_n (v6 + 2)] M21 (g_qI fun r30 M27 => g_ext M21 M27 → g_ok M27 → g_InR r30 → g_InR (v3 + r30) ∧ g_InR (v5 + 1) ∧ g_Run d 218 72 [(0, .ref a0), (1, g_n v1), (2, .ref a2), (3, g_n (v3 + r30)), (4, g_n v4), (5, g_n (v5 + 1))] [] M27 (g_qV Q)))))) : g_Run d 218 183 [(0, .ref a0), (1, g_n v1), (2, .ref a2), (3, g_n v3), (4, g_n v4), (5, g_n v5), (6, g_n v6)] [] M (g_qV Q) := by
  refine g_Run.ok fun hok => ?_
  replace h := h hok
  refine r_aload_n x_218_183 rfl ?_
  obtain ⟨hO1, h⟩ := h
  obtain ⟨b2, hb3, h⟩ := h
  refine r_getR x_218_184 rfl (ci := 11) (k := 11) (ns := 0) (by decide +kernel) (by decide) rfl (kz := 11) rfl hO1 hb3 ?_
  refine r_iload x_218_187 rfl ?_
  refine r_aload_n x_218_189 rfl ?_
  obtain ⟨hO4, h⟩ := h
  refine r_getI x_218_190 rfl (ci := 4) (k := 1) (ns := 1) (by decide +kernel) (by decide) rfl (kz := 1) rfl hO4 ?_
  obtain ⟨n5, hA6, h⟩ := h
  obtain ⟨h7, h⟩ := h
  refine r_iast x_218_193 hA6 hv5 h7.1 h7.2 (hok.1 _ _) ?_
  obtain ⟨M8, hM9⟩ : ∃ Mz, Mz = g_wi M b2 v5 (g_i M a2 1) := ⟨_, rfl⟩
  rw [← hM9]
  refine g_Run.ok fun hok10 => ?_
  replace h := h M8 hM9 hok10
  have hx11 := g_extW hM9
  replace hO1 := hO1.up hx11
  replace hO4 := hO4.up hx11
  replace hA6 := hA6.up hx11
  refine r_aload_n x_218_194 rfl ?_
  refine r_aload_n x_218_195 rfl ?_
  obtain ⟨b12, hb13, h⟩ := h
  refine r_getR x_218_196 rfl (ci := 11) (k := 0) (ns := 0) (by decide +kernel) (by decide) rfl (kz := 0) rfl hO1 hb13 ?_
  refine r_iload x_218_199 rfl ?_
  refine r_aload_n x_218_201 rfl ?_
  obtain ⟨b14, hb15, h⟩ := h
  refine r_getR x_218_202 rfl (ci := 11) (k := 0) (ns := 0) (by decide +kernel) (by decide) rfl (kz := 0) rfl hO1 hb15 ?_
  refine r_iload x_218_205 rfl ?_
  refine r_invS x_218_207 (z := 111) (ns := 1) (by decide +kernel) (as := [.ref b14, g_n v6]) (r := [g_n v6, .ref b12, .ref a2]) rfl rfl rfl ?_
  refine r_callI h fun r19 M16 hx17 hok18 hr20 h => ?_
  replace h := h hx17 hok18 hr20
  replace hO1 := hO1.up hx17
  replace hO4 := hO4.up hx17
  replace hA6 := hA6.up hx17
  refine r_invV x_218_210 (z := 80) (ns := 1) (by decide +kernel) (as := [.ref b12, g_n v6, g_n r19]) (r := []) rfl rfl rfl hO4 rfl rfl ?_
  refine r_callV h fun M21 hx22 hok23 h => ?_
  replace h := h hx22 hok23
  replace hO1 := hO1.up hx22
  replace hO4 := hO4.up hx22
  replace hA6 := hA6.up hx22
  refine r_iload_n x_218_213 rfl ?_
  refine r_aload_n x_218_214 rfl ?_
  obtain ⟨b24, hb25, h⟩ := h
  refine r_getR x_218_215 rfl (ci := 11) (k := 0) (ns := 0) (by decide +kernel) (by decide) rfl (kz := 0) rfl hO1 hb25 ?_
  refine r_iload x_218_218 rfl ?_
  refine r_iconst x_218_220 ?_
  refine r_iadd x_218_221 ?_
  obtain ⟨h26, h⟩ := h
  refine r_invS x_218_222 (z := 109) (ns := 1) (by decide +kernel) (as := [.ref b24, g_n (v6 + 2)]) (r := [g_n v3]) rfl rfl rfl ?_
  refine r_callI h fun r30 M27 hx28 hok29 hr31 h => ?_
  replace h := h hx28 hok29 hr31
  replace hO1 := hO1.up hx28
  replace hO4 := hO4.up hx28
  replace hA6 := hA6.up hx28
  refine r_iadd x_218_225 ?_
  obtain ⟨h32, h⟩ := h
  refine r_istore_n x_218_226 (by decide +kernel) rfl (lv1 := [(0, .ref a0), (1, g_n v1), (2, .ref a2), (3, g_n (v3 + r30)), (4, g_n v4), (5, g_n v5), (6, g_n v6)]) rfl ?_
  obtain ⟨h33, h⟩ := h
  refine r_iinc x_218_227 (by decide +kernel) rfl rfl (lv1 := [(0, .ref a0), (1, g_n v1), (2, .ref a2), (3, g_n (v3 + r30)), (4, g_n v4), (5, g_n (v5 + 1)), (6, g_n v6)]) rfl ?_
  refine r_goto x_218_230 (t := 72) (by decide +kernel) ?_
  refine g_drop [0, 1, 2, 3, 4, 5] (lv1 := [(0, .ref a0), (1, g_n v1), (2, .ref a2), (3, g_n (v3 + r30)), (4, g_n v4), (5, g_n (v5 + 1))]) rfl ?_
  exact h
theorem s_X11_update_250 {d : Nat} {M : g_M} {Q : g_M → Prop} {a0 : Nat} {v1 : Int} (hv1 : g_InR v1) {a2 : Nat} {v3 : Int} (hv3 : g_InR v3) {v4 : Int} (hv4 : g_InR v4) {v5 : Int} (hv5 : g_InR v5) {v6 : Int} (hv6 : g_InR v6) (h : g_ok M → ((v6 < 4 → ((v5 = 0 → ((v5 = 0 → g_O M a0 11 ∧ g_Call d 197 [.ref a0, g_n 40, g_n ((-1))] M (g_qV fun M6 => g_ext M M6 → g_ok M6 → Q M6)) ∧ (¬ v5 = 0 → g_Run d 218 309 [(0, .ref a0), (1, g_n v1), (2, .ref a2), (3, g_n v3), (4, g_n v4), (5, g_n v5), (6, g_n 0)] [] M (g_qV Q)))) ∧ (¬ v5 = 0 → g_O M a0 11 ∧ ∃ b10, g_r M a0 16 = some b10 ∧ g_O M b10 8 ∧ ∃ b13, g_r M b10 4 = some b13 ∧ ∃ n15, g_A M b13 3 n15 ∧ ((0 : Int) ≤ v6 ∧ (v6 : Int) < n15) ∧ ∃ b18, g_r M b13 v6 = some b18 ∧ ∃ b20, g_r M a0 11 = some b20 ∧ ∃ b22, g_r M a0 16 = some b22 ∧ g_O M b22 8 ∧ g_O M b18 3 ∧ g_Call d 67 [.ref b18, .ref b20, g_n (g_i M b22 6)] M (g_qI fun r29 M26 => g_ext M M26 → g_ok M26 → g_InR r29 → g_InR (v6 + 1) ∧ g_Run d 218 250 [(0, .ref a0), (1, g_n v1), (2, .ref a2), (3, g_n v3), (4, g_n v4), (5, g_n r29), (6, g_n (v6 + 1))] [] M26 (g_qV Q))))) ∧ (¬ v6 < 4 → ((v5 = 0 → g_O M a0 11 ∧ g_Call d 197 [.ref a0, g_n 40, g_n ((-1))] M (g_qV fun M2 => g_ext M M2 → g_ok M2 → Q M2)) ∧ (¬ v5 = 0 → g_Run d 218 309 [(0, .ref a0), (1, g_n v1), (2, .ref a2), (3, g_n v3), (4, g_n v4), (5, g_n v5), (6, g_n 0)] [] M (g_qV Q)))))) : g_Run d 218 250 [(0, .ref a0), (1, g_n v1), (2, .ref a2), (3, g_n v3), (4, g_n v4), (5, g_n v5), (6, g_n v6)] [] M (g_qV Q) := by
  refine g_Run.ok fun hok => ?_
  replace h := h hok
  refine r_iload x_218_250 rfl ?_
  refine r_iconst x_218_252 ?_
  refine r_ic_ge x_218_253 (t := 293) (by decide +kernel) hv6 (g_Rk rfl) (fun hc => ?_) (fun hc => ?_)
  · replace h := h.2 hc
    refine r_iload x_218_293 rfl ?_
    refine r_if_ne x_218_295 (t := 306) (by decide +kernel) hv5 (fun hc => ?_) (fun hc => ?_)
    · replace h := h.2 hc
      refine r_iconst x_218_306 ?_
      refine r_istore x_218_307 (by decide +kernel) rfl (lv1 := [(0, .ref a0), (1, g_n v1), (2, .ref a2), (3, g_n v3), (4, g_n v4), (5, g_n v5), (6, g_n 0)]) rfl ?_
      exact h
    · replace h := h.1 hc
      refine r_aload_n x_218_298 rfl ?_
      refine r_bipush x_218_299 (x := 40) rfl ?_
      refine r_iconst x_218_301 ?_
      obtain ⟨hO1, h⟩ := h
      refine r_invV x_218_302 (z := 197) (ns := 0) (by decide +kernel) (as := [g_n 40, g_n ((-1))]) (r := []) rfl rfl rfl hO1 rfl rfl ?_
      refine r_callV h fun M2 hx3 hok4 h => ?_
      replace h := h hx3 hok4
      replace hO1 := hO1.up hx3
      exact r_retV x_218_305 rfl h
  · replace h := h.1 hc
    refine r_iload x_218_256 rfl ?_
    refine r_if_eq x_218_258 (t := 293) (by decide +kernel) hv5 (fun hc => ?_) (fun hc => ?_)
    · replace h := h.1 hc
      refine r_iload x_218_293 rfl ?_
      refine r_if_ne x_218_295 (t := 306) (by decide +kernel) hv5 (fun hc => ?_) (fun hc => ?_)
      · replace h := h.2 hc
        refine r_iconst x_218_306 ?_
        refine r_istore x_218_307 (by decide +kernel) rfl (lv1 := [(0, .ref a0), (1, g_n v1), (2, .ref a2), (3, g_n v3), (4, g_n v4), (5, g_n v5), (6, g_n 0)]) rfl ?_
        exact h
      · replace h := h.1 hc
        refine r_aload_n x_218_298 rfl ?_
        refine r_bipush x_218_299 (x := 40) rfl ?_
        refine r_iconst x_218_301 ?_
        obtain ⟨hO5, h⟩ := h
        refine r_invV x_218_302 (z := 197) (ns := 0) (by decide +kernel) (as := [g_n 40, g_n ((-1))]) (r := []) rfl rfl rfl hO5 rfl rfl ?_
        refine r_callV h fun M6 hx7 hok8 h => ?_
        replace h := h hx7 hok8
        replace hO5 := hO5.up hx7
        exact r_retV x_218_305 rfl h
    · replace h := h.2 hc
      refine r_aload_n x_218_261 rfl ?_
      obtain ⟨hO9, h⟩ := h
      obtain ⟨b10, hb11, h⟩ := h
      refine r_getR x_218_262 rfl (ci := 11) (k := 16) (ns := 0) (by decide +kernel) (by decide) rfl (kz := 16) rfl hO9 hb11 ?_
      obtain ⟨hO12, h⟩ := h
      obtain ⟨b13, hb14, h⟩ := h
      refine r_getR x_218_265 rfl (ci := 8) (k := 4) (ns := 1) (by decide +kernel) (by decide) rfl (kz := 4) rfl hO12 hb14 ?_
      refine r_iload x_218_268 rfl ?_
      obtain ⟨n15, hA16, h⟩ := h
      obtain ⟨h17, h⟩ := h
      obtain ⟨b18, hb19, h⟩ := h
      refine r_aald x_218_270 (by decide) hA16 hv6 h17.1 h17.2 hb19 ?_
      refine r_aload_n x_218_271 rfl ?_
      obtain ⟨b20, hb21, h⟩ := h
      refine r_getR x_218_272 rfl (ci := 11) (k := 11) (ns := 0) (by decide +kernel) (by decide) rfl (kz := 11) rfl hO9 hb21 ?_
      refine r_aload_n x_218_275 rfl ?_
      obtain ⟨b22, hb23, h⟩ := h
      refine r_getR x_218_276 rfl (ci := 11) (k := 16) (ns := 0) (by decide +kernel) (by decide) rfl (kz := 16) rfl hO9 hb23 ?_
      obtain ⟨hO24, h⟩ := h
      refine r_getI x_218_279 rfl (ci := 8) (k := 6) (ns := 1) (by decide +kernel) (by decide) rfl (kz := 6) rfl hO24 ?_
      obtain ⟨hO25, h⟩ := h
      refine r_invV x_218_282 (z := 67) (ns := 1) (by decide +kernel) (as := [.ref b20, g_n (g_i M b22 6)]) (r := []) rfl rfl rfl hO25 rfl rfl ?_
      refine r_callI h fun r29 M26 hx27 hok28 hr30 h => ?_
      replace h := h hx27 hok28 hr30
      replace hO9 := hO9.up hx27
      replace hO12 := hO12.up hx27
      replace hO24 := hO24.up hx27
      replace hO25 := hO25.up hx27
      replace hA16 := hA16.up hx27
      refine r_istore x_218_285 (by decide +kernel) rfl (lv1 := [(0, .ref a0), (1, g_n v1), (2, .ref a2), (3, g_n v3), (4, g_n v4), (5, g_n r29), (6, g_n v6)]) rfl ?_
      obtain ⟨h31, h⟩ := h
      refine r_iinc x_218_287 (by decide +kernel) rfl rfl (lv1 := [(0, .ref a0), (1, g_n v1), (2, .ref a2), (3, g_n v3), (4, g_n v4), (5, g_n r29), (6, g_n (v6 + 1))]) rfl ?_
      refine r_goto x_218_290 (t := 250) (by decide +kernel) ?_
      exact h
theorem s_X11_update_309 {d : Nat} {M : g_M} {Q : g_M → Prop} {a0 : Nat} {v1 : Int} (hv1 : g_InR v1) {a2 : Nat} {v3 : Int} (hv3 : g_InR v3) {v4 : Int} (hv4 : g_InR v4) {v5 : Int} (hv5 : g_InR v5) {v6 : Int} (hv6 : g_InR v6) (h : g_ok M → ((v6 < 4 → g_O M a0 11 ∧ ∃ b11, g_r M a0 16 = some b11 ∧ g_O M b11 8 ∧ ∃ b14, g_r M b11 4 = some b14 ∧ ∃ n16, g_A M b14 3 n16 ∧ ((0 : Int) ≤ v6 ∧ (v6 : Int) < n16) ∧ ∃ b19, g_r M b14 v6 = some b19 ∧ ∃ b21, g_r M a0 16 = some b21 ∧ ∃ b23, g_r M a0 10 = some b23 ∧ g_O M b19 3 ∧ g_Call d 73 [.ref b19, .ref b21, .ref b23] M (g_qV fun M26 => g_ext M M26 → g_ok M26 → g_InR (v6 + 1) ∧ g_Run d 218 309 [(0, .ref a0), (1, g_n v1), (2, .ref a2), (3, g_n v3), (4, g_n v4), (5, g_n v5), (6, g_n (v6 + 1))] [] M26 (g_qV Q))) ∧ (¬ v6 < 4 → g_O M a0 11 ∧ ∃ b2, g_r M a0 16 = some b2 ∧ ∃ b4, g_r M a0 11 = some b4 ∧ g_O M b2 8 ∧ g_Call d 131 [.ref b2, .ref b4] M (g_qV fun M7 => g_ext M M7 → g_ok M7 → g_Run d 218 356 [(0, .ref a0), (1, g_n v1), (2, .ref a2), (3, g_n v3), (4, g_n v4), (5, g_n v5), (6, g_n 0)] [] M7 (g_qV Q))))) : g_Run d 218 309 [(0, .ref a0), (1, g_n v1), (2, .ref a2), (3, g_n v3), (4, g_n v4), (5, g_n v5), (6, g_n v6)] [] M (g_qV Q) := by
  refine g_Run.ok fun hok => ?_
  replace h := h hok
  refine r_iload x_218_309 rfl ?_
  refine r_iconst x_218_311 ?_
  refine r_ic_ge x_218_312 (t := 342) (by decide +kernel) hv6 (g_Rk rfl) (fun hc => ?_) (fun hc => ?_)
  · replace h := h.2 hc
    refine r_aload_n x_218_342 rfl ?_
    obtain ⟨hO1, h⟩ := h
    obtain ⟨b2, hb3, h⟩ := h
    refine r_getR x_218_343 rfl (ci := 11) (k := 16) (ns := 0) (by decide +kernel) (by decide) rfl (kz := 16) rfl hO1 hb3 ?_
    refine r_aload_n x_218_346 rfl ?_
    obtain ⟨b4, hb5, h⟩ := h
    refine r_getR x_218_347 rfl (ci := 11) (k := 11) (ns := 0) (by decide +kernel) (by decide) rfl (kz := 11) rfl hO1 hb5 ?_
    obtain ⟨hO6, h⟩ := h
    refine r_invV x_218_350 (z := 131) (ns := 1) (by decide +kernel) (as := [.ref b4]) (r := []) rfl rfl rfl hO6 rfl rfl ?_
    refine r_callV h fun M7 hx8 hok9 h => ?_
    replace h := h hx8 hok9
    replace hO1 := hO1.up hx8
    replace hO6 := hO6.up hx8
    refine r_iconst x_218_353 ?_
    refine r_istore x_218_354 (by decide +kernel) rfl (lv1 := [(0, .ref a0), (1, g_n v1), (2, .ref a2), (3, g_n v3), (4, g_n v4), (5, g_n v5), (6, g_n 0)]) rfl ?_
    exact h
  · replace h := h.1 hc
    refine r_aload_n x_218_315 rfl ?_
    obtain ⟨hO10, h⟩ := h
    obtain ⟨b11, hb12, h⟩ := h
    refine r_getR x_218_316 rfl (ci := 11) (k := 16) (ns := 0) (by decide +kernel) (by decide) rfl (kz := 16) rfl hO10 hb12 ?_
    obtain ⟨hO13, h⟩ := h
    obtain ⟨b14, hb15, h⟩ := h
    refine r_getR x_218_319 rfl (ci := 8) (k := 4) (ns := 1) (by decide +kernel) (by decide) rfl (kz := 4) rfl hO13 hb15 ?_
    refine r_iload x_218_322 rfl ?_
    obtain ⟨n16, hA17, h⟩ := h
    obtain ⟨h18, h⟩ := h
    obtain ⟨b19, hb20, h⟩ := h
    refine r_aald x_218_324 (by decide) hA17 hv6 h18.1 h18.2 hb20 ?_
    refine r_aload_n x_218_325 rfl ?_
    obtain ⟨b21, hb22, h⟩ := h
    refine r_getR x_218_326 rfl (ci := 11) (k := 16) (ns := 0) (by decide +kernel) (by decide) rfl (kz := 16) rfl hO10 hb22 ?_
    refine r_aload_n x_218_329 rfl ?_
    obtain ⟨b23, hb24, h⟩ := h
    refine r_getR x_218_330 rfl (ci := 11) (k := 10) (ns := 0) (by decide +kernel) (by decide) rfl (kz := 10) rfl hO10 hb24 ?_
    obtain ⟨hO25, h⟩ := h
    refine r_invV x_218_333 (z := 73) (ns := 1) (by decide +kernel) (as := [.ref b21, .ref b23]) (r := []) rfl rfl rfl hO25 rfl rfl ?_
    refine r_callV h fun M26 hx27 hok28 h => ?_
    replace h := h hx27 hok28
    replace hO10 := hO10.up hx27
    replace hO13 := hO13.up hx27
    replace hO25 := hO25.up hx27
    replace hA17 := hA17.up hx27
    obtain ⟨h29, h⟩ := h
    refine r_iinc x_218_336 (by decide +kernel) rfl rfl (lv1 := [(0, .ref a0), (1, g_n v1), (2, .ref a2), (3, g_n v3), (4, g_n v4), (5, g_n v5), (6, g_n (v6 + 1))]) rfl ?_
    refine r_goto x_218_339 (t := 309) (by decide +kernel) ?_
    exact h
theorem s_X11_update_356 {d : Nat} {M : g_M} {Q : g_M → Prop} {a0 : Nat} {v1 : Int} (hv1 : g_InR v1) {a2 : Nat} {v3 : Int} (hv3 : g_InR v3) {v4 : Int} (hv4 : g_InR v4) {v5 : Int} (hv5 : g_InR v5) {v6 : Int} (hv6 : g_InR v6) (h : g_ok M → ((v6 < 4 → g_O M a0 11 ∧ ∃ b15, g_r M a0 16 = some b15 ∧ g_O M b15 8 ∧ ∃ b18, g_r M b15 4 = some b18 ∧ ∃ n20, g_A M b18 3 n20 ∧ ((0 : Int) ≤ v6 ∧ (v6 : Int) < n20) ∧ ∃ b23, g_r M b18 v6 = some b23 ∧ ∃ b25, g_r M a0 16 = some b25 ∧ ∃ b27, g_r M a0 10 = some b27 ∧ g_O M b23 3 ∧ g_Call d 72 [.ref b23, .ref b25, .ref b27] M (g_qV fun M30 => g_ext M M30 → g_ok M30 → g_InR (v6 + 1) ∧ g_Run d 218 356 [(0, .ref a0), (1, g_n v1), (2, .ref a2), (3, g_n v3), (4, g_n v4), (5, g_n v5), (6, g_n (v6 + 1))] [] M30 (g_qV Q))) ∧ (¬ v6 < 4 → g_O M a0 11 ∧ ∃ b2, g_r M a0 1 = some b2 ∧ g_O M b2 4 ∧ g_Call d 87 [.ref b2, .ref (4 * 29 + 1), g_n v1] M (g_qV fun M5 => g_ext M M5 → g_ok M5 → ∃ b8, g_r M5 a0 1 = some b8 ∧ g_O M5 b8 4 ∧ g_Call d 87 [.ref b8, .ref (4 * 38 + 1), g_n v4] M5 (g_qV fun M11 => g_ext M5 M11 → g_ok M11 → Q M11))))) : g_Run d 218 356 [(0, .ref a0), (1, g_n v1), (2, .ref a2), (3, g_n v3), (4, g_n v4), (5, g_n v5), (6, g_n v6)] [] M (g_qV Q) := by
  refine g_Run.ok fun hok => ?_
  replace h := h hok
  refine r_iload x_218_356 rfl ?_
  refine r_iconst x_218_358 ?_
  refine r_ic_ge x_218_359 (t := 389) (by decide +kernel) hv6 (g_Rk rfl) (fun hc => ?_) (fun hc => ?_)
  · replace h := h.2 hc
    refine r_aload_n x_218_389 rfl ?_
    obtain ⟨hO1, h⟩ := h
    obtain ⟨b2, hb3, h⟩ := h
    refine r_getR x_218_390 rfl (ci := 11) (k := 1) (ns := 0) (by decide +kernel) (by decide) rfl (kz := 1) rfl hO1 hb3 ?_
    refine r_ldcw x_218_393 (v := .ref (4 * 29 + 1)) rfl ?_
    refine r_iload_n x_218_396 rfl ?_
    obtain ⟨hO4, h⟩ := h
    refine r_invV x_218_397 (z := 87) (ns := 1) (by decide +kernel) (as := [.ref (4 * 29 + 1), g_n v1]) (r := []) rfl rfl rfl hO4 rfl rfl ?_
    refine r_callV h fun M5 hx6 hok7 h => ?_
    replace h := h hx6 hok7
    replace hO1 := hO1.up hx6
    replace hO4 := hO4.up hx6
    refine r_aload_n x_218_400 rfl ?_
    obtain ⟨b8, hb9, h⟩ := h
    refine r_getR x_218_401 rfl (ci := 11) (k := 1) (ns := 0) (by decide +kernel) (by decide) rfl (kz := 1) rfl hO1 hb9 ?_
    refine r_ldcw x_218_404 (v := .ref (4 * 38 + 1)) rfl ?_
    refine r_iload x_218_407 rfl ?_
    obtain ⟨hO10, h⟩ := h
    refine r_invV x_218_409 (z := 87) (ns := 1) (by decide +kernel) (as := [.ref (4 * 38 + 1), g_n v4]) (r := []) rfl rfl rfl hO10 rfl rfl ?_
    refine r_callV h fun M11 hx12 hok13 h => ?_
    replace h := h hx12 hok13
    replace hO1 := hO1.up hx12
    replace hO4 := hO4.up hx12
    replace hO10 := hO10.up hx12
    exact r_retV x_218_412 rfl h
  · replace h := h.1 hc
    refine r_aload_n x_218_362 rfl ?_
    obtain ⟨hO14, h⟩ := h
    obtain ⟨b15, hb16, h⟩ := h
    refine r_getR x_218_363 rfl (ci := 11) (k := 16) (ns := 0) (by decide +kernel) (by decide) rfl (kz := 16) rfl hO14 hb16 ?_
    obtain ⟨hO17, h⟩ := h
    obtain ⟨b18, hb19, h⟩ := h
    refine r_getR x_218_366 rfl (ci := 8) (k := 4) (ns := 1) (by decide +kernel) (by decide) rfl (kz := 4) rfl hO17 hb19 ?_
    refine r_iload x_218_369 rfl ?_
    obtain ⟨n20, hA21, h⟩ := h
    obtain ⟨h22, h⟩ := h
    obtain ⟨b23, hb24, h⟩ := h
    refine r_aald x_218_371 (by decide) hA21 hv6 h22.1 h22.2 hb24 ?_
    refine r_aload_n x_218_372 rfl ?_
    obtain ⟨b25, hb26, h⟩ := h
    refine r_getR x_218_373 rfl (ci := 11) (k := 16) (ns := 0) (by decide +kernel) (by decide) rfl (kz := 16) rfl hO14 hb26 ?_
    refine r_aload_n x_218_376 rfl ?_
    obtain ⟨b27, hb28, h⟩ := h
    refine r_getR x_218_377 rfl (ci := 11) (k := 10) (ns := 0) (by decide +kernel) (by decide) rfl (kz := 10) rfl hO14 hb28 ?_
    obtain ⟨hO29, h⟩ := h
    refine r_invV x_218_380 (z := 72) (ns := 1) (by decide +kernel) (as := [.ref b25, .ref b27]) (r := []) rfl rfl rfl hO29 rfl rfl ?_
    refine r_callV h fun M30 hx31 hok32 h => ?_
    replace h := h hx31 hok32
    replace hO14 := hO14.up hx31
    replace hO17 := hO17.up hx31
    replace hO29 := hO29.up hx31
    replace hA21 := hA21.up hx31
    obtain ⟨h33, h⟩ := h
    refine r_iinc x_218_383 (by decide +kernel) rfl rfl (lv1 := [(0, .ref a0), (1, g_n v1), (2, .ref a2), (3, g_n v3), (4, g_n v4), (5, g_n v5), (6, g_n (v6 + 1))]) rfl ?_
    refine r_goto x_218_386 (t := 356) (by decide +kernel) ?_
    exact h
theorem m_X11_makeIndex {d : Nat} {M : g_M} {Q : g_M → Prop} {a0 : Nat} (h : g_ok M → g_O M a0 11 ∧ ∃ b2, g_r M a0 16 = some b2 ∧ g_O M b2 8 ∧ g_Call d 133 [.ref b2] M (g_qI fun r8 M5 => g_ext M M5 → g_ok M5 → g_InR r8 → ((r8 < 0 → g_Call d 197 [.ref a0, g_n 40, g_n ((-1))] M5 (g_qV fun M44 => g_ext M5 M44 → g_ok M44 → Q M44)) ∧ (¬ r8 < 0 → ∃ b10, g_r M5 a0 16 = some b10 ∧ g_O M5 b10 8 ∧ ∃ b13, g_r M5 b10 4 = some b13 ∧ ∃ n15, g_A M5 b13 3 n15 ∧ ((0 : Int) ≤ r8 ∧ (r8 : Int) < n15) ∧ ∃ b18, g_r M5 b13 r8 = some b18 ∧ g_O M5 b18 3 ∧ g_Call d 65 [.ref b18, g_n (g_i M5 a0 14), g_n (g_i M5 a0 15)] M5 (g_qV fun M21 => g_ext M5 M21 → g_ok M21 → ∃ b24, g_r M21 a0 16 = some b24 ∧ g_O M21 b24 8 ∧ ∃ b27, g_r M21 b24 2 = some b27 ∧ ∃ b29, g_r M21 a0 16 = some b29 ∧ g_O M21 b29 8 ∧ g_Call d 67 [.ref b18, .ref b27, g_n (g_i M21 b29 6)] M21 (g_qI fun r35 M32 => g_ext M21 M32 → g_ok M32 → g_InR r35 → ((r35 = 0 → (∀ M37, M37 = g_wi M32 b18 9 0 → g_ok M37 → g_Call d 197 [.ref a0, g_n 40, g_n ((-1))] M37 (g_qV fun M41 => g_ext M37 M41 → g_ok M41 → Q M41))) ∧ (¬ r35 = 0 → g_Run d 219 78 [(0, .ref a0), (1, g_n r8), (2, .ref b18), (3, g_n 0)] [] M32 (g_qV Q))))))))) : g_Call (d + 1) 219 [.ref a0] M (g_qV Q) := by
  refine g_Call.ok fun hok0 => ?_
  replace h := h hok0
  refine r_body rfl (lv := [(0, .ref a0)]) rfl ?_
  refine g_Run.ok fun hok => ?_
  refine r_aload_n x_219_0 rfl ?_
  obtain ⟨hO1, h⟩ := h
  obtain ⟨b2, hb3, h⟩ := h
  refine r_getR x_219_1 rfl (ci := 11) (k := 16) (ns := 0) (by decide +kernel) (by decide) rfl (kz := 16) rfl hO1 hb3 ?_
  obtain ⟨hO4, h⟩ := h
  refine r_invV x_219_4 (z := 133) (ns := 1) (by decide +kernel) (as := []) (r := []) rfl rfl rfl hO4 rfl rfl ?_
  refine r_callI h fun r8 M5 hx6 hok7 hr9 h => ?_
  replace h := h hx6 hok7 hr9
  replace hO1 := hO1.up hx6
  replace hO4 := hO4.up hx6
  refine r_istore_n x_219_7 (by decide +kernel) rfl (lv1 := [(0, .ref a0), (1, g_n r8)]) rfl ?_
  refine r_iload_n x_219_8 rfl ?_
  refine r_if_ge x_219_9 (t := 20) (by decide +kernel) hr9 (fun hc => ?_) (fun hc => ?_)
  · replace h := h.2 hc
    refine r_aload_n x_219_20 rfl ?_
    obtain ⟨b10, hb11, h⟩ := h
    refine r_getR x_219_21 rfl (ci := 11) (k := 16) (ns := 0) (by decide +kernel) (by decide) rfl (kz := 16) rfl hO1 hb11 ?_
    obtain ⟨hO12, h⟩ := h
    obtain ⟨b13, hb14, h⟩ := h
    refine r_getR x_219_24 rfl (ci := 8) (k := 4) (ns := 1) (by decide +kernel) (by decide) rfl (kz := 4) rfl hO12 hb14 ?_
    refine r_iload_n x_219_27 rfl ?_
    obtain ⟨n15, hA16, h⟩ := h
    obtain ⟨h17, h⟩ := h
    obtain ⟨b18, hb19, h⟩ := h
    refine r_aald x_219_28 (by decide) hA16 hr9 h17.1 h17.2 hb19 ?_
    refine r_astore_n x_219_29 (o := (some b18)) (by decide +kernel) rfl (lv1 := [(0, .ref a0), (1, g_n r8), (2, .ref b18)]) rfl ?_
    refine r_aload_n x_219_30 rfl ?_
    refine r_aload_n x_219_31 rfl ?_
    refine r_getI x_219_32 rfl (ci := 11) (k := 14) (ns := 0) (by decide +kernel) (by decide) rfl (kz := 14) rfl hO1 ?_
    refine r_aload_n x_219_35 rfl ?_
    refine r_getI x_219_36 rfl (ci := 11) (k := 15) (ns := 0) (by decide +kernel) (by decide) rfl (kz := 15) rfl hO1 ?_
    obtain ⟨hO20, h⟩ := h
    refine r_invV x_219_39 (z := 65) (ns := 1) (by decide +kernel) (as := [g_n (g_i M5 a0 14), g_n (g_i M5 a0 15)]) (r := []) rfl rfl rfl hO20 rfl rfl ?_
    refine r_callV h fun M21 hx22 hok23 h => ?_
    replace h := h hx22 hok23
    replace hO1 := hO1.up hx22
    replace hO4 := hO4.up hx22
    replace hO12 := hO12.up hx22
    replace hO20 := hO20.up hx22
    replace hA16 := hA16.up hx22
    refine r_aload_n x_219_42 rfl ?_
    refine r_aload_n x_219_43 rfl ?_
    obtain ⟨b24, hb25, h⟩ := h
    refine r_getR x_219_44 rfl (ci := 11) (k := 16) (ns := 0) (by decide +kernel) (by decide) rfl (kz := 16) rfl hO1 hb25 ?_
    obtain ⟨hO26, h⟩ := h
    obtain ⟨b27, hb28, h⟩ := h
    refine r_getR x_219_47 rfl (ci := 8) (k := 2) (ns := 1) (by decide +kernel) (by decide) rfl (kz := 2) rfl hO26 hb28 ?_
    refine r_aload_n x_219_50 rfl ?_
    obtain ⟨b29, hb30, h⟩ := h
    refine r_getR x_219_51 rfl (ci := 11) (k := 16) (ns := 0) (by decide +kernel) (by decide) rfl (kz := 16) rfl hO1 hb30 ?_
    obtain ⟨hO31, h⟩ := h
    refine r_getI x_219_54 rfl (ci := 8) (k := 6) (ns := 1) (by decide +kernel) (by decide) rfl (kz := 6) rfl hO31 ?_
    refine r_invV x_219_57 (z := 67) (ns := 1) (by decide +kernel) (as := [.ref b27, g_n (g_i M21 b29 6)]) (r := []) rfl rfl rfl hO20 rfl rfl ?_
    refine r_callI h fun r35 M32 hx33 hok34 hr36 h => ?_
    replace h := h hx33 hok34 hr36
    replace hO1 := hO1.up hx33
    replace hO4 := hO4.up hx33
    replace hO12 := hO12.up hx33
    replace hO20 := hO20.up hx33
    replace hO26 := hO26.up hx33
    replace hO31 := hO31.up hx33
    replace hA16 := hA16.up hx33
    refine r_if_ne x_219_60 (t := 76) (by decide +kernel) hr36 (fun hc => ?_) (fun hc => ?_)
    · replace h := h.2 hc
      refine r_iconst x_219_76 ?_
      refine r_istore_n x_219_77 (by decide +kernel) rfl (lv1 := [(0, .ref a0), (1, g_n r8), (2, .ref b18), (3, g_n 0)]) rfl ?_
      exact h
    · replace h := h.1 hc
      refine r_aload_n x_219_63 rfl ?_
      refine r_iconst x_219_64 ?_
      refine r_putI x_219_65 (ci := 3) (k := 9) (ns := 1) (by decide +kernel) (by decide) (g_fZ (Or.inl rfl) (by decide +kernel)) rfl (g_Rk rfl) (g_zx (Or.inl rfl) rfl).2 (kz := 9) rfl hO20 ?_
      obtain ⟨M37, hM38⟩ : ∃ Mz, Mz = g_wi M32 b18 9 0 := ⟨_, rfl⟩
      rw [← hM38]
      refine g_Run.ok fun hok39 => ?_
      replace h := h M37 hM38 hok39
      have hx40 := g_extW hM38
      replace hO1 := hO1.up hx40
      replace hO4 := hO4.up hx40
      replace hO12 := hO12.up hx40
      replace hO20 := hO20.up hx40
      replace hO26 := hO26.up hx40
      replace hO31 := hO31.up hx40
      replace hA16 := hA16.up hx40
      refine r_aload_n x_219_68 rfl ?_
      refine r_bipush x_219_69 (x := 40) rfl ?_
      refine r_iconst x_219_71 ?_
      refine r_invV x_219_72 (z := 197) (ns := 0) (by decide +kernel) (as := [g_n 40, g_n ((-1))]) (r := []) rfl rfl rfl hO1 rfl rfl ?_
      refine r_callV h fun M41 hx42 hok43 h => ?_
      replace h := h hx42 hok43
      replace hO1 := hO1.up hx42
      replace hO4 := hO4.up hx42
      replace hO12 := hO12.up hx42
      replace hO20 := hO20.up hx42
      replace hO26 := hO26.up hx42
      replace hO31 := hO31.up hx42
      replace hA16 := hA16.up hx42
      exact r_retV x_219_75 rfl h
  · replace h := h.1 hc
    refine r_aload_n x_219_12 rfl ?_
    refine r_bipush x_219_13 (x := 40) rfl ?_
    refine r_iconst x_219_15 ?_
    refine r_invV x_219_16 (z := 197) (ns := 0) (by decide +kernel) (as := [g_n 40, g_n ((-1))]) (r := []) rfl rfl rfl hO1 rfl rfl ?_
    refine r_callV h fun M44 hx45 hok46 h => ?_
    replace h := h hx45 hok46
    replace hO1 := hO1.up hx45
    replace hO4 := hO4.up hx45
    exact r_retV x_219_19 rfl h
theorem s_X11_makeIndex_78 {d : Nat} {M : g_M} {Q : g_M → Prop} {a0 : Nat} {v1 : Int} (hv1 : g_InR v1) {a2 : Nat} {v3 : Int} (hv3 : g_InR v3) (h : g_ok M → g_O M a0 11 ∧ ∃ b2, g_r M a0 16 = some b2 ∧ g_O M b2 8 ∧ ((v3 < g_i M b2 6 → ∃ b19, g_r M a0 10 = some b19 ∧ ∃ n21, g_A M b19 2 n21 ∧ ((0 : Int) ≤ v3 ∧ (v3 : Int) < n21) ∧ (∀ M24, M24 = g_wi M b19 v3 1 → g_ok M24 → g_InR (v3 + 1) ∧ g_Run d 219 78 [(0, .ref a0), (1, g_n v1), (2, .ref a2), (3, g_n (v3 + 1))] [] M24 (g_qV Q))) ∧ (¬ v3 < g_i M b2 6 → ∃ b5, g_r M a0 16 = some b5 ∧ ∃ b7, g_r M a0 10 = some b7 ∧ g_O M a2 3 ∧ g_Call d 72 [.ref a2, .ref b5, .ref b7] M (g_qV fun M10 => g_ext M M10 → g_ok M10 → ∃ b13, g_r M10 a0 1 = some b13 ∧ g_O M10 b13 4 ∧ g_Call d 87 [.ref b13, .ref (4 * 5 + 1), g_n v1] M10 (g_qV fun M16 => g_ext M10 M16 → g_ok M16 → Q M16))))) : g_Run d 219 78 [(0, .ref a0), (1, g_n v1), (2, .ref a2), (3, g_n v3)] [] M (g_qV Q) := by
  refine g_Run.ok fun hok => ?_
  replace h := h hok
  refine r_iload_n x_219_78 rfl ?_
  refine r_aload_n x_219_79 rfl ?_
  obtain ⟨hO1, h⟩ := h
  obtain ⟨b2, hb3, h⟩ := h
  refine r_getR x_219_80 rfl (ci := 11) (k := 16) (ns := 0) (by decide +kernel) (by decide) rfl (kz := 16) rfl hO1 hb3 ?_
  obtain ⟨hO4, h⟩ := h
  refine r_getI x_219_83 rfl (ci := 8) (k := 6) (ns := 1) (by decide +kernel) (by decide) rfl (kz := 6) rfl hO4 ?_
  refine r_ic_ge x_219_86 (t := 102) (by decide +kernel) hv3 (hok.1 _ _) (fun hc => ?_) (fun hc => ?_)
  · replace h := h.2 hc
    refine r_aload_n x_219_102 rfl ?_
    refine r_aload_n x_219_103 rfl ?_
    obtain ⟨b5, hb6, h⟩ := h
    refine r_getR x_219_104 rfl (ci := 11) (k := 16) (ns := 0) (by decide +kernel) (by decide) rfl (kz := 16) rfl hO1 hb6 ?_
    refine r_aload_n x_219_107 rfl ?_
    obtain ⟨b7, hb8, h⟩ := h
    refine r_getR x_219_108 rfl (ci := 11) (k := 10) (ns := 0) (by decide +kernel) (by decide) rfl (kz := 10) rfl hO1 hb8 ?_
    obtain ⟨hO9, h⟩ := h
    refine r_invV x_219_111 (z := 72) (ns := 1) (by decide +kernel) (as := [.ref b5, .ref b7]) (r := []) rfl rfl rfl hO9 rfl rfl ?_
    refine r_callV h fun M10 hx11 hok12 h => ?_
    replace h := h hx11 hok12
    replace hO1 := hO1.up hx11
    replace hO4 := hO4.up hx11
    replace hO9 := hO9.up hx11
    refine r_aload_n x_219_114 rfl ?_
    obtain ⟨b13, hb14, h⟩ := h
    refine r_getR x_219_115 rfl (ci := 11) (k := 1) (ns := 0) (by decide +kernel) (by decide) rfl (kz := 1) rfl hO1 hb14 ?_
    refine r_ldc x_219_118 (v := .ref (4 * 5 + 1)) rfl ?_
    refine r_iload_n x_219_120 rfl ?_
    obtain ⟨hO15, h⟩ := h
    refine r_invV x_219_121 (z := 87) (ns := 1) (by decide +kernel) (as := [.ref (4 * 5 + 1), g_n v1]) (r := []) rfl rfl rfl hO15 rfl rfl ?_
    refine r_callV h fun M16 hx17 hok18 h => ?_
    replace h := h hx17 hok18
    replace hO1 := hO1.up hx17
    replace hO4 := hO4.up hx17
    replace hO9 := hO9.up hx17
    replace hO15 := hO15.up hx17
    exact r_retV x_219_124 rfl h
  · replace h := h.1 hc
    refine r_aload_n x_219_89 rfl ?_
    obtain ⟨b19, hb20, h⟩ := h
    refine r_getR x_219_90 rfl (ci := 11) (k := 10) (ns := 0) (by decide +kernel) (by decide) rfl (kz := 10) rfl hO1 hb20 ?_
    refine r_iload_n x_219_93 rfl ?_
    refine r_iconst x_219_94 ?_
    obtain ⟨n21, hA22, h⟩ := h
    obtain ⟨h23, h⟩ := h
    refine r_bast2 x_219_95 hA22 hv3 h23.1 h23.2 (Or.inr rfl) ?_
    obtain ⟨M24, hM25⟩ : ∃ Mz, Mz = g_wi M b19 v3 1 := ⟨_, rfl⟩
    rw [← hM25]
    refine g_Run.ok fun hok26 => ?_
    replace h := h M24 hM25 hok26
    have hx27 := g_extW hM25
    replace hO1 := hO1.up hx27
    replace hO4 := hO4.up hx27
    replace hA22 := hA22.up hx27
    obtain ⟨h28, h⟩ := h
    refine r_iinc x_219_96 (by decide +kernel) rfl rfl (lv1 := [(0, .ref a0), (1, g_n v1), (2, .ref a2), (3, g_n (v3 + 1))]) rfl ?_
    refine r_goto x_219_99 (t := 78) (by decide +kernel) ?_
    exact h
theorem m_X11_askedIndex {d : Nat} {M : g_M} {Q : Option Nat → g_M → Prop} {a0 : Nat} (h : g_ok M → g_O M a0 11 ∧ ∃ b2, g_r M a0 0 = some b2 ∧ g_Call d 118 [.ref b2, g_n (g_i M a0 14)] M (g_qL fun R7 M4 => g_ext M M4 → g_ok M4 → ((g_lc R7 0 < 0 → g_Call d 197 [.ref a0, g_n 41, g_n ((-1))] M4 (g_qV fun M8 => g_ext M4 M8 → g_ok M8 → Q none M8)) ∧ (¬ g_lc R7 0 < 0 → ((g_lc R7 4 < 0 → ∃ b14, g_r M4 a0 16 = some b14 ∧ g_O M4 b14 8 ∧ ∃ b17, g_r M4 b14 4 = some b17 ∧ ∃ n19, g_A M4 b17 3 n19 ∧ ((0 : Int) ≤ R7.toInt32.toInt ∧ (R7.toInt32.toInt : Int) < n19) ∧ ∃ b22, g_r M4 b17 R7.toInt32.toInt = some b22 ∧ g_O M4 b22 3 ∧ ((g_i M4 b22 9 = 0 → g_Call d 197 [.ref a0, g_n 41, g_n ((-1))] M4 (g_qV fun M25 => g_ext M4 M25 → g_ok M25 → Q none M25)) ∧ (¬ g_i M4 b22 9 = 0 → ∃ b28, g_r M4 a0 16 = some b28 ∧ g_O M4 b28 8 ∧ ∃ b31, g_r M4 b28 4 = some b31 ∧ ∃ n33, g_A M4 b31 3 n33 ∧ ((0 : Int) ≤ R7.toInt32.toInt ∧ (R7.toInt32.toInt : Int) < n33) ∧ ∃ b36, g_r M4 b31 R7.toInt32.toInt = some b36 ∧ Q (some b36) M4))) ∧ (¬ g_lc R7 4 < 0 → g_Call d 197 [.ref a0, g_n 41, g_n ((-1))] M4 (g_qV fun M11 => g_ext M4 M11 → g_ok M11 → Q none M11))))))) : g_Call (d + 1) 220 [.ref a0] M (g_qR Q) := by
  refine g_Call.ok fun hok0 => ?_
  replace h := h hok0
  refine r_body rfl (lv := [(0, .ref a0)]) rfl ?_
  refine g_Run.ok fun hok => ?_
  refine r_aload_n x_220_0 rfl ?_
  obtain ⟨hO1, h⟩ := h
  obtain ⟨b2, hb3, h⟩ := h
  refine r_getR x_220_1 rfl (ci := 11) (k := 0) (ns := 0) (by decide +kernel) (by decide) rfl (kz := 0) rfl hO1 hb3 ?_
  refine r_aload_n x_220_4 rfl ?_
  refine r_getI x_220_5 rfl (ci := 11) (k := 14) (ns := 0) (by decide +kernel) (by decide) rfl (kz := 14) rfl hO1 ?_
  refine r_invS x_220_8 (z := 118) (ns := 1) (by decide +kernel) (as := [.ref b2, g_n (g_i M a0 14)]) (r := []) rfl rfl rfl ?_
  refine r_callL h fun R7 M4 hx5 hok6 h => ?_
  replace h := h hx5 hok6
  replace hO1 := hO1.up hx5
  refine r_lstore_n x_220_11 (by decide +kernel) rfl (lv1 := [(0, .ref a0), (1, .long R7)]) rfl ?_
  refine r_lload_n x_220_12 rfl ?_
  refine r_lconst x_220_13 ?_
  show g_Run d 220 14 [(0, .ref a0), (1, .long R7)] [.long 0, .long R7] M4 _
  refine r_lcmp x_220_14 ?_
  refine r_if_lt x_220_15 (t := 53) (by decide +kernel) (g_InR_toInt _) (fun hc => ?_) (fun hc => ?_)
  · replace h := h.1 hc
    refine r_aload_n x_220_53 rfl ?_
    refine r_bipush x_220_54 (x := 41) rfl ?_
    refine r_iconst x_220_56 ?_
    refine r_invV x_220_57 (z := 197) (ns := 0) (by decide +kernel) (as := [g_n 41, g_n ((-1))]) (r := []) rfl rfl rfl hO1 rfl rfl ?_
    refine r_callV h fun M8 hx9 hok10 h => ?_
    replace h := h hx9 hok10
    replace hO1 := hO1.up hx9
    refine r_null x_220_60 ?_
    exact r_retN x_220_61 (by decide +kernel) h
  · replace h := h.2 hc
    refine r_lload_n x_220_18 rfl ?_
    refine r_ldc2 x_220_19 (X := 4) rfl ?_
    refine r_lcmp x_220_22 ?_
    refine r_if_ge x_220_23 (t := 53) (by decide +kernel) (g_InR_toInt _) (fun hc => ?_) (fun hc => ?_)
    · replace h := h.2 hc
      refine r_aload_n x_220_53 rfl ?_
      refine r_bipush x_220_54 (x := 41) rfl ?_
      refine r_iconst x_220_56 ?_
      refine r_invV x_220_57 (z := 197) (ns := 0) (by decide +kernel) (as := [g_n 41, g_n ((-1))]) (r := []) rfl rfl rfl hO1 rfl rfl ?_
      refine r_callV h fun M11 hx12 hok13 h => ?_
      replace h := h hx12 hok13
      replace hO1 := hO1.up hx12
      refine r_null x_220_60 ?_
      exact r_retN x_220_61 (by decide +kernel) h
    · replace h := h.1 hc
      refine r_aload_n x_220_26 rfl ?_
      obtain ⟨b14, hb15, h⟩ := h
      refine r_getR x_220_27 rfl (ci := 11) (k := 16) (ns := 0) (by decide +kernel) (by decide) rfl (kz := 16) rfl hO1 hb15 ?_
      obtain ⟨hO16, h⟩ := h
      obtain ⟨b17, hb18, h⟩ := h
      refine r_getR x_220_30 rfl (ci := 8) (k := 4) (ns := 1) (by decide +kernel) (by decide) rfl (kz := 4) rfl hO16 hb18 ?_
      refine r_lload_n x_220_33 rfl ?_
      refine r_l2i x_220_34 ?_
      obtain ⟨n19, hA20, h⟩ := h
      obtain ⟨h21, h⟩ := h
      obtain ⟨b22, hb23, h⟩ := h
      refine r_aald x_220_35 (by decide) hA20 (g_InR_toInt _) h21.1 h21.2 hb23 ?_
      obtain ⟨hO24, h⟩ := h
      refine r_getI x_220_36 rfl (ci := 3) (k := 9) (ns := 1) (by decide +kernel) (by decide) rfl (kz := 9) rfl hO24 ?_
      refine r_if_eq x_220_39 (t := 53) (by decide +kernel) (hok6.1 _ _) (fun hc => ?_) (fun hc => ?_)
      · replace h := h.1 hc
        refine r_aload_n x_220_53 rfl ?_
        refine r_bipush x_220_54 (x := 41) rfl ?_
        refine r_iconst x_220_56 ?_
        refine r_invV x_220_57 (z := 197) (ns := 0) (by decide +kernel) (as := [g_n 41, g_n ((-1))]) (r := []) rfl rfl rfl hO1 rfl rfl ?_
        refine r_callV h fun M25 hx26 hok27 h => ?_
        replace h := h hx26 hok27
        replace hO1 := hO1.up hx26
        replace hO16 := hO16.up hx26
        replace hO24 := hO24.up hx26
        replace hA20 := hA20.up hx26
        refine r_null x_220_60 ?_
        exact r_retN x_220_61 (by decide +kernel) h
      · replace h := h.2 hc
        refine r_aload_n x_220_42 rfl ?_
        obtain ⟨b28, hb29, h⟩ := h
        refine r_getR x_220_43 rfl (ci := 11) (k := 16) (ns := 0) (by decide +kernel) (by decide) rfl (kz := 16) rfl hO1 hb29 ?_
        obtain ⟨hO30, h⟩ := h
        obtain ⟨b31, hb32, h⟩ := h
        refine r_getR x_220_46 rfl (ci := 8) (k := 4) (ns := 1) (by decide +kernel) (by decide) rfl (kz := 4) rfl hO30 hb32 ?_
        refine r_lload_n x_220_49 rfl ?_
        refine r_l2i x_220_50 ?_
        obtain ⟨n33, hA34, h⟩ := h
        obtain ⟨h35, h⟩ := h
        obtain ⟨b36, hb37, h⟩ := h
        refine r_aald x_220_51 (by decide) hA34 (g_InR_toInt _) h35.1 h35.2 hb37 ?_
        exact r_retA x_220_52 (by decide +kernel) h
theorem m_X11_drop {d : Nat} {M : g_M} {Q : g_M → Prop} {a0 : Nat} (h : g_ok M → g_O M a0 11 ∧ g_Call d 220 [.ref a0] M (g_qR fun o5 M2 => g_ext M M2 → g_ok M2 → ((o5 = none → Q M2) ∧ (∀ b6, o5 = some b6 → g_O M2 b6 3 ∧ (∀ M8, M8 = g_wi M2 b6 9 0 → g_ok M8 → ∃ b12, g_r M8 a0 1 = some b12 ∧ g_O M8 b12 4 ∧ g_Call d 88 [.ref b12, .ref (4 * 39 + 1), g_n 1] M8 (g_qV fun M15 => g_ext M8 M15 → g_ok M15 → Q M15)))))) : g_Call (d + 1) 221 [.ref a0] M (g_qV Q) := by
  refine g_Call.ok fun hok0 => ?_
  replace h := h hok0
  refine r_body rfl (lv := [(0, .ref a0)]) rfl ?_
  refine g_Run.ok fun hok => ?_
  refine r_aload_n x_221_0 rfl ?_
  obtain ⟨hO1, h⟩ := h
  refine r_invV x_221_1 (z := 220) (ns := 0) (by decide +kernel) (as := []) (r := []) rfl rfl rfl hO1 rfl rfl ?_
  refine r_callR h fun o5 M2 hx3 hok4 h => ?_
  replace h := h hx3 hok4
  replace hO1 := hO1.up hx3
  refine r_astore_n x_221_4 (o := o5) (by decide +kernel) rfl (lv1 := [(0, .ref a0), (1, va_rf o5)]) rfl ?_
  refine r_aload_nO x_221_5 rfl ?_
  refine r_ifnull x_221_6 (t := 25) (by decide +kernel) (fun hc => ?_) (fun b6 hc => ?_)
  · replace h := h.1 hc
    refine g_drop [0] (lv1 := [(0, .ref a0)]) rfl ?_
    exact r_retV x_221_25 rfl h
  · replace h := h.2 b6 hc
    subst hc
    refine r_aload_n x_221_9 rfl ?_
    refine r_iconst x_221_10 ?_
    obtain ⟨hO7, h⟩ := h
    refine r_putI x_221_11 (ci := 3) (k := 9) (ns := 1) (by decide +kernel) (by decide) (g_fZ (Or.inl rfl) (by decide +kernel)) rfl (g_Rk rfl) (g_zx (Or.inl rfl) rfl).2 (kz := 9) rfl hO7 ?_
    obtain ⟨M8, hM9⟩ : ∃ Mz, Mz = g_wi M2 b6 9 0 := ⟨_, rfl⟩
    rw [← hM9]
    refine g_Run.ok fun hok10 => ?_
    replace h := h M8 hM9 hok10
    have hx11 := g_extW hM9
    replace hO1 := hO1.up hx11
    replace hO7 := hO7.up hx11
    refine r_aload_n x_221_14 rfl ?_
    obtain ⟨b12, hb13, h⟩ := h
    refine r_getR x_221_15 rfl (ci := 11) (k := 1) (ns := 0) (by decide +kernel) (by decide) rfl (kz := 1) rfl hO1 hb13 ?_
    refine r_ldcw x_221_18 (v := .ref (4 * 39 + 1)) rfl ?_
    refine r_iconst x_221_21 ?_
    obtain ⟨hO14, h⟩ := h
    refine r_invV x_221_22 (z := 88) (ns := 1) (by decide +kernel) (as := [.ref (4 * 39 + 1), g_n 1]) (r := []) rfl rfl rfl hO14 rfl rfl ?_
    refine r_callV h fun M15 hx16 hok17 h => ?_
    replace h := h hx16 hok17
    replace hO1 := hO1.up hx16
    replace hO7 := hO7.up hx16
    replace hO14 := hO14.up hx16
    exact r_retV x_221_25 rfl h
theorem m_X11_shape {d : Nat} {M : g_M} {Q : g_M → Prop} {a0 : Nat} (h : g_ok M → g_O M a0 11 ∧ g_Call d 220 [.ref a0] M (g_qR fun o5 M2 => g_ext M M2 → g_ok M2 → ((o5 = none → Q M2) ∧ (∀ b6, o5 = some b6 → g_O M2 b6 3 ∧ ∃ b8, g_r M2 b6 4 = some b8 ∧ ∃ b10, g_r M2 a0 1 = some b10 ∧ g_O M2 b8 10 ∧ g_O M2 b10 4 ∧ g_Call d 87 [.ref b10, .ref (4 * 65 + 1), g_n (g_i M2 b8 15)] M2 (g_qV fun M14 => g_ext M2 M14 → g_ok M14 → ∃ b17, g_r M14 a0 1 = some b17 ∧ g_Call d 181 [.ref b8] M14 (g_qI fun r22 M19 => g_ext M14 M19 → g_ok M19 → g_InR r22 → g_O M19 b17 4 ∧ g_Call d 87 [.ref b17, .ref (4 * 66 + 1), g_n r22] M19 (g_qV fun M25 => g_ext M19 M25 → g_ok M25 → ∃ b28, g_r M25 a0 1 = some b28 ∧ g_O M25 b28 4 ∧ g_Call d 87 [.ref b28, .ref (4 * 67 + 1), g_n (g_i M25 b8 16)] M25 (g_qV fun M31 => g_ext M25 M31 → g_ok M31 → ∃ b34, g_r M31 a0 1 = some b34 ∧ g_O M31 b34 4 ∧ g_Call d 87 [.ref b34, .ref (4 * 68 + 1), g_n (g_i M31 b8 17)] M31 (g_qV fun M37 => g_ext M31 M37 → g_ok M37 → ∃ b40, g_r M37 a0 1 = some b40 ∧ g_O M37 b40 4 ∧ g_Call d 88 [.ref b40, .ref (4 * 69 + 1), g_n (g_i M37 b6 11)] M37 (g_qV fun M43 => g_ext M37 M43 → g_ok M43 → ∃ b46, g_r M43 a0 1 = some b46 ∧ g_O M43 b46 4 ∧ g_Call d 88 [.ref b46, .ref (4 * 70 + 1), g_n (g_i M43 b6 12)] M43 (g_qV fun M49 => g_ext M43 M49 → g_ok M49 → Q M49))))))))))) : g_Call (d + 1) 222 [.ref a0] M (g_qV Q) := by
  refine g_Call.ok fun hok0 => ?_
  replace h := h hok0
  refine r_body rfl (lv := [(0, .ref a0)]) rfl ?_
  refine g_Run.ok fun hok => ?_
  refine r_aload_n x_222_0 rfl ?_
  obtain ⟨hO1, h⟩ := h
  refine r_invV x_222_1 (z := 220) (ns := 0) (by decide +kernel) (as := []) (r := []) rfl rfl rfl hO1 rfl rfl ?_
  refine r_callR h fun o5 M2 hx3 hok4 h => ?_
  replace h := h hx3 hok4
  replace hO1 := hO1.up hx3
  refine r_astore_n x_222_4 (o := o5) (by decide +kernel) rfl (lv1 := [(0, .ref a0), (1, va_rf o5)]) rfl ?_
  refine r_aload_nO x_222_5 rfl ?_
  refine r_ifnonnull x_222_6 (t := 10) (by decide +kernel) (fun hc => ?_) (fun b6 hc => ?_)
  · replace h := h.1 hc
    refine g_drop [0] (lv1 := [(0, .ref a0)]) rfl ?_
    exact r_retV x_222_9 rfl h
  · replace h := h.2 b6 hc
    subst hc
    refine r_aload_n x_222_10 rfl ?_
    obtain ⟨hO7, h⟩ := h
    obtain ⟨b8, hb9, h⟩ := h
    refine r_getR x_222_11 rfl (ci := 3) (k := 4) (ns := 1) (by decide +kernel) (by decide) rfl (kz := 4) rfl hO7 hb9 ?_
    refine r_astore_n x_222_14 (o := (some b8)) (by decide +kernel) rfl (lv1 := [(0, .ref a0), (1, .ref b6), (2, .ref b8)]) rfl ?_
    refine r_aload_n x_222_15 rfl ?_
    obtain ⟨b10, hb11, h⟩ := h
    refine r_getR x_222_16 rfl (ci := 11) (k := 1) (ns := 0) (by decide +kernel) (by decide) rfl (kz := 1) rfl hO1 hb11 ?_
    refine r_ldcw x_222_19 (v := .ref (4 * 65 + 1)) rfl ?_
    refine r_aload_n x_222_22 rfl ?_
    obtain ⟨hO12, h⟩ := h
    refine r_getI x_222_23 rfl (ci := 10) (k := 15) (ns := 1) (by decide +kernel) (by decide) rfl (kz := 15) rfl hO12 ?_
    obtain ⟨hO13, h⟩ := h
    refine r_invV x_222_26 (z := 87) (ns := 1) (by decide +kernel) (as := [.ref (4 * 65 + 1), g_n (g_i M2 b8 15)]) (r := []) rfl rfl rfl hO13 rfl rfl ?_
    refine r_callV h fun M14 hx15 hok16 h => ?_
    replace h := h hx15 hok16
    replace hO1 := hO1.up hx15
    replace hO7 := hO7.up hx15
    replace hO12 := hO12.up hx15
    replace hO13 := hO13.up hx15
    refine r_aload_n x_222_29 rfl ?_
    obtain ⟨b17, hb18, h⟩ := h
    refine r_getR x_222_30 rfl (ci := 11) (k := 1) (ns := 0) (by decide +kernel) (by decide) rfl (kz := 1) rfl hO1 hb18 ?_
    refine r_ldcw x_222_33 (v := .ref (4 * 66 + 1)) rfl ?_
    refine r_aload_n x_222_36 rfl ?_
    refine r_invV x_222_37 (z := 181) (ns := 1) (by decide +kernel) (as := []) (r := [.ref (4 * 66 + 1), .ref b17]) rfl rfl rfl hO12 rfl rfl ?_
    refine r_callI h fun r22 M19 hx20 hok21 hr23 h => ?_
    replace h := h hx20 hok21 hr23
    replace hO1 := hO1.up hx20
    replace hO7 := hO7.up hx20
    replace hO12 := hO12.up hx20
    replace hO13 := hO13.up hx20
    obtain ⟨hO24, h⟩ := h
    refine r_invV x_222_40 (z := 87) (ns := 1) (by decide +kernel) (as := [.ref (4 * 66 + 1), g_n r22]) (r := []) rfl rfl rfl hO24 rfl rfl ?_
    refine r_callV h fun M25 hx26 hok27 h => ?_
    replace h := h hx26 hok27
    replace hO1 := hO1.up hx26
    replace hO7 := hO7.up hx26
    replace hO12 := hO12.up hx26
    replace hO13 := hO13.up hx26
    replace hO24 := hO24.up hx26
    refine r_aload_n x_222_43 rfl ?_
    obtain ⟨b28, hb29, h⟩ := h
    refine r_getR x_222_44 rfl (ci := 11) (k := 1) (ns := 0) (by decide +kernel) (by decide) rfl (kz := 1) rfl hO1 hb29 ?_
    refine r_ldcw x_222_47 (v := .ref (4 * 67 + 1)) rfl ?_
    refine r_aload_n x_222_50 rfl ?_
    refine r_getI x_222_51 rfl (ci := 10) (k := 16) (ns := 1) (by decide +kernel) (by decide) rfl (kz := 16) rfl hO12 ?_
    obtain ⟨hO30, h⟩ := h
    refine r_invV x_222_54 (z := 87) (ns := 1) (by decide +kernel) (as := [.ref (4 * 67 + 1), g_n (g_i M25 b8 16)]) (r := []) rfl rfl rfl hO30 rfl rfl ?_
    refine r_callV h fun M31 hx32 hok33 h => ?_
    replace h := h hx32 hok33
    replace hO1 := hO1.up hx32
    replace hO7 := hO7.up hx32
    replace hO12 := hO12.up hx32
    replace hO13 := hO13.up hx32
    replace hO24 := hO24.up hx32
    replace hO30 := hO30.up hx32
    refine r_aload_n x_222_57 rfl ?_
    obtain ⟨b34, hb35, h⟩ := h
    refine r_getR x_222_58 rfl (ci := 11) (k := 1) (ns := 0) (by decide +kernel) (by decide) rfl (kz := 1) rfl hO1 hb35 ?_
    refine r_ldcw x_222_61 (v := .ref (4 * 68 + 1)) rfl ?_
    refine r_aload_n x_222_64 rfl ?_
    refine r_getI x_222_65 rfl (ci := 10) (k := 17) (ns := 1) (by decide +kernel) (by decide) rfl (kz := 17) rfl hO12 ?_
    obtain ⟨hO36, h⟩ := h
    refine r_invV x_222_68 (z := 87) (ns := 1) (by decide +kernel) (as := [.ref (4 * 68 + 1), g_n (g_i M31 b8 17)]) (r := []) rfl rfl rfl hO36 rfl rfl ?_
    refine r_callV h fun M37 hx38 hok39 h => ?_
    replace h := h hx38 hok39
    replace hO1 := hO1.up hx38
    replace hO7 := hO7.up hx38
    replace hO12 := hO12.up hx38
    replace hO13 := hO13.up hx38
    replace hO24 := hO24.up hx38
    replace hO30 := hO30.up hx38
    replace hO36 := hO36.up hx38
    refine r_aload_n x_222_71 rfl ?_
    obtain ⟨b40, hb41, h⟩ := h
    refine r_getR x_222_72 rfl (ci := 11) (k := 1) (ns := 0) (by decide +kernel) (by decide) rfl (kz := 1) rfl hO1 hb41 ?_
    refine r_ldcw x_222_75 (v := .ref (4 * 69 + 1)) rfl ?_
    refine r_aload_n x_222_78 rfl ?_
    refine r_getI x_222_79 rfl (ci := 3) (k := 11) (ns := 1) (by decide +kernel) (by decide) rfl (kz := 11) rfl hO7 ?_
    obtain ⟨hO42, h⟩ := h
    refine r_invV x_222_82 (z := 88) (ns := 1) (by decide +kernel) (as := [.ref (4 * 69 + 1), g_n (g_i M37 b6 11)]) (r := []) rfl rfl rfl hO42 rfl rfl ?_
    refine r_callV h fun M43 hx44 hok45 h => ?_
    replace h := h hx44 hok45
    replace hO1 := hO1.up hx44
    replace hO7 := hO7.up hx44
    replace hO12 := hO12.up hx44
    replace hO13 := hO13.up hx44
    replace hO24 := hO24.up hx44
    replace hO30 := hO30.up hx44
    replace hO36 := hO36.up hx44
    replace hO42 := hO42.up hx44
    refine r_aload_n x_222_85 rfl ?_
    obtain ⟨b46, hb47, h⟩ := h
    refine r_getR x_222_86 rfl (ci := 11) (k := 1) (ns := 0) (by decide +kernel) (by decide) rfl (kz := 1) rfl hO1 hb47 ?_
    refine r_ldcw x_222_89 (v := .ref (4 * 70 + 1)) rfl ?_
    refine r_aload_n x_222_92 rfl ?_
    refine r_getI x_222_93 rfl (ci := 3) (k := 12) (ns := 1) (by decide +kernel) (by decide) rfl (kz := 12) rfl hO7 ?_
    obtain ⟨hO48, h⟩ := h
    refine r_invV x_222_96 (z := 88) (ns := 1) (by decide +kernel) (as := [.ref (4 * 70 + 1), g_n (g_i M43 b6 12)]) (r := []) rfl rfl rfl hO48 rfl rfl ?_
    refine r_callV h fun M49 hx50 hok51 h => ?_
    replace h := h hx50 hok51
    replace hO1 := hO1.up hx50
    replace hO7 := hO7.up hx50
    replace hO12 := hO12.up hx50
    replace hO13 := hO13.up hx50
    replace hO24 := hO24.up hx50
    replace hO30 := hO30.up hx50
    replace hO36 := hO36.up hx50
    replace hO42 := hO42.up hx50
    replace hO48 := hO48.up hx50
    exact r_retV x_222_99 rfl h
theorem m_X11_pipeline {d : Nat} {M : g_M} {Q : g_M → Prop} {a0 : Nat} (h : g_ok M → g_O M a0 11 ∧ ∃ b2, g_r M a0 5 = some b2 ∧ ∃ b4, g_r M a0 16 = some b4 ∧ ∃ b6, g_r M a0 16 = some b6 ∧ ∃ b8, g_r M a0 9 = some b8 ∧ ∃ n10, g_A M b8 4 n10 ∧ ((0 : Int) ≤ 0 ∧ (0 : Int) < n10) ∧ ∃ b13, g_r M b8 0 = some b13 ∧ b13 % 2 = 0 ∧ b6 % 2 = 0 ∧ ((b6 = b13 → ∃ b35, g_r M a0 9 = some b35 ∧ ∃ n37, g_A M b35 4 n37 ∧ ((0 : Int) ≤ 1 ∧ (1 : Int) < n37) ∧ ∃ b40, g_r M b35 1 = some b40 ∧ g_O M b2 9 ∧ g_Call d 135 [.ref b2, .ref b4, .ref b40] M (g_qV fun M43 => g_ext M M43 → g_ok M43 → ∃ b46, g_r M43 a0 0 = some b46 ∧ g_Call d 112 [.ref b46, g_n (g_i M43 a0 14)] M43 (g_qI fun r51 M48 => g_ext M43 M48 → g_ok M48 → g_InR r51 → g_Run d 223 53 [(0, .ref a0), (1, g_n r51), (2, g_n 0)] [] M48 (g_qV Q)))) ∧ (¬ b6 = b13 → ∃ b17, g_r M a0 9 = some b17 ∧ ∃ n19, g_A M b17 4 n19 ∧ ((0 : Int) ≤ 0 ∧ (0 : Int) < n19) ∧ ∃ b22, g_r M b17 0 = some b22 ∧ g_O M b2 9 ∧ g_Call d 135 [.ref b2, .ref b4, .ref b22] M (g_qV fun M25 => g_ext M M25 → g_ok M25 → ∃ b28, g_r M25 a0 0 = some b28 ∧ g_Call d 112 [.ref b28, g_n (g_i M25 a0 14)] M25 (g_qI fun r33 M30 => g_ext M25 M30 → g_ok M30 → g_InR r33 → g_Run d 223 53 [(0, .ref a0), (1, g_n r33), (2, g_n 0)] [] M30 (g_qV Q)))))) : g_Call (d + 1) 223 [.ref a0] M (g_qV Q) := by
  refine g_Call.ok fun hok0 => ?_
  replace h := h hok0
  refine r_body rfl (lv := [(0, .ref a0)]) rfl ?_
  refine g_Run.ok fun hok => ?_
  refine r_aload_n x_223_0 rfl ?_
  obtain ⟨hO1, h⟩ := h
  obtain ⟨b2, hb3, h⟩ := h
  refine r_getR x_223_1 rfl (ci := 11) (k := 5) (ns := 0) (by decide +kernel) (by decide) rfl (kz := 5) rfl hO1 hb3 ?_
  refine r_aload_n x_223_4 rfl ?_
  obtain ⟨b4, hb5, h⟩ := h
  refine r_getR x_223_5 rfl (ci := 11) (k := 16) (ns := 0) (by decide +kernel) (by decide) rfl (kz := 16) rfl hO1 hb5 ?_
  refine r_aload_n x_223_8 rfl ?_
  obtain ⟨b6, hb7, h⟩ := h
  refine r_getR x_223_9 rfl (ci := 11) (k := 16) (ns := 0) (by decide +kernel) (by decide) rfl (kz := 16) rfl hO1 hb7 ?_
  refine r_aload_n x_223_12 rfl ?_
  obtain ⟨b8, hb9, h⟩ := h
  refine r_getR x_223_13 rfl (ci := 11) (k := 9) (ns := 0) (by decide +kernel) (by decide) rfl (kz := 9) rfl hO1 hb9 ?_
  refine r_iconst x_223_16 ?_
  obtain ⟨n10, hA11, h⟩ := h
  obtain ⟨h12, h⟩ := h
  obtain ⟨b13, hb14, h⟩ := h
  refine r_aald x_223_17 (by decide) hA11 (g_Rk rfl) h12.1 h12.2 hb14 ?_
  obtain ⟨h15, h⟩ := h
  obtain ⟨h16, h⟩ := h
  refine r_acmp_ne x_223_18 (t := 30) (by decide +kernel) h15 h16 (fun hc => ?_) (fun hc => ?_)
  · replace h := h.2 hc
    refine r_aload_n x_223_30 rfl ?_
    obtain ⟨b17, hb18, h⟩ := h
    refine r_getR x_223_31 rfl (ci := 11) (k := 9) (ns := 0) (by decide +kernel) (by decide) rfl (kz := 9) rfl hO1 hb18 ?_
    refine r_iconst x_223_34 ?_
    obtain ⟨n19, hA20, h⟩ := h
    obtain ⟨h21, h⟩ := h
    obtain ⟨b22, hb23, h⟩ := h
    refine r_aald x_223_35 (by decide) hA20 (g_Rk rfl) h21.1 h21.2 hb23 ?_
    obtain ⟨hO24, h⟩ := h
    refine r_invV x_223_36 (z := 135) (ns := 1) (by decide +kernel) (as := [.ref b4, .ref b22]) (r := []) rfl rfl rfl hO24 rfl rfl ?_
    refine r_callV h fun M25 hx26 hok27 h => ?_
    replace h := h hx26 hok27
    replace hO1 := hO1.up hx26
    replace hO24 := hO24.up hx26
    replace hA11 := hA11.up hx26
    replace hA20 := hA20.up hx26
    refine r_aload_n x_223_39 rfl ?_
    obtain ⟨b28, hb29, h⟩ := h
    refine r_getR x_223_40 rfl (ci := 11) (k := 0) (ns := 0) (by decide +kernel) (by decide) rfl (kz := 0) rfl hO1 hb29 ?_
    refine r_aload_n x_223_43 rfl ?_
    refine r_getI x_223_44 rfl (ci := 11) (k := 14) (ns := 0) (by decide +kernel) (by decide) rfl (kz := 14) rfl hO1 ?_
    refine r_invS x_223_47 (z := 112) (ns := 1) (by decide +kernel) (as := [.ref b28, g_n (g_i M25 a0 14)]) (r := []) rfl rfl rfl ?_
    refine r_callI h fun r33 M30 hx31 hok32 hr34 h => ?_
    replace h := h hx31 hok32 hr34
    replace hO1 := hO1.up hx31
    replace hO24 := hO24.up hx31
    replace hA11 := hA11.up hx31
    replace hA20 := hA20.up hx31
    refine r_istore_n x_223_50 (by decide +kernel) rfl (lv1 := [(0, .ref a0), (1, g_n r33)]) rfl ?_
    refine r_iconst x_223_51 ?_
    refine r_istore_n x_223_52 (by decide +kernel) rfl (lv1 := [(0, .ref a0), (1, g_n r33), (2, g_n 0)]) rfl ?_
    exact h
  · replace h := h.1 hc
    refine r_aload_n x_223_21 rfl ?_
    obtain ⟨b35, hb36, h⟩ := h
    refine r_getR x_223_22 rfl (ci := 11) (k := 9) (ns := 0) (by decide +kernel) (by decide) rfl (kz := 9) rfl hO1 hb36 ?_
    refine r_iconst x_223_25 ?_
    obtain ⟨n37, hA38, h⟩ := h
    obtain ⟨h39, h⟩ := h
    obtain ⟨b40, hb41, h⟩ := h
    refine r_aald x_223_26 (by decide) hA38 (g_Rk rfl) h39.1 h39.2 hb41 ?_
    refine r_goto x_223_27 (t := 36) (by decide +kernel) ?_
    obtain ⟨hO42, h⟩ := h
    refine r_invV x_223_36 (z := 135) (ns := 1) (by decide +kernel) (as := [.ref b4, .ref b40]) (r := []) rfl rfl rfl hO42 rfl rfl ?_
    refine r_callV h fun M43 hx44 hok45 h => ?_
    replace h := h hx44 hok45
    replace hO1 := hO1.up hx44
    replace hO42 := hO42.up hx44
    replace hA11 := hA11.up hx44
    replace hA38 := hA38.up hx44
    refine r_aload_n x_223_39 rfl ?_
    obtain ⟨b46, hb47, h⟩ := h
    refine r_getR x_223_40 rfl (ci := 11) (k := 0) (ns := 0) (by decide +kernel) (by decide) rfl (kz := 0) rfl hO1 hb47 ?_
    refine r_aload_n x_223_43 rfl ?_
    refine r_getI x_223_44 rfl (ci := 11) (k := 14) (ns := 0) (by decide +kernel) (by decide) rfl (kz := 14) rfl hO1 ?_
    refine r_invS x_223_47 (z := 112) (ns := 1) (by decide +kernel) (as := [.ref b46, g_n (g_i M43 a0 14)]) (r := []) rfl rfl rfl ?_
    refine r_callI h fun r51 M48 hx49 hok50 hr52 h => ?_
    replace h := h hx49 hok50 hr52
    replace hO1 := hO1.up hx49
    replace hO42 := hO42.up hx49
    replace hA11 := hA11.up hx49
    replace hA38 := hA38.up hx49
    refine r_istore_n x_223_50 (by decide +kernel) rfl (lv1 := [(0, .ref a0), (1, g_n r51)]) rfl ?_
    refine r_iconst x_223_51 ?_
    refine r_istore_n x_223_52 (by decide +kernel) rfl (lv1 := [(0, .ref a0), (1, g_n r51), (2, g_n 0)]) rfl ?_
    exact h
theorem s_X11_pipeline_53 {d : Nat} {M : g_M} {Q : g_M → Prop} {a0 : Nat} {v1 : Int} (hv1 : g_InR v1) {v2 : Int} (hv2 : g_InR v2) (h : g_ok M → ((v2 < 100000 → g_O M a0 11 ∧ ∃ b2, g_r M a0 0 = some b2 ∧ g_Call d 108 [.ref b2, g_n v1] M (g_qI fun r7 M4 => g_ext M M4 → g_ok M4 → g_InR r7 → ((r7 = 0 → g_Run d 223 177 [(0, .ref a0), (1, g_n v1), (2, g_n v2)] [] M4 (g_qV Q)) ∧ (¬ r7 = 0 → ∃ b9, g_r M4 a0 5 = some b9 ∧ g_O M4 b9 9 ∧ g_Call d 136 [.ref b9, g_n v1] M4 (g_qI fun r15 M12 => g_ext M4 M12 → g_ok M12 → g_InR r15 → ((r15 = 0 → ∃ b17, g_r M12 a0 5 = some b17 ∧ g_O M12 b17 9 ∧ g_Call d 139 [.ref b17, g_n v1] M12 (g_qI fun r23 M20 => g_ext M12 M20 → g_ok M20 → g_InR r23 → ((r23 = 0 → ∃ b25, g_r M20 a0 0 = some b25 ∧ g_Call d 111 [.ref b25, g_n v1] M20 (g_qI fun r30 M27 => g_ext M20 M27 → g_ok M27 → g_InR r30 → g_InR (v2 + 1) ∧ g_Run d 223 53 [(0, .ref a0), (1, g_n r30), (2, g_n (v2 + 1))] [] M27 (g_qV Q))) ∧ (¬ r23 = 0 → g_InR (30 + r23) ∧ g_Call d 198 [.ref a0, g_n (30 + r23), g_n v1] M20 (g_qV fun M34 => g_ext M20 M34 → g_ok M34 → Q M34))))) ∧ (¬ r15 = 0 → ∃ b37, g_r M12 a0 0 = some b37 ∧ g_Call d 112 [.ref b37, g_n v1] M12 (g_qI fun r42 M39 => g_ext M12 M39 → g_ok M39 → g_InR r42 → ∃ b44, g_r M39 a0 3 = some b44 ∧ g_O M39 b44 2 ∧ g_Call d 42 [.ref b44, g_n r42] M39 (g_qI fun r50 M47 => g_ext M39 M47 → g_ok M47 → g_InR r50 → ((r50 = 0 → ∃ b68, g_r M47 a0 3 = some b68 ∧ g_O M47 b68 2 ∧ g_InR (10 + (g_i M47 b68 4)) ∧ ∃ b72, g_r M47 a0 3 = some b72 ∧ g_O M47 b72 2 ∧ g_Call d 198 [.ref a0, g_n (10 + (g_i M47 b68 4)), g_n (g_i M47 b72 5)] M47 (g_qV fun M75 => g_ext M47 M75 → g_ok M75 → Q M75)) ∧ (¬ r50 = 0 → ∃ b52, g_r M47 a0 5 = some b52 ∧ ∃ b54, g_r M47 a0 3 = some b54 ∧ g_O M47 b52 9 ∧ g_Call d 137 [.ref b52, .ref b54, g_n r42] M47 (g_qV fun M57 => g_ext M47 M57 → g_ok M57 → ∃ b60, g_r M57 a0 0 = some b60 ∧ g_Call d 111 [.ref b60, g_n v1] M57 (g_qI fun r65 M62 => g_ext M57 M62 → g_ok M62 → g_InR r65 → g_InR (v2 + 1) ∧ g_Run d 223 53 [(0, .ref a0), (1, g_n r65), (2, g_n (v2 + 1))] [] M62 (g_qV Q)))))))))))))) ∧ (¬ v2 < 100000 → g_Run d 223 177 [(0, .ref a0), (1, g_n v1), (2, g_n v2)] [] M (g_qV Q)))) : g_Run d 223 53 [(0, .ref a0), (1, g_n v1), (2, g_n v2)] [] M (g_qV Q) := by
  refine g_Run.ok fun hok => ?_
  replace h := h hok
  refine r_iload_n x_223_53 rfl ?_
  refine r_ldcw x_223_54 (v := g_n 100000) rfl ?_
  refine r_ic_ge x_223_57 (t := 177) (by decide +kernel) hv2 (g_Rk rfl) (fun hc => ?_) (fun hc => ?_)
  · replace h := h.2 hc
    exact h
  · replace h := h.1 hc
    refine r_aload_n x_223_60 rfl ?_
    obtain ⟨hO1, h⟩ := h
    obtain ⟨b2, hb3, h⟩ := h
    refine r_getR x_223_61 rfl (ci := 11) (k := 0) (ns := 0) (by decide +kernel) (by decide) rfl (kz := 0) rfl hO1 hb3 ?_
    refine r_iload_n x_223_64 rfl ?_
    refine r_invS x_223_65 (z := 108) (ns := 1) (by decide +kernel) (as := [.ref b2, g_n v1]) (r := []) rfl rfl rfl ?_
    refine r_callI h fun r7 M4 hx5 hok6 hr8 h => ?_
    replace h := h hx5 hok6 hr8
    replace hO1 := hO1.up hx5
    refine r_if_eq x_223_68 (t := 177) (by decide +kernel) hr8 (fun hc => ?_) (fun hc => ?_)
    · replace h := h.1 hc
      exact h
    · replace h := h.2 hc
      refine r_aload_n x_223_71 rfl ?_
      obtain ⟨b9, hb10, h⟩ := h
      refine r_getR x_223_72 rfl (ci := 11) (k := 5) (ns := 0) (by decide +kernel) (by decide) rfl (kz := 5) rfl hO1 hb10 ?_
      refine r_iload_n x_223_75 rfl ?_
      obtain ⟨hO11, h⟩ := h
      refine r_invV x_223_76 (z := 136) (ns := 1) (by decide +kernel) (as := [g_n v1]) (r := []) rfl rfl rfl hO11 rfl rfl ?_
      refine r_callI h fun r15 M12 hx13 hok14 hr16 h => ?_
      replace h := h hx13 hok14 hr16
      replace hO1 := hO1.up hx13
      replace hO11 := hO11.up hx13
      refine r_if_eq x_223_79 (t := 139) (by decide +kernel) hr16 (fun hc => ?_) (fun hc => ?_)
      · replace h := h.1 hc
        refine r_aload_n x_223_139 rfl ?_
        obtain ⟨b17, hb18, h⟩ := h
        refine r_getR x_223_140 rfl (ci := 11) (k := 5) (ns := 0) (by decide +kernel) (by decide) rfl (kz := 5) rfl hO1 hb18 ?_
        refine r_iload_n x_223_143 rfl ?_
        obtain ⟨hO19, h⟩ := h
        refine r_invV x_223_144 (z := 139) (ns := 1) (by decide +kernel) (as := [g_n v1]) (r := []) rfl rfl rfl hO19 rfl rfl ?_
        refine r_callI h fun r23 M20 hx21 hok22 hr24 h => ?_
        replace h := h hx21 hok22 hr24
        replace hO1 := hO1.up hx21
        replace hO11 := hO11.up hx21
        replace hO19 := hO19.up hx21
        refine r_istore_n x_223_147 (by decide +kernel) rfl (lv1 := [(0, .ref a0), (1, g_n v1), (2, g_n v2), (3, g_n r23)]) rfl ?_
        refine r_iload_n x_223_148 rfl ?_
        refine r_if_eq x_223_149 (t := 162) (by decide +kernel) hr24 (fun hc => ?_) (fun hc => ?_)
        · replace h := h.1 hc
          refine r_aload_n x_223_162 rfl ?_
          obtain ⟨b25, hb26, h⟩ := h
          refine r_getR x_223_163 rfl (ci := 11) (k := 0) (ns := 0) (by decide +kernel) (by decide) rfl (kz := 0) rfl hO1 hb26 ?_
          refine r_iload_n x_223_166 rfl ?_
          refine r_invS x_223_167 (z := 111) (ns := 1) (by decide +kernel) (as := [.ref b25, g_n v1]) (r := []) rfl rfl rfl ?_
          refine r_callI h fun r30 M27 hx28 hok29 hr31 h => ?_
          replace h := h hx28 hok29 hr31
          replace hO1 := hO1.up hx28
          replace hO11 := hO11.up hx28
          replace hO19 := hO19.up hx28
          refine r_istore_n x_223_170 (by decide +kernel) rfl (lv1 := [(0, .ref a0), (1, g_n r30), (2, g_n v2), (3, g_n r23)]) rfl ?_
          obtain ⟨h32, h⟩ := h
          refine r_iinc x_223_171 (by decide +kernel) rfl rfl (lv1 := [(0, .ref a0), (1, g_n r30), (2, g_n (v2 + 1)), (3, g_n r23)]) rfl ?_
          refine r_goto x_223_174 (t := 53) (by decide +kernel) ?_
          refine g_drop [0, 1, 2] (lv1 := [(0, .ref a0), (1, g_n r30), (2, g_n (v2 + 1))]) rfl ?_
          exact h
        · replace h := h.2 hc
          refine r_aload_n x_223_152 rfl ?_
          refine r_bipush x_223_153 (x := 30) rfl ?_
          refine r_iload_n x_223_155 rfl ?_
          refine r_iadd x_223_156 ?_
          obtain ⟨h33, h⟩ := h
          refine r_iload_n x_223_157 rfl ?_
          refine r_invV x_223_158 (z := 198) (ns := 0) (by decide +kernel) (as := [g_n (30 + r23), g_n v1]) (r := []) rfl rfl rfl hO1 rfl rfl ?_
          refine r_callV h fun M34 hx35 hok36 h => ?_
          replace h := h hx35 hok36
          replace hO1 := hO1.up hx35
          replace hO11 := hO11.up hx35
          replace hO19 := hO19.up hx35
          exact r_retV x_223_161 rfl h
      · replace h := h.2 hc
        refine r_aload_n x_223_82 rfl ?_
        obtain ⟨b37, hb38, h⟩ := h
        refine r_getR x_223_83 rfl (ci := 11) (k := 0) (ns := 0) (by decide +kernel) (by decide) rfl (kz := 0) rfl hO1 hb38 ?_
        refine r_iload_n x_223_86 rfl ?_
        refine r_invS x_223_87 (z := 112) (ns := 1) (by decide +kernel) (as := [.ref b37, g_n v1]) (r := []) rfl rfl rfl ?_
        refine r_callI h fun r42 M39 hx40 hok41 hr43 h => ?_
        replace h := h hx40 hok41 hr43
        replace hO1 := hO1.up hx40
        replace hO11 := hO11.up hx40
        refine r_istore_n x_223_90 (by decide +kernel) rfl (lv1 := [(0, .ref a0), (1, g_n v1), (2, g_n v2), (3, g_n r42)]) rfl ?_
        refine r_aload_n x_223_91 rfl ?_
        obtain ⟨b44, hb45, h⟩ := h
        refine r_getR x_223_92 rfl (ci := 11) (k := 3) (ns := 0) (by decide +kernel) (by decide) rfl (kz := 3) rfl hO1 hb45 ?_
        refine r_iload_n x_223_95 rfl ?_
        obtain ⟨hO46, h⟩ := h
        refine r_invV x_223_96 (z := 42) (ns := 1) (by decide +kernel) (as := [g_n r42]) (r := []) rfl rfl rfl hO46 rfl rfl ?_
        refine r_callI h fun r50 M47 hx48 hok49 hr51 h => ?_
        replace h := h hx48 hok49 hr51
        replace hO1 := hO1.up hx48
        replace hO11 := hO11.up hx48
        replace hO46 := hO46.up hx48
        refine r_if_ne x_223_99 (t := 124) (by decide +kernel) hr51 (fun hc => ?_) (fun hc => ?_)
        · replace h := h.2 hc
          refine r_aload_n x_223_124 rfl ?_
          obtain ⟨b52, hb53, h⟩ := h
          refine r_getR x_223_125 rfl (ci := 11) (k := 5) (ns := 0) (by decide +kernel) (by decide) rfl (kz := 5) rfl hO1 hb53 ?_
          refine r_aload_n x_223_128 rfl ?_
          obtain ⟨b54, hb55, h⟩ := h
          refine r_getR x_223_129 rfl (ci := 11) (k := 3) (ns := 0) (by decide +kernel) (by decide) rfl (kz := 3) rfl hO1 hb55 ?_
          refine r_iload_n x_223_132 rfl ?_
          obtain ⟨hO56, h⟩ := h
          refine r_invV x_223_133 (z := 137) (ns := 1) (by decide +kernel) (as := [.ref b54, g_n r42]) (r := []) rfl rfl rfl hO56 rfl rfl ?_
          refine r_callV h fun M57 hx58 hok59 h => ?_
          replace h := h hx58 hok59
          replace hO1 := hO1.up hx58
          replace hO11 := hO11.up hx58
          replace hO46 := hO46.up hx58
          replace hO56 := hO56.up hx58
          refine r_goto x_223_136 (t := 162) (by decide +kernel) ?_
          refine r_aload_n x_223_162 rfl ?_
          obtain ⟨b60, hb61, h⟩ := h
          refine r_getR x_223_163 rfl (ci := 11) (k := 0) (ns := 0) (by decide +kernel) (by decide) rfl (kz := 0) rfl hO1 hb61 ?_
          refine r_iload_n x_223_166 rfl ?_
          refine r_invS x_223_167 (z := 111) (ns := 1) (by decide +kernel) (as := [.ref b60, g_n v1]) (r := []) rfl rfl rfl ?_
          refine r_callI h fun r65 M62 hx63 hok64 hr66 h => ?_
          replace h := h hx63 hok64 hr66
          replace hO1 := hO1.up hx63
          replace hO11 := hO11.up hx63
          replace hO46 := hO46.up hx63
          replace hO56 := hO56.up hx63
          refine r_istore_n x_223_170 (by decide +kernel) rfl (lv1 := [(0, .ref a0), (1, g_n r65), (2, g_n v2), (3, g_n r42)]) rfl ?_
          obtain ⟨h67, h⟩ := h
          refine r_iinc x_223_171 (by decide +kernel) rfl rfl (lv1 := [(0, .ref a0), (1, g_n r65), (2, g_n (v2 + 1)), (3, g_n r42)]) rfl ?_
          refine r_goto x_223_174 (t := 53) (by decide +kernel) ?_
          refine g_drop [0, 1, 2] (lv1 := [(0, .ref a0), (1, g_n r65), (2, g_n (v2 + 1))]) rfl ?_
          exact h
        · replace h := h.1 hc
          refine r_aload_n x_223_102 rfl ?_
          refine r_bipush x_223_103 (x := 10) rfl ?_
          refine r_aload_n x_223_105 rfl ?_
          obtain ⟨b68, hb69, h⟩ := h
          refine r_getR x_223_106 rfl (ci := 11) (k := 3) (ns := 0) (by decide +kernel) (by decide) rfl (kz := 3) rfl hO1 hb69 ?_
          obtain ⟨hO70, h⟩ := h
          refine r_getI x_223_109 rfl (ci := 2) (k := 4) (ns := 1) (by decide +kernel) (by decide) rfl (kz := 4) rfl hO70 ?_
          refine r_iadd x_223_112 ?_
          obtain ⟨h71, h⟩ := h
          refine r_aload_n x_223_113 rfl ?_
          obtain ⟨b72, hb73, h⟩ := h
          refine r_getR x_223_114 rfl (ci := 11) (k := 3) (ns := 0) (by decide +kernel) (by decide) rfl (kz := 3) rfl hO1 hb73 ?_
          obtain ⟨hO74, h⟩ := h
          refine r_getI x_223_117 rfl (ci := 2) (k := 5) (ns := 1) (by decide +kernel) (by decide) rfl (kz := 5) rfl hO74 ?_
          refine r_invV x_223_120 (z := 198) (ns := 0) (by decide +kernel) (as := [g_n (10 + (g_i M47 b68 4)), g_n (g_i M47 b72 5)]) (r := []) rfl rfl rfl hO1 rfl rfl ?_
          refine r_callV h fun M75 hx76 hok77 h => ?_
          replace h := h hx76 hok77
          replace hO1 := hO1.up hx76
          replace hO11 := hO11.up hx76
          replace hO46 := hO46.up hx76
          replace hO70 := hO70.up hx76
          replace hO74 := hO74.up hx76
          exact r_retV x_223_123 rfl h
theorem s_X11_pipeline_177 {d : Nat} {M : g_M} {Q : g_M → Prop} {a0 : Nat} {v1 : Int} (hv1 : g_InR v1) {v2 : Int} (hv2 : g_InR v2) (h : g_ok M → g_O M a0 11 ∧ ∃ b2, g_r M a0 1 = some b2 ∧ ∃ b4, g_r M a0 5 = some b4 ∧ g_O M b4 9 ∧ g_O M b2 4 ∧ g_Call d 87 [.ref b2, .ref (4 * 29 + 1), g_n (g_i M b4 14)] M (g_qV fun M8 => g_ext M M8 → g_ok M8 → ∃ b11, g_r M8 a0 1 = some b11 ∧ g_O M8 b11 4 ∧ g_Call d 81 [.ref b11, g_n 4, .ref (4 * 30 + 1)] M8 (g_qV fun M14 => g_ext M8 M14 → g_ok M14 → ∃ b17, g_r M14 a0 1 = some b17 ∧ g_O M14 b17 4 ∧ g_Call d 85 [.ref b17] M14 (g_qI fun r23 M20 => g_ext M14 M20 → g_ok M20 → g_InR r23 → g_Run d 223 215 [(0, .ref a0), (1, g_n v1), (2, g_n r23), (3, g_n 0)] [] M20 (g_qV Q))))) : g_Run d 223 177 [(0, .ref a0), (1, g_n v1), (2, g_n v2)] [] M (g_qV Q) := by
  refine g_Run.ok fun hok => ?_
  replace h := h hok
  refine r_aload_n x_223_177 rfl ?_
  obtain ⟨hO1, h⟩ := h
  obtain ⟨b2, hb3, h⟩ := h
  refine r_getR x_223_178 rfl (ci := 11) (k := 1) (ns := 0) (by decide +kernel) (by decide) rfl (kz := 1) rfl hO1 hb3 ?_
  refine r_ldcw x_223_181 (v := .ref (4 * 29 + 1)) rfl ?_
  refine r_aload_n x_223_184 rfl ?_
  obtain ⟨b4, hb5, h⟩ := h
  refine r_getR x_223_185 rfl (ci := 11) (k := 5) (ns := 0) (by decide +kernel) (by decide) rfl (kz := 5) rfl hO1 hb5 ?_
  obtain ⟨hO6, h⟩ := h
  refine r_getI x_223_188 rfl (ci := 9) (k := 14) (ns := 1) (by decide +kernel) (by decide) rfl (kz := 14) rfl hO6 ?_
  obtain ⟨hO7, h⟩ := h
  refine r_invV x_223_191 (z := 87) (ns := 1) (by decide +kernel) (as := [.ref (4 * 29 + 1), g_n (g_i M b4 14)]) (r := []) rfl rfl rfl hO7 rfl rfl ?_
  refine r_callV h fun M8 hx9 hok10 h => ?_
  replace h := h hx9 hok10
  replace hO1 := hO1.up hx9
  replace hO6 := hO6.up hx9
  replace hO7 := hO7.up hx9
  refine r_aload_n x_223_194 rfl ?_
  obtain ⟨b11, hb12, h⟩ := h
  refine r_getR x_223_195 rfl (ci := 11) (k := 1) (ns := 0) (by decide +kernel) (by decide) rfl (kz := 1) rfl hO1 hb12 ?_
  refine r_iconst x_223_198 ?_
  refine r_ldcw x_223_199 (v := .ref (4 * 30 + 1)) rfl ?_
  obtain ⟨hO13, h⟩ := h
  refine r_invV x_223_202 (z := 81) (ns := 1) (by decide +kernel) (as := [g_n 4, .ref (4 * 30 + 1)]) (r := []) rfl rfl rfl hO13 rfl rfl ?_
  refine r_callV h fun M14 hx15 hok16 h => ?_
  replace h := h hx15 hok16
  replace hO1 := hO1.up hx15
  replace hO6 := hO6.up hx15
  replace hO7 := hO7.up hx15
  replace hO13 := hO13.up hx15
  refine r_aload_n x_223_205 rfl ?_
  obtain ⟨b17, hb18, h⟩ := h
  refine r_getR x_223_206 rfl (ci := 11) (k := 1) (ns := 0) (by decide +kernel) (by decide) rfl (kz := 1) rfl hO1 hb18 ?_
  obtain ⟨hO19, h⟩ := h
  refine r_invV x_223_209 (z := 85) (ns := 1) (by decide +kernel) (as := []) (r := []) rfl rfl rfl hO19 rfl rfl ?_
  refine r_callI h fun r23 M20 hx21 hok22 hr24 h => ?_
  replace h := h hx21 hok22 hr24
  replace hO1 := hO1.up hx21
  replace hO6 := hO6.up hx21
  replace hO7 := hO7.up hx21
  replace hO13 := hO13.up hx21
  replace hO19 := hO19.up hx21
  refine r_istore_n x_223_212 (by decide +kernel) rfl (lv1 := [(0, .ref a0), (1, g_n v1), (2, g_n r23)]) rfl ?_
  refine r_iconst x_223_213 ?_
  refine r_istore_n x_223_214 (by decide +kernel) rfl (lv1 := [(0, .ref a0), (1, g_n v1), (2, g_n r23), (3, g_n 0)]) rfl ?_
  exact h
theorem s_X11_pipeline_215 {d : Nat} {M : g_M} {Q : g_M → Prop} {a0 : Nat} {v1 : Int} (hv1 : g_InR v1) {v2 : Int} (hv2 : g_InR v2) {v3 : Int} (hv3 : g_InR v3) (h : g_ok M → g_O M a0 11 ∧ ∃ b2, g_r M a0 5 = some b2 ∧ g_O M b2 9 ∧ ((v3 < g_i M b2 14 → ∃ b11, g_r M a0 1 = some b11 ∧ g_O M b11 4 ∧ g_Call d 83 [.ref b11, g_n 3, g_n v3] M (g_qV fun M14 => g_ext M M14 → g_ok M14 → ∃ b17, g_r M14 a0 1 = some b17 ∧ ∃ b19, g_r M14 a0 0 = some b19 ∧ ∃ b21, g_r M14 a0 5 = some b21 ∧ g_O M14 b21 9 ∧ ∃ b24, g_r M14 b21 6 = some b24 ∧ ∃ n26, g_A M14 b24 1 n26 ∧ ((0 : Int) ≤ v3 ∧ (v3 : Int) < n26) ∧ g_O M14 b17 4 ∧ g_Call d 84 [.ref b17, .ref b19, g_n (g_i M14 b24 v3)] M14 (g_qV fun M30 => g_ext M14 M30 → g_ok M30 → g_InR (v3 + 1) ∧ g_Run d 223 215 [(0, .ref a0), (1, g_n v1), (2, g_n v2), (3, g_n (v3 + 1))] [] M30 (g_qV Q)))) ∧ (¬ v3 < g_i M b2 14 → ∃ b5, g_r M a0 1 = some b5 ∧ g_O M b5 4 ∧ g_Call d 86 [.ref b5, g_n v2] M (g_qV fun M8 => g_ext M M8 → g_ok M8 → Q M8)))) : g_Run d 223 215 [(0, .ref a0), (1, g_n v1), (2, g_n v2), (3, g_n v3)] [] M (g_qV Q) := by
  refine g_Run.ok fun hok => ?_
  replace h := h hok
  refine r_iload_n x_223_215 rfl ?_
  refine r_aload_n x_223_216 rfl ?_
  obtain ⟨hO1, h⟩ := h
  obtain ⟨b2, hb3, h⟩ := h
  refine r_getR x_223_217 rfl (ci := 11) (k := 5) (ns := 0) (by decide +kernel) (by decide) rfl (kz := 5) rfl hO1 hb3 ?_
  obtain ⟨hO4, h⟩ := h
  refine r_getI x_223_220 rfl (ci := 9) (k := 14) (ns := 1) (by decide +kernel) (by decide) rfl (kz := 14) rfl hO4 ?_
  refine r_ic_ge x_223_223 (t := 261) (by decide +kernel) hv3 (hok.1 _ _) (fun hc => ?_) (fun hc => ?_)
  · replace h := h.2 hc
    refine r_aload_n x_223_261 rfl ?_
    obtain ⟨b5, hb6, h⟩ := h
    refine r_getR x_223_262 rfl (ci := 11) (k := 1) (ns := 0) (by decide +kernel) (by decide) rfl (kz := 1) rfl hO1 hb6 ?_
    refine r_iload_n x_223_265 rfl ?_
    obtain ⟨hO7, h⟩ := h
    refine r_invV x_223_266 (z := 86) (ns := 1) (by decide +kernel) (as := [g_n v2]) (r := []) rfl rfl rfl hO7 rfl rfl ?_
    refine r_callV h fun M8 hx9 hok10 h => ?_
    replace h := h hx9 hok10
    replace hO1 := hO1.up hx9
    replace hO4 := hO4.up hx9
    replace hO7 := hO7.up hx9
    exact r_retV x_223_269 rfl h
  · replace h := h.1 hc
    refine r_aload_n x_223_226 rfl ?_
    obtain ⟨b11, hb12, h⟩ := h
    refine r_getR x_223_227 rfl (ci := 11) (k := 1) (ns := 0) (by decide +kernel) (by decide) rfl (kz := 1) rfl hO1 hb12 ?_
    refine r_iconst x_223_230 ?_
    refine r_iload_n x_223_231 rfl ?_
    obtain ⟨hO13, h⟩ := h
    refine r_invV x_223_232 (z := 83) (ns := 1) (by decide +kernel) (as := [g_n 3, g_n v3]) (r := []) rfl rfl rfl hO13 rfl rfl ?_
    refine r_callV h fun M14 hx15 hok16 h => ?_
    replace h := h hx15 hok16
    replace hO1 := hO1.up hx15
    replace hO4 := hO4.up hx15
    replace hO13 := hO13.up hx15
    refine r_aload_n x_223_235 rfl ?_
    obtain ⟨b17, hb18, h⟩ := h
    refine r_getR x_223_236 rfl (ci := 11) (k := 1) (ns := 0) (by decide +kernel) (by decide) rfl (kz := 1) rfl hO1 hb18 ?_
    refine r_aload_n x_223_239 rfl ?_
    obtain ⟨b19, hb20, h⟩ := h
    refine r_getR x_223_240 rfl (ci := 11) (k := 0) (ns := 0) (by decide +kernel) (by decide) rfl (kz := 0) rfl hO1 hb20 ?_
    refine r_aload_n x_223_243 rfl ?_
    obtain ⟨b21, hb22, h⟩ := h
    refine r_getR x_223_244 rfl (ci := 11) (k := 5) (ns := 0) (by decide +kernel) (by decide) rfl (kz := 5) rfl hO1 hb22 ?_
    obtain ⟨hO23, h⟩ := h
    obtain ⟨b24, hb25, h⟩ := h
    refine r_getR x_223_247 rfl (ci := 9) (k := 6) (ns := 1) (by decide +kernel) (by decide) rfl (kz := 6) rfl hO23 hb25 ?_
    refine r_iload_n x_223_250 rfl ?_
    obtain ⟨n26, hA27, h⟩ := h
    obtain ⟨h28, h⟩ := h
    refine r_iald x_223_251 hA27 hv3 h28.1 h28.2 ?_
    obtain ⟨hO29, h⟩ := h
    refine r_invV x_223_252 (z := 84) (ns := 1) (by decide +kernel) (as := [.ref b19, g_n (g_i M14 b24 v3)]) (r := []) rfl rfl rfl hO29 rfl rfl ?_
    refine r_callV h fun M30 hx31 hok32 h => ?_
    replace h := h hx31 hok32
    replace hO1 := hO1.up hx31
    replace hO4 := hO4.up hx31
    replace hO13 := hO13.up hx31
    replace hO23 := hO23.up hx31
    replace hO29 := hO29.up hx31
    replace hA27 := hA27.up hx31
    obtain ⟨h33, h⟩ := h
    refine r_iinc x_223_255 (by decide +kernel) rfl rfl (lv1 := [(0, .ref a0), (1, g_n v1), (2, g_n v2), (3, g_n (v3 + 1))]) rfl ?_
    refine r_goto x_223_258 (t := 215) (by decide +kernel) ?_
    exact h
theorem m_X11_explain {d : Nat} {M : g_M} {Q : g_M → Prop} {a0 : Nat} (h : g_ok M → g_O M a0 11 ∧ ∃ b2, g_r M a0 3 = some b2 ∧ g_O M b2 2 ∧ g_Call d 42 [.ref b2, g_n (g_i M a0 14)] M (g_qI fun r8 M5 => g_ext M M5 → g_ok M5 → g_InR r8 → ((r8 = 0 → ∃ b13, g_r M5 a0 3 = some b13 ∧ g_O M5 b13 2 ∧ g_InR (10 + (g_i M5 b13 4)) ∧ ∃ b17, g_r M5 a0 3 = some b17 ∧ g_O M5 b17 2 ∧ g_Call d 198 [.ref a0, g_n (10 + (g_i M5 b13 4)), g_n (g_i M5 b17 5)] M5 (g_qV fun M20 => g_ext M5 M20 → g_ok M20 → Q M20)) ∧ (¬ r8 = 0 → ∃ b10, g_r M5 a0 16 = some b10 ∧ g_O M5 b10 8 ∧ g_Run d 224 54 [(0, .ref a0), (1, g_n ((-1))), (2, g_n 0), (3, g_n 1), (4, g_n (g_i M5 b10 6)), (5, g_n 0)] [] M5 (g_qV Q))))) : g_Call (d + 1) 224 [.ref a0] M (g_qV Q) := by
  refine g_Call.ok fun hok0 => ?_
  replace h := h hok0
  refine r_body rfl (lv := [(0, .ref a0)]) rfl ?_
  refine g_Run.ok fun hok => ?_
  refine r_aload_n x_224_0 rfl ?_
  obtain ⟨hO1, h⟩ := h
  obtain ⟨b2, hb3, h⟩ := h
  refine r_getR x_224_1 rfl (ci := 11) (k := 3) (ns := 0) (by decide +kernel) (by decide) rfl (kz := 3) rfl hO1 hb3 ?_
  refine r_aload_n x_224_4 rfl ?_
  refine r_getI x_224_5 rfl (ci := 11) (k := 14) (ns := 0) (by decide +kernel) (by decide) rfl (kz := 14) rfl hO1 ?_
  obtain ⟨hO4, h⟩ := h
  refine r_invV x_224_8 (z := 42) (ns := 1) (by decide +kernel) (as := [g_n (g_i M a0 14)]) (r := []) rfl rfl rfl hO4 rfl rfl ?_
  refine r_callI h fun r8 M5 hx6 hok7 hr9 h => ?_
  replace h := h hx6 hok7 hr9
  replace hO1 := hO1.up hx6
  replace hO4 := hO4.up hx6
  refine r_if_ne x_224_11 (t := 36) (by decide +kernel) hr9 (fun hc => ?_) (fun hc => ?_)
  · replace h := h.2 hc
    refine r_iconst x_224_36 ?_
    refine r_istore_n x_224_37 (by decide +kernel) rfl (lv1 := [(0, .ref a0), (1, g_n ((-1)))]) rfl ?_
    refine r_iconst x_224_38 ?_
    refine r_istore_n x_224_39 (by decide +kernel) rfl (lv1 := [(0, .ref a0), (1, g_n ((-1))), (2, g_n 0)]) rfl ?_
    refine r_iconst x_224_40 ?_
    refine r_istore_n x_224_41 (by decide +kernel) rfl (lv1 := [(0, .ref a0), (1, g_n ((-1))), (2, g_n 0), (3, g_n 1)]) rfl ?_
    refine r_aload_n x_224_42 rfl ?_
    obtain ⟨b10, hb11, h⟩ := h
    refine r_getR x_224_43 rfl (ci := 11) (k := 16) (ns := 0) (by decide +kernel) (by decide) rfl (kz := 16) rfl hO1 hb11 ?_
    obtain ⟨hO12, h⟩ := h
    refine r_getI x_224_46 rfl (ci := 8) (k := 6) (ns := 1) (by decide +kernel) (by decide) rfl (kz := 6) rfl hO12 ?_
    refine r_istore x_224_49 (by decide +kernel) rfl (lv1 := [(0, .ref a0), (1, g_n ((-1))), (2, g_n 0), (3, g_n 1), (4, g_n (g_i M5 b10 6))]) rfl ?_
    refine r_iconst x_224_51 ?_
    refine r_istore x_224_52 (by decide +kernel) rfl (lv1 := [(0, .ref a0), (1, g_n ((-1))), (2, g_n 0), (3, g_n 1), (4, g_n (g_i M5 b10 6)), (5, g_n 0)]) rfl ?_
    exact h
  · replace h := h.1 hc
    refine r_aload_n x_224_14 rfl ?_
    refine r_bipush x_224_15 (x := 10) rfl ?_
    refine r_aload_n x_224_17 rfl ?_
    obtain ⟨b13, hb14, h⟩ := h
    refine r_getR x_224_18 rfl (ci := 11) (k := 3) (ns := 0) (by decide +kernel) (by decide) rfl (kz := 3) rfl hO1 hb14 ?_
    obtain ⟨hO15, h⟩ := h
    refine r_getI x_224_21 rfl (ci := 2) (k := 4) (ns := 1) (by decide +kernel) (by decide) rfl (kz := 4) rfl hO15 ?_
    refine r_iadd x_224_24 ?_
    obtain ⟨h16, h⟩ := h
    refine r_aload_n x_224_25 rfl ?_
    obtain ⟨b17, hb18, h⟩ := h
    refine r_getR x_224_26 rfl (ci := 11) (k := 3) (ns := 0) (by decide +kernel) (by decide) rfl (kz := 3) rfl hO1 hb18 ?_
    obtain ⟨hO19, h⟩ := h
    refine r_getI x_224_29 rfl (ci := 2) (k := 5) (ns := 1) (by decide +kernel) (by decide) rfl (kz := 5) rfl hO19 ?_
    refine r_invV x_224_32 (z := 198) (ns := 0) (by decide +kernel) (as := [g_n (10 + (g_i M5 b13 4)), g_n (g_i M5 b17 5)]) (r := []) rfl rfl rfl hO1 rfl rfl ?_
    refine r_callV h fun M20 hx21 hok22 h => ?_
    replace h := h hx21 hok22
    replace hO1 := hO1.up hx21
    replace hO4 := hO4.up hx21
    replace hO15 := hO15.up hx21
    replace hO19 := hO19.up hx21
    exact r_retV x_224_35 rfl h
theorem s_X11_explain_54 {d : Nat} {M : g_M} {Q : g_M → Prop} {a0 : Nat} {v1 : Int} (hv1 : g_InR v1) {v2 : Int} (hv2 : g_InR v2) {v3 : Int} (hv3 : g_InR v3) {v4 : Int} (hv4 : g_InR v4) {v5 : Int} (hv5 : g_InR v5) (h : g_ok M → ((v5 < 4 → g_O M a0 11 ∧ ∃ b27, g_r M a0 16 = some b27 ∧ g_O M b27 8 ∧ ∃ b30, g_r M b27 4 = some b30 ∧ ∃ n32, g_A M b30 3 n32 ∧ ((0 : Int) ≤ v5 ∧ (v5 : Int) < n32) ∧ ∃ b35, g_r M b30 v5 = some b35 ∧ g_O M b35 3 ∧ ((g_i M b35 9 = 0 → g_InR (v5 + 1) ∧ g_Run d 224 54 [(0, .ref a0), (1, g_n v1), (2, g_n v2), (3, g_n v3), (4, g_n v4), (5, g_n (v5 + 1))] [] M (g_qV Q)) ∧ (¬ g_i M b35 9 = 0 → ∃ b38, g_r M a0 6 = some b38 ∧ ∃ b40, g_r M b35 2 = some b40 ∧ g_O M b38 0 ∧ g_Call d 6 [.ref b38, g_n (g_i M a0 14), .ref b40, g_n (g_i M b35 11), g_n 0] M (g_qI fun r46 M43 => g_ext M M43 → g_ok M43 → g_InR r46 → ((g_i M43 b35 10 = 0 → g_Run d 224 145 [(0, .ref a0), (1, g_n v1), (2, g_n v2), (3, g_n v3), (4, g_n v4), (5, g_n v5), (6, .ref b35), (7, g_n r46)] [g_n 0] M43 (g_qV Q)) ∧ (¬ g_i M43 b35 10 = 0 → ∃ b48, g_r M43 a0 6 = some b48 ∧ ∃ b50, g_r M43 b35 3 = some b50 ∧ g_O M43 b48 0 ∧ g_Call d 6 [.ref b48, g_n (g_i M43 a0 14), .ref b50, g_n (g_i M43 b35 12), g_n 1] M43 (g_qI fun r56 M53 => g_ext M43 M53 → g_ok M53 → g_InR r56 → ((r56 = 0 → g_Run d 224 145 [(0, .ref a0), (1, g_n v1), (2, g_n v2), (3, g_n v3), (4, g_n v4), (5, g_n v5), (6, .ref b35), (7, g_n r46)] [g_n 0] M53 (g_qV Q)) ∧ (¬ r56 = 0 → g_Run d 224 145 [(0, .ref a0), (1, g_n v1), (2, g_n v2), (3, g_n v3), (4, g_n v4), (5, g_n v5), (6, .ref b35), (7, g_n r46)] [g_n 1] M53 (g_qV Q)))))))))) ∧ (¬ v5 < 4 → g_O M a0 11 ∧ ∃ b2, g_r M a0 1 = some b2 ∧ g_O M b2 4 ∧ g_Call d 87 [.ref b2, .ref (4 * 5 + 1), g_n v1] M (g_qV fun M5 => g_ext M M5 → g_ok M5 → ∃ b8, g_r M5 a0 1 = some b8 ∧ g_O M5 b8 4 ∧ g_Call d 87 [.ref b8, .ref (4 * 62 + 1), g_n v2] M5 (g_qV fun M11 => g_ext M5 M11 → g_ok M11 → ∃ b14, g_r M11 a0 1 = some b14 ∧ g_O M11 b14 4 ∧ g_Call d 87 [.ref b14, .ref (4 * 63 + 1), g_n v3] M11 (g_qV fun M17 => g_ext M11 M17 → g_ok M17 → ∃ b20, g_r M17 a0 1 = some b20 ∧ g_O M17 b20 4 ∧ g_Call d 87 [.ref b20, .ref (4 * 64 + 1), g_n v4] M17 (g_qV fun M23 => g_ext M17 M23 → g_ok M23 → Q M23))))))) : g_Run d 224 54 [(0, .ref a0), (1, g_n v1), (2, g_n v2), (3, g_n v3), (4, g_n v4), (5, g_n v5)] [] M (g_qV Q) := by
  refine g_Run.ok fun hok => ?_
  replace h := h hok
  refine r_iload x_224_54 rfl ?_
  refine r_iconst x_224_56 ?_
  refine r_ic_ge x_224_57 (t := 236) (by decide +kernel) hv5 (g_Rk rfl) (fun hc => ?_) (fun hc => ?_)
  · replace h := h.2 hc
    refine r_aload_n x_224_236 rfl ?_
    obtain ⟨hO1, h⟩ := h
    obtain ⟨b2, hb3, h⟩ := h
    refine r_getR x_224_237 rfl (ci := 11) (k := 1) (ns := 0) (by decide +kernel) (by decide) rfl (kz := 1) rfl hO1 hb3 ?_
    refine r_ldc x_224_240 (v := .ref (4 * 5 + 1)) rfl ?_
    refine r_iload_n x_224_242 rfl ?_
    obtain ⟨hO4, h⟩ := h
    refine r_invV x_224_243 (z := 87) (ns := 1) (by decide +kernel) (as := [.ref (4 * 5 + 1), g_n v1]) (r := []) rfl rfl rfl hO4 rfl rfl ?_
    refine r_callV h fun M5 hx6 hok7 h => ?_
    replace h := h hx6 hok7
    replace hO1 := hO1.up hx6
    replace hO4 := hO4.up hx6
    refine r_aload_n x_224_246 rfl ?_
    obtain ⟨b8, hb9, h⟩ := h
    refine r_getR x_224_247 rfl (ci := 11) (k := 1) (ns := 0) (by decide +kernel) (by decide) rfl (kz := 1) rfl hO1 hb9 ?_
    refine r_ldcw x_224_250 (v := .ref (4 * 62 + 1)) rfl ?_
    refine r_iload_n x_224_253 rfl ?_
    obtain ⟨hO10, h⟩ := h
    refine r_invV x_224_254 (z := 87) (ns := 1) (by decide +kernel) (as := [.ref (4 * 62 + 1), g_n v2]) (r := []) rfl rfl rfl hO10 rfl rfl ?_
    refine r_callV h fun M11 hx12 hok13 h => ?_
    replace h := h hx12 hok13
    replace hO1 := hO1.up hx12
    replace hO4 := hO4.up hx12
    replace hO10 := hO10.up hx12
    refine r_aload_n x_224_257 rfl ?_
    obtain ⟨b14, hb15, h⟩ := h
    refine r_getR x_224_258 rfl (ci := 11) (k := 1) (ns := 0) (by decide +kernel) (by decide) rfl (kz := 1) rfl hO1 hb15 ?_
    refine r_ldcw x_224_261 (v := .ref (4 * 63 + 1)) rfl ?_
    refine r_iload_n x_224_264 rfl ?_
    obtain ⟨hO16, h⟩ := h
    refine r_invV x_224_265 (z := 87) (ns := 1) (by decide +kernel) (as := [.ref (4 * 63 + 1), g_n v3]) (r := []) rfl rfl rfl hO16 rfl rfl ?_
    refine r_callV h fun M17 hx18 hok19 h => ?_
    replace h := h hx18 hok19
    replace hO1 := hO1.up hx18
    replace hO4 := hO4.up hx18
    replace hO10 := hO10.up hx18
    replace hO16 := hO16.up hx18
    refine r_aload_n x_224_268 rfl ?_
    obtain ⟨b20, hb21, h⟩ := h
    refine r_getR x_224_269 rfl (ci := 11) (k := 1) (ns := 0) (by decide +kernel) (by decide) rfl (kz := 1) rfl hO1 hb21 ?_
    refine r_ldcw x_224_272 (v := .ref (4 * 64 + 1)) rfl ?_
    refine r_iload x_224_275 rfl ?_
    obtain ⟨hO22, h⟩ := h
    refine r_invV x_224_277 (z := 87) (ns := 1) (by decide +kernel) (as := [.ref (4 * 64 + 1), g_n v4]) (r := []) rfl rfl rfl hO22 rfl rfl ?_
    refine r_callV h fun M23 hx24 hok25 h => ?_
    replace h := h hx24 hok25
    replace hO1 := hO1.up hx24
    replace hO4 := hO4.up hx24
    replace hO10 := hO10.up hx24
    replace hO16 := hO16.up hx24
    replace hO22 := hO22.up hx24
    exact r_retV x_224_280 rfl h
  · replace h := h.1 hc
    refine r_aload_n x_224_60 rfl ?_
    obtain ⟨hO26, h⟩ := h
    obtain ⟨b27, hb28, h⟩ := h
    refine r_getR x_224_61 rfl (ci := 11) (k := 16) (ns := 0) (by decide +kernel) (by decide) rfl (kz := 16) rfl hO26 hb28 ?_
    obtain ⟨hO29, h⟩ := h
    obtain ⟨b30, hb31, h⟩ := h
    refine r_getR x_224_64 rfl (ci := 8) (k := 4) (ns := 1) (by decide +kernel) (by decide) rfl (kz := 4) rfl hO29 hb31 ?_
    refine r_iload x_224_67 rfl ?_
    obtain ⟨n32, hA33, h⟩ := h
    obtain ⟨h34, h⟩ := h
    obtain ⟨b35, hb36, h⟩ := h
    refine r_aald x_224_69 (by decide) hA33 hv5 h34.1 h34.2 hb36 ?_
    refine r_astore x_224_70 (o := (some b35)) (by decide +kernel) rfl (lv1 := [(0, .ref a0), (1, g_n v1), (2, g_n v2), (3, g_n v3), (4, g_n v4), (5, g_n v5), (6, .ref b35)]) rfl ?_
    refine r_aload x_224_72 rfl ?_
    obtain ⟨hO37, h⟩ := h
    refine r_getI x_224_74 rfl (ci := 3) (k := 9) (ns := 1) (by decide +kernel) (by decide) rfl (kz := 9) rfl hO37 ?_
    refine r_if_ne x_224_77 (t := 83) (by decide +kernel) (hok.1 _ _) (fun hc => ?_) (fun hc => ?_)
    · replace h := h.2 hc
      refine r_aload_n x_224_83 rfl ?_
      obtain ⟨b38, hb39, h⟩ := h
      refine r_getR x_224_84 rfl (ci := 11) (k := 6) (ns := 0) (by decide +kernel) (by decide) rfl (kz := 6) rfl hO26 hb39 ?_
      refine r_aload_n x_224_87 rfl ?_
      refine r_getI x_224_88 rfl (ci := 11) (k := 14) (ns := 0) (by decide +kernel) (by decide) rfl (kz := 14) rfl hO26 ?_
      refine r_aload x_224_91 rfl ?_
      obtain ⟨b40, hb41, h⟩ := h
      refine r_getR x_224_93 rfl (ci := 3) (k := 2) (ns := 1) (by decide +kernel) (by decide) rfl (kz := 2) rfl hO37 hb41 ?_
      refine r_aload x_224_96 rfl ?_
      refine r_getI x_224_98 rfl (ci := 3) (k := 11) (ns := 1) (by decide +kernel) (by decide) rfl (kz := 11) rfl hO37 ?_
      refine r_iconst x_224_101 ?_
      obtain ⟨hO42, h⟩ := h
      refine r_invV x_224_102 (z := 6) (ns := 1) (by decide +kernel) (as := [g_n (g_i M a0 14), .ref b40, g_n (g_i M b35 11), g_n 0]) (r := []) rfl rfl rfl hO42 rfl rfl ?_
      refine r_callI h fun r46 M43 hx44 hok45 hr47 h => ?_
      replace h := h hx44 hok45 hr47
      replace hO26 := hO26.up hx44
      replace hO29 := hO29.up hx44
      replace hO37 := hO37.up hx44
      replace hO42 := hO42.up hx44
      replace hA33 := hA33.up hx44
      refine r_istore x_224_105 (by decide +kernel) rfl (lv1 := [(0, .ref a0), (1, g_n v1), (2, g_n v2), (3, g_n v3), (4, g_n v4), (5, g_n v5), (6, .ref b35), (7, g_n r46)]) rfl ?_
      refine r_aload x_224_107 rfl ?_
      refine r_getI x_224_109 rfl (ci := 3) (k := 10) (ns := 1) (by decide +kernel) (by decide) rfl (kz := 10) rfl hO37 ?_
      refine r_if_eq x_224_112 (t := 144) (by decide +kernel) (hok45.1 _ _) (fun hc => ?_) (fun hc => ?_)
      · replace h := h.1 hc
        refine r_iconst x_224_144 ?_
        exact h
      · replace h := h.2 hc
        refine r_aload_n x_224_115 rfl ?_
        obtain ⟨b48, hb49, h⟩ := h
        refine r_getR x_224_116 rfl (ci := 11) (k := 6) (ns := 0) (by decide +kernel) (by decide) rfl (kz := 6) rfl hO26 hb49 ?_
        refine r_aload_n x_224_119 rfl ?_
        refine r_getI x_224_120 rfl (ci := 11) (k := 14) (ns := 0) (by decide +kernel) (by decide) rfl (kz := 14) rfl hO26 ?_
        refine r_aload x_224_123 rfl ?_
        obtain ⟨b50, hb51, h⟩ := h
        refine r_getR x_224_125 rfl (ci := 3) (k := 3) (ns := 1) (by decide +kernel) (by decide) rfl (kz := 3) rfl hO37 hb51 ?_
        refine r_aload x_224_128 rfl ?_
        refine r_getI x_224_130 rfl (ci := 3) (k := 12) (ns := 1) (by decide +kernel) (by decide) rfl (kz := 12) rfl hO37 ?_
        refine r_iconst x_224_133 ?_
        obtain ⟨hO52, h⟩ := h
        refine r_invV x_224_134 (z := 6) (ns := 1) (by decide +kernel) (as := [g_n (g_i M43 a0 14), .ref b50, g_n (g_i M43 b35 12), g_n 1]) (r := []) rfl rfl rfl hO52 rfl rfl ?_
        refine r_callI h fun r56 M53 hx54 hok55 hr57 h => ?_
        replace h := h hx54 hok55 hr57
        replace hO26 := hO26.up hx54
        replace hO29 := hO29.up hx54
        replace hO37 := hO37.up hx54
        replace hO42 := hO42.up hx54
        replace hO52 := hO52.up hx54
        replace hA33 := hA33.up hx54
        refine r_if_eq x_224_137 (t := 144) (by decide +kernel) hr57 (fun hc => ?_) (fun hc => ?_)
        · replace h := h.1 hc
          refine r_iconst x_224_144 ?_
          exact h
        · replace h := h.2 hc
          refine r_iconst x_224_140 ?_
          refine r_goto x_224_141 (t := 145) (by decide +kernel) ?_
          exact h
    · replace h := h.1 hc
      refine r_goto x_224_80 (t := 230) (by decide +kernel) ?_
      obtain ⟨h58, h⟩ := h
      refine r_iinc x_224_230 (by decide +kernel) rfl rfl (lv1 := [(0, .ref a0), (1, g_n v1), (2, g_n v2), (3, g_n v3), (4, g_n v4), (5, g_n (v5 + 1)), (6, .ref b35)]) rfl ?_
      refine r_goto x_224_233 (t := 54) (by decide +kernel) ?_
      refine g_drop [0, 1, 2, 3, 4, 5] (lv1 := [(0, .ref a0), (1, g_n v1), (2, g_n v2), (3, g_n v3), (4, g_n v4), (5, g_n (v5 + 1))]) rfl ?_
      exact h
theorem s_X11_explain_145 {d : Nat} {M : g_M} {Q : g_M → Prop} {a0 : Nat} {v1 : Int} (hv1 : g_InR v1) {v2 : Int} (hv2 : g_InR v2) {v3 : Int} (hv3 : g_InR v3) {v4 : Int} (hv4 : g_InR v4) {v5 : Int} (hv5 : g_InR v5) {a6 : Nat} {v7 : Int} (hv7 : g_InR v7) {w0 : Int} (hw0 : g_InR w0) (h : g_ok M → g_O M a0 11 ∧ ∃ b2, g_r M a0 6 = some b2 ∧ g_O M b2 0 ∧ g_Call d 1 [.ref b2, g_n v7, g_n w0] M (g_qV fun M5 => g_ext M M5 → g_ok M5 → ∃ b8, g_r M5 a0 6 = some b8 ∧ g_O M5 b8 0 ∧ ((v2 < g_i M5 b8 4 → g_Run d 224 196 [(0, .ref a0), (1, g_n v1), (2, g_n v2), (3, g_n v3), (4, g_n v4), (5, g_n v5), (6, .ref a6), (7, g_n v7), (8, g_n w0)] [] M5 (g_qV Q)) ∧ (¬ v2 < g_i M5 b8 4 → ((v7 = 0 → g_InR (v5 + 1) ∧ g_Run d 224 54 [(0, .ref a0), (1, g_n v1), (2, g_n v2), (3, g_n v3), (4, g_n v4), (5, g_n (v5 + 1))] [] M5 (g_qV Q)) ∧ (¬ v7 = 0 → ∃ b12, g_r M5 a0 6 = some b12 ∧ g_O M5 b12 0 ∧ ((g_i M5 b12 4 = v2 → ∃ b16, g_r M5 a0 6 = some b16 ∧ g_O M5 b16 0 ∧ ((g_i M5 b16 5 < v3 → g_Run d 224 196 [(0, .ref a0), (1, g_n v1), (2, g_n v2), (3, g_n v3), (4, g_n v4), (5, g_n v5), (6, .ref a6), (7, g_n v7), (8, g_n w0)] [] M5 (g_qV Q)) ∧ (¬ g_i M5 b16 5 < v3 → g_InR (v5 + 1) ∧ g_Run d 224 54 [(0, .ref a0), (1, g_n v1), (2, g_n v2), (3, g_n v3), (4, g_n v4), (5, g_n (v5 + 1))] [] M5 (g_qV Q)))) ∧ (¬ g_i M5 b12 4 = v2 → g_InR (v5 + 1) ∧ g_Run d 224 54 [(0, .ref a0), (1, g_n v1), (2, g_n v2), (3, g_n v3), (4, g_n v4), (5, g_n (v5 + 1))] [] M5 (g_qV Q))))))))) : g_Run d 224 145 [(0, .ref a0), (1, g_n v1), (2, g_n v2), (3, g_n v3), (4, g_n v4), (5, g_n v5), (6, .ref a6), (7, g_n v7)] [g_n w0] M (g_qV Q) := by
  refine g_Run.ok fun hok => ?_
  replace h := h hok
  refine r_istore x_224_145 (by decide +kernel) rfl (lv1 := [(0, .ref a0), (1, g_n v1), (2, g_n v2), (3, g_n v3), (4, g_n v4), (5, g_n v5), (6, .ref a6), (7, g_n v7), (8, g_n w0)]) rfl ?_
  refine r_aload_n x_224_147 rfl ?_
  obtain ⟨hO1, h⟩ := h
  obtain ⟨b2, hb3, h⟩ := h
  refine r_getR x_224_148 rfl (ci := 11) (k := 6) (ns := 0) (by decide +kernel) (by decide) rfl (kz := 6) rfl hO1 hb3 ?_
  refine r_iload x_224_151 rfl ?_
  refine r_iload x_224_153 rfl ?_
  obtain ⟨hO4, h⟩ := h
  refine r_invV x_224_155 (z := 1) (ns := 1) (by decide +kernel) (as := [g_n v7, g_n w0]) (r := []) rfl rfl rfl hO4 rfl rfl ?_
  refine r_callV h fun M5 hx6 hok7 h => ?_
  replace h := h hx6 hok7
  replace hO1 := hO1.up hx6
  replace hO4 := hO4.up hx6
  refine r_aload_n x_224_158 rfl ?_
  obtain ⟨b8, hb9, h⟩ := h
  refine r_getR x_224_159 rfl (ci := 11) (k := 6) (ns := 0) (by decide +kernel) (by decide) rfl (kz := 6) rfl hO1 hb9 ?_
  obtain ⟨hO10, h⟩ := h
  refine r_getI x_224_162 rfl (ci := 0) (k := 4) (ns := 1) (by decide +kernel) (by decide) rfl (kz := 4) rfl hO10 ?_
  refine r_iload_n x_224_165 rfl ?_
  refine r_ic_gt x_224_166 (t := 196) (by decide +kernel) (hok7.1 _ _) hv2 (fun hc => ?_) (fun hc => ?_)
  · replace h := h.1 hc
    exact h
  · replace h := h.2 hc
    refine r_iload x_224_169 rfl ?_
    refine r_if_eq x_224_171 (t := 230) (by decide +kernel) hv7 (fun hc => ?_) (fun hc => ?_)
    · replace h := h.1 hc
      obtain ⟨h11, h⟩ := h
      refine r_iinc x_224_230 (by decide +kernel) rfl rfl (lv1 := [(0, .ref a0), (1, g_n v1), (2, g_n v2), (3, g_n v3), (4, g_n v4), (5, g_n (v5 + 1)), (6, .ref a6), (7, g_n v7), (8, g_n w0)]) rfl ?_
      refine r_goto x_224_233 (t := 54) (by decide +kernel) ?_
      refine g_drop [0, 1, 2, 3, 4, 5] (lv1 := [(0, .ref a0), (1, g_n v1), (2, g_n v2), (3, g_n v3), (4, g_n v4), (5, g_n (v5 + 1))]) rfl ?_
      exact h
    · replace h := h.2 hc
      refine r_aload_n x_224_174 rfl ?_
      obtain ⟨b12, hb13, h⟩ := h
      refine r_getR x_224_175 rfl (ci := 11) (k := 6) (ns := 0) (by decide +kernel) (by decide) rfl (kz := 6) rfl hO1 hb13 ?_
      obtain ⟨hO14, h⟩ := h
      refine r_getI x_224_178 rfl (ci := 0) (k := 4) (ns := 1) (by decide +kernel) (by decide) rfl (kz := 4) rfl hO14 ?_
      refine r_iload_n x_224_181 rfl ?_
      refine r_ic_ne x_224_182 (t := 230) (by decide +kernel) (hok7.1 _ _) hv2 (fun hc => ?_) (fun hc => ?_)
      · replace h := h.2 hc
        obtain ⟨h15, h⟩ := h
        refine r_iinc x_224_230 (by decide +kernel) rfl rfl (lv1 := [(0, .ref a0), (1, g_n v1), (2, g_n v2), (3, g_n v3), (4, g_n v4), (5, g_n (v5 + 1)), (6, .ref a6), (7, g_n v7), (8, g_n w0)]) rfl ?_
        refine r_goto x_224_233 (t := 54) (by decide +kernel) ?_
        refine g_drop [0, 1, 2, 3, 4, 5] (lv1 := [(0, .ref a0), (1, g_n v1), (2, g_n v2), (3, g_n v3), (4, g_n v4), (5, g_n (v5 + 1))]) rfl ?_
        exact h
      · replace h := h.1 hc
        refine r_aload_n x_224_185 rfl ?_
        obtain ⟨b16, hb17, h⟩ := h
        refine r_getR x_224_186 rfl (ci := 11) (k := 6) (ns := 0) (by decide +kernel) (by decide) rfl (kz := 6) rfl hO1 hb17 ?_
        obtain ⟨hO18, h⟩ := h
        refine r_getI x_224_189 rfl (ci := 0) (k := 5) (ns := 1) (by decide +kernel) (by decide) rfl (kz := 5) rfl hO18 ?_
        refine r_iload_n x_224_192 rfl ?_
        refine r_ic_ge x_224_193 (t := 230) (by decide +kernel) (hok7.1 _ _) hv3 (fun hc => ?_) (fun hc => ?_)
        · replace h := h.2 hc
          obtain ⟨h19, h⟩ := h
          refine r_iinc x_224_230 (by decide +kernel) rfl rfl (lv1 := [(0, .ref a0), (1, g_n v1), (2, g_n v2), (3, g_n v3), (4, g_n v4), (5, g_n (v5 + 1)), (6, .ref a6), (7, g_n v7), (8, g_n w0)]) rfl ?_
          refine r_goto x_224_233 (t := 54) (by decide +kernel) ?_
          refine g_drop [0, 1, 2, 3, 4, 5] (lv1 := [(0, .ref a0), (1, g_n v1), (2, g_n v2), (3, g_n v3), (4, g_n v4), (5, g_n (v5 + 1))]) rfl ?_
          exact h
        · replace h := h.1 hc
          exact h
theorem s_X11_explain_196 {d : Nat} {M : g_M} {Q : g_M → Prop} {a0 : Nat} {v1 : Int} (hv1 : g_InR v1) {v2 : Int} (hv2 : g_InR v2) {v3 : Int} (hv3 : g_InR v3) {v4 : Int} (hv4 : g_InR v4) {v5 : Int} (hv5 : g_InR v5) {a6 : Nat} {v7 : Int} (hv7 : g_InR v7) {v8 : Int} (hv8 : g_InR v8) (h : g_ok M → g_O M a0 11 ∧ ∃ b2, g_r M a0 6 = some b2 ∧ g_O M b2 0 ∧ ∃ b5, g_r M a0 6 = some b5 ∧ g_O M b5 0 ∧ ∃ b8, g_r M a0 6 = some b8 ∧ ∃ b10, g_r M a0 16 = some b10 ∧ g_O M b8 0 ∧ g_Call d 2 [.ref b8, .ref a6, .ref b10] M (g_qI fun r16 M13 => g_ext M M13 → g_ok M13 → g_InR r16 → g_InR (v5 + 1) ∧ g_Run d 224 54 [(0, .ref a0), (1, g_n v5), (2, g_n (g_i M b2 4)), (3, g_n (g_i M b5 5)), (4, g_n r16), (5, g_n (v5 + 1))] [] M13 (g_qV Q))) : g_Run d 224 196 [(0, .ref a0), (1, g_n v1), (2, g_n v2), (3, g_n v3), (4, g_n v4), (5, g_n v5), (6, .ref a6), (7, g_n v7), (8, g_n v8)] [] M (g_qV Q) := by
  refine g_Run.ok fun hok => ?_
  replace h := h hok
  refine r_iload x_224_196 rfl ?_
  refine r_istore_n x_224_198 (by decide +kernel) rfl (lv1 := [(0, .ref a0), (1, g_n v5), (2, g_n v2), (3, g_n v3), (4, g_n v4), (5, g_n v5), (6, .ref a6), (7, g_n v7), (8, g_n v8)]) rfl ?_
  refine r_aload_n x_224_199 rfl ?_
  obtain ⟨hO1, h⟩ := h
  obtain ⟨b2, hb3, h⟩ := h
  refine r_getR x_224_200 rfl (ci := 11) (k := 6) (ns := 0) (by decide +kernel) (by decide) rfl (kz := 6) rfl hO1 hb3 ?_
  obtain ⟨hO4, h⟩ := h
  refine r_getI x_224_203 rfl (ci := 0) (k := 4) (ns := 1) (by decide +kernel) (by decide) rfl (kz := 4) rfl hO4 ?_
  refine r_istore_n x_224_206 (by decide +kernel) rfl (lv1 := [(0, .ref a0), (1, g_n v5), (2, g_n (g_i M b2 4)), (3, g_n v3), (4, g_n v4), (5, g_n v5), (6, .ref a6), (7, g_n v7), (8, g_n v8)]) rfl ?_
  refine r_aload_n x_224_207 rfl ?_
  obtain ⟨b5, hb6, h⟩ := h
  refine r_getR x_224_208 rfl (ci := 11) (k := 6) (ns := 0) (by decide +kernel) (by decide) rfl (kz := 6) rfl hO1 hb6 ?_
  obtain ⟨hO7, h⟩ := h
  refine r_getI x_224_211 rfl (ci := 0) (k := 5) (ns := 1) (by decide +kernel) (by decide) rfl (kz := 5) rfl hO7 ?_
  refine r_istore_n x_224_214 (by decide +kernel) rfl (lv1 := [(0, .ref a0), (1, g_n v5), (2, g_n (g_i M b2 4)), (3, g_n (g_i M b5 5)), (4, g_n v4), (5, g_n v5), (6, .ref a6), (7, g_n v7), (8, g_n v8)]) rfl ?_
  refine r_aload_n x_224_215 rfl ?_
  obtain ⟨b8, hb9, h⟩ := h
  refine r_getR x_224_216 rfl (ci := 11) (k := 6) (ns := 0) (by decide +kernel) (by decide) rfl (kz := 6) rfl hO1 hb9 ?_
  refine r_aload x_224_219 rfl ?_
  refine r_aload_n x_224_221 rfl ?_
  obtain ⟨b10, hb11, h⟩ := h
  refine r_getR x_224_222 rfl (ci := 11) (k := 16) (ns := 0) (by decide +kernel) (by decide) rfl (kz := 16) rfl hO1 hb11 ?_
  obtain ⟨hO12, h⟩ := h
  refine r_invV x_224_225 (z := 2) (ns := 1) (by decide +kernel) (as := [.ref a6, .ref b10]) (r := []) rfl rfl rfl hO12 rfl rfl ?_
  refine r_callI h fun r16 M13 hx14 hok15 hr17 h => ?_
  replace h := h hx14 hok15 hr17
  replace hO1 := hO1.up hx14
  replace hO4 := hO4.up hx14
  replace hO7 := hO7.up hx14
  replace hO12 := hO12.up hx14
  refine r_istore x_224_228 (by decide +kernel) rfl (lv1 := [(0, .ref a0), (1, g_n v5), (2, g_n (g_i M b2 4)), (3, g_n (g_i M b5 5)), (4, g_n r16), (5, g_n v5), (6, .ref a6), (7, g_n v7), (8, g_n v8)]) rfl ?_
  obtain ⟨h18, h⟩ := h
  refine r_iinc x_224_230 (by decide +kernel) rfl rfl (lv1 := [(0, .ref a0), (1, g_n v5), (2, g_n (g_i M b2 4)), (3, g_n (g_i M b5 5)), (4, g_n r16), (5, g_n (v5 + 1)), (6, .ref a6), (7, g_n v7), (8, g_n v8)]) rfl ?_
  refine r_goto x_224_233 (t := 54) (by decide +kernel) ?_
  refine g_drop [0, 1, 2, 3, 4, 5] (lv1 := [(0, .ref a0), (1, g_n v5), (2, g_n (g_i M b2 4)), (3, g_n (g_i M b5 5)), (4, g_n r16), (5, g_n (v5 + 1))]) rfl ?_
  exact h
