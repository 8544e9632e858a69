theorem x_226_0 : decode (q_code 226) 0 = .ok (.aload_n 0, 1) := by decide +kernel
theorem x_226_1 : decode (q_code 226) 1 = .ok (.getfield 10, 3) := by decide +kernel
theorem x_226_4 : decode (q_code 226) 4 = .ok (.iload_n 1, 1) := by decide +kernel
theorem x_226_5 : decode (q_code 226) 5 = .ok (.baload, 1) := by decide +kernel
theorem x_226_6 : decode (q_code 226) 6 = .ok (.sipush 255, 3) := by decide +kernel
theorem x_226_9 : decode (q_code 226) 9 = .ok (.iand, 1) := by decide +kernel
theorem x_226_10 : decode (q_code 226) 10 = .ok (.ireturn, 1) := by decide +kernel
theorem x_227_0 : decode (q_code 227) 0 = .ok (.aload_n 0, 1) := by decide +kernel
theorem x_227_1 : decode (q_code 227) 1 = .ok (.iload_n 1, 1) := by decide +kernel
theorem x_227_2 : decode (q_code 227) 2 = .ok (.invokevirtual 141, 3) := by decide +kernel
theorem x_227_5 : decode (q_code 227) 5 = .ok (.aload_n 0, 1) := by decide +kernel
theorem x_227_6 : decode (q_code 227) 6 = .ok (.iload_n 1, 1) := by decide +kernel
theorem x_227_7 : decode (q_code 227) 7 = .ok (.iconst 1, 1) := by decide +kernel
theorem x_227_8 : decode (q_code 227) 8 = .ok (.iadd, 1) := by decide +kernel
theorem x_227_9 : decode (q_code 227) 9 = .ok (.invokevirtual 141, 3) := by decide +kernel
theorem x_227_12 : decode (q_code 227) 12 = .ok (.bipush 8, 2) := by decide +kernel
theorem x_227_14 : decode (q_code 227) 14 = .ok (.ishl, 1) := by decide +kernel
theorem x_227_15 : decode (q_code 227) 15 = .ok (.ior, 1) := by decide +kernel
theorem x_227_16 : decode (q_code 227) 16 = .ok (.aload_n 0, 1) := by decide +kernel
theorem x_227_17 : decode (q_code 227) 17 = .ok (.iload_n 1, 1) := by decide +kernel
theorem x_227_18 : decode (q_code 227) 18 = .ok (.iconst 2, 1) := by decide +kernel
theorem x_227_19 : decode (q_code 227) 19 = .ok (.iadd, 1) := by decide +kernel
theorem x_227_20 : decode (q_code 227) 20 = .ok (.invokevirtual 141, 3) := by decide +kernel
theorem x_227_23 : decode (q_code 227) 23 = .ok (.bipush 16, 2) := by decide +kernel
theorem x_227_25 : decode (q_code 227) 25 = .ok (.ishl, 1) := by decide +kernel
theorem x_227_26 : decode (q_code 227) 26 = .ok (.ior, 1) := by decide +kernel
theorem x_227_27 : decode (q_code 227) 27 = .ok (.aload_n 0, 1) := by decide +kernel
theorem x_227_28 : decode (q_code 227) 28 = .ok (.iload_n 1, 1) := by decide +kernel
theorem x_227_29 : decode (q_code 227) 29 = .ok (.iconst 3, 1) := by decide +kernel
theorem x_227_30 : decode (q_code 227) 30 = .ok (.iadd, 1) := by decide +kernel
theorem x_227_31 : decode (q_code 227) 31 = .ok (.invokevirtual 141, 3) := by decide +kernel
theorem x_227_34 : decode (q_code 227) 34 = .ok (.bipush 24, 2) := by decide +kernel
theorem x_227_36 : decode (q_code 227) 36 = .ok (.ishl, 1) := by decide +kernel
theorem x_227_37 : decode (q_code 227) 37 = .ok (.ior, 1) := by decide +kernel
theorem x_227_38 : decode (q_code 227) 38 = .ok (.ireturn, 1) := by decide +kernel
theorem x_228_0 : decode (q_code 228) 0 = .ok (.aload_n 0, 1) := by decide +kernel
theorem x_228_1 : decode (q_code 228) 1 = .ok (.iload_n 1, 1) := by decide +kernel
theorem x_228_2 : decode (q_code 228) 2 = .ok (.invokevirtual 145, 3) := by decide +kernel
theorem x_228_5 : decode (q_code 228) 5 = .ok (.i2l, 1) := by decide +kernel
theorem x_228_6 : decode (q_code 228) 6 = .ok (.ldc2_w 148, 3) := by decide +kernel
theorem x_228_9 : decode (q_code 228) 9 = .ok (.land, 1) := by decide +kernel
theorem x_228_10 : decode (q_code 228) 10 = .ok (.aload_n 0, 1) := by decide +kernel
theorem x_228_11 : decode (q_code 228) 11 = .ok (.iload_n 1, 1) := by decide +kernel
theorem x_228_12 : decode (q_code 228) 12 = .ok (.iconst 4, 1) := by decide +kernel
theorem x_228_13 : decode (q_code 228) 13 = .ok (.iadd, 1) := by decide +kernel
theorem x_228_14 : decode (q_code 228) 14 = .ok (.invokevirtual 145, 3) := by decide +kernel
theorem x_228_17 : decode (q_code 228) 17 = .ok (.i2l, 1) := by decide +kernel
theorem x_228_18 : decode (q_code 228) 18 = .ok (.bipush 32, 2) := by decide +kernel
theorem x_228_20 : decode (q_code 228) 20 = .ok (.lshl, 1) := by decide +kernel
theorem x_228_21 : decode (q_code 228) 21 = .ok (.lor, 1) := by decide +kernel
theorem x_228_22 : decode (q_code 228) 22 = .ok (.lreturn, 1) := by decide +kernel
theorem x_229_0 : decode (q_code 229) 0 = .ok (.iconst 0, 1) := by decide +kernel
theorem x_229_1 : decode (q_code 229) 1 = .ok (.istore_n 3, 1) := by decide +kernel
theorem x_229_2 : decode (q_code 229) 2 = .ok (.iload_n 3, 1) := by decide +kernel
theorem x_229_3 : decode (q_code 229) 3 = .ok (.iconst 4, 1) := by decide +kernel
theorem x_229_4 : decode (q_code 229) 4 = .ok (.if_icmp .ge 24, 3) := by decide +kernel
theorem x_229_7 : decode (q_code 229) 7 = .ok (.aload_n 0, 1) := by decide +kernel
theorem x_229_8 : decode (q_code 229) 8 = .ok (.getfield 10, 3) := by decide +kernel
theorem x_229_11 : decode (q_code 229) 11 = .ok (.iload_n 1, 1) := by decide +kernel
theorem x_229_12 : decode (q_code 229) 12 = .ok (.iload_n 3, 1) := by decide +kernel
theorem x_229_13 : decode (q_code 229) 13 = .ok (.iadd, 1) := by decide +kernel
theorem x_229_14 : decode (q_code 229) 14 = .ok (.iload_n 2, 1) := by decide +kernel
theorem x_229_15 : decode (q_code 229) 15 = .ok (.bipush 8, 2) := by decide +kernel
theorem x_229_17 : decode (q_code 229) 17 = .ok (.iload_n 3, 1) := by decide +kernel
theorem x_229_18 : decode (q_code 229) 18 = .ok (.imul, 1) := by decide +kernel
theorem x_229_19 : decode (q_code 229) 19 = .ok (.ishr, 1) := by decide +kernel
theorem x_229_20 : decode (q_code 229) 20 = .ok (.i2b, 1) := by decide +kernel
theorem x_229_21 : decode (q_code 229) 21 = .ok (.bastore, 1) := by decide +kernel
theorem x_229_22 : decode (q_code 229) 22 = .ok (.iinc 3 1, 3) := by decide +kernel
theorem x_229_25 : decode (q_code 229) 25 = .ok (.goto (-23), 3) := by decide +kernel
theorem x_229_28 : decode (q_code 229) 28 = .ok (.return_, 1) := by decide +kernel
theorem x_230_0 : decode (q_code 230) 0 = .ok (.iload_n 2, 1) := by decide +kernel
theorem x_230_1 : decode (q_code 230) 1 = .ok (.iload_n 1, 1) := by decide +kernel
theorem x_230_2 : decode (q_code 230) 2 = .ok (.isub, 1) := by decide +kernel
theorem x_230_3 : decode (q_code 230) 3 = .ok (.iload 4, 2) := by decide +kernel
theorem x_230_5 : decode (q_code 230) 5 = .ok (.iload_n 3, 1) := by decide +kernel
theorem x_230_6 : decode (q_code 230) 6 = .ok (.isub, 1) := by decide +kernel
theorem x_230_7 : decode (q_code 230) 7 = .ok (.if_icmp .eq 5, 3) := by decide +kernel
theorem x_230_10 : decode (q_code 230) 10 = .ok (.iconst 0, 1) := by decide +kernel
theorem x_230_11 : decode (q_code 230) 11 = .ok (.ireturn, 1) := by decide +kernel
theorem x_230_12 : decode (q_code 230) 12 = .ok (.iconst 0, 1) := by decide +kernel
theorem x_230_13 : decode (q_code 230) 13 = .ok (.istore 5, 2) := by decide +kernel
theorem x_230_15 : decode (q_code 230) 15 = .ok (.iload_n 1, 1) := by decide +kernel
theorem x_230_16 : decode (q_code 230) 16 = .ok (.iload 5, 2) := by decide +kernel
theorem x_230_18 : decode (q_code 230) 18 = .ok (.iadd, 1) := by decide +kernel
theorem x_230_19 : decode (q_code 230) 19 = .ok (.iload_n 2, 1) := by decide +kernel
theorem x_230_20 : decode (q_code 230) 20 = .ok (.if_icmp .ge 32, 3) := by decide +kernel
theorem x_230_23 : decode (q_code 230) 23 = .ok (.aload_n 0, 1) := by decide +kernel
theorem x_230_24 : decode (q_code 230) 24 = .ok (.getfield 10, 3) := by decide +kernel
theorem x_230_27 : decode (q_code 230) 27 = .ok (.iload_n 1, 1) := by decide +kernel
theorem x_230_28 : decode (q_code 230) 28 = .ok (.iload 5, 2) := by decide +kernel
theorem x_230_30 : decode (q_code 230) 30 = .ok (.iadd, 1) := by decide +kernel
theorem x_230_31 : decode (q_code 230) 31 = .ok (.baload, 1) := by decide +kernel
theorem x_230_32 : decode (q_code 230) 32 = .ok (.aload_n 0, 1) := by decide +kernel
theorem x_230_33 : decode (q_code 230) 33 = .ok (.getfield 10, 3) := by decide +kernel
theorem x_230_36 : decode (q_code 230) 36 = .ok (.iload_n 3, 1) := by decide +kernel
theorem x_230_37 : decode (q_code 230) 37 = .ok (.iload 5, 2) := by decide +kernel
theorem x_230_39 : decode (q_code 230) 39 = .ok (.iadd, 1) := by decide +kernel
theorem x_230_40 : decode (q_code 230) 40 = .ok (.baload, 1) := by decide +kernel
theorem x_230_41 : decode (q_code 230) 41 = .ok (.if_icmp .eq 5, 3) := by decide +kernel
theorem x_230_44 : decode (q_code 230) 44 = .ok (.iconst 0, 1) := by decide +kernel
theorem x_230_45 : decode (q_code 230) 45 = .ok (.ireturn, 1) := by decide +kernel
theorem x_230_46 : decode (q_code 230) 46 = .ok (.iinc 5 1, 3) := by decide +kernel
theorem x_230_49 : decode (q_code 230) 49 = .ok (.goto (-34), 3) := by decide +kernel
theorem x_230_52 : decode (q_code 230) 52 = .ok (.iconst 1, 1) := by decide +kernel
theorem x_230_53 : decode (q_code 230) 53 = .ok (.ireturn, 1) := by decide +kernel
theorem x_231_0 : decode (q_code 231) 0 = .ok (.iload_n 2, 1) := by decide +kernel
theorem x_231_1 : decode (q_code 231) 1 = .ok (.iload_n 1, 1) := by decide +kernel
theorem x_231_2 : decode (q_code 231) 2 = .ok (.isub, 1) := by decide +kernel
theorem x_231_3 : decode (q_code 231) 3 = .ok (.aload_n 3, 1) := by decide +kernel
theorem x_231_4 : decode (q_code 231) 4 = .ok (.invokevirtual 150, 3) := by decide +kernel
theorem x_231_7 : decode (q_code 231) 7 = .ok (.if_icmp .eq 5, 3) := by decide +kernel
theorem x_231_10 : decode (q_code 231) 10 = .ok (.iconst 0, 1) := by decide +kernel
theorem x_231_11 : decode (q_code 231) 11 = .ok (.ireturn, 1) := by decide +kernel
theorem x_231_12 : decode (q_code 231) 12 = .ok (.iconst 0, 1) := by decide +kernel
theorem x_231_13 : decode (q_code 231) 13 = .ok (.istore 4, 2) := by decide +kernel
theorem x_231_15 : decode (q_code 231) 15 = .ok (.iload 4, 2) := by decide +kernel
theorem x_231_17 : decode (q_code 231) 17 = .ok (.aload_n 3, 1) := by decide +kernel
theorem x_231_18 : decode (q_code 231) 18 = .ok (.invokevirtual 150, 3) := by decide +kernel
theorem x_231_21 : decode (q_code 231) 21 = .ok (.if_icmp .ge 28, 3) := by decide +kernel
theorem x_231_24 : decode (q_code 231) 24 = .ok (.aload_n 0, 1) := by decide +kernel
theorem x_231_25 : decode (q_code 231) 25 = .ok (.iload_n 1, 1) := by decide +kernel
theorem x_231_26 : decode (q_code 231) 26 = .ok (.iload 4, 2) := by decide +kernel
theorem x_231_28 : decode (q_code 231) 28 = .ok (.iadd, 1) := by decide +kernel
theorem x_231_29 : decode (q_code 231) 29 = .ok (.invokevirtual 141, 3) := by decide +kernel
theorem x_231_32 : decode (q_code 231) 32 = .ok (.aload_n 3, 1) := by decide +kernel
theorem x_231_33 : decode (q_code 231) 33 = .ok (.iload 4, 2) := by decide +kernel
theorem x_231_35 : decode (q_code 231) 35 = .ok (.invokevirtual 156, 3) := by decide +kernel
theorem x_231_38 : decode (q_code 231) 38 = .ok (.if_icmp .eq 5, 3) := by decide +kernel
theorem x_231_41 : decode (q_code 231) 41 = .ok (.iconst 0, 1) := by decide +kernel
theorem x_231_42 : decode (q_code 231) 42 = .ok (.ireturn, 1) := by decide +kernel
theorem x_231_43 : decode (q_code 231) 43 = .ok (.iinc 4 1, 3) := by decide +kernel
theorem x_231_46 : decode (q_code 231) 46 = .ok (.goto (-31), 3) := by decide +kernel
theorem x_231_49 : decode (q_code 231) 49 = .ok (.iconst 1, 1) := by decide +kernel
theorem x_231_50 : decode (q_code 231) 50 = .ok (.ireturn, 1) := by decide +kernel
theorem x_232_0 : decode (q_code 232) 0 = .ok (.iload_n 1, 1) := by decide +kernel
theorem x_232_1 : decode (q_code 232) 1 = .ok (.iconst 1, 1) := by decide +kernel
theorem x_232_2 : decode (q_code 232) 2 = .ok (.iadd, 1) := by decide +kernel
theorem x_232_3 : decode (q_code 232) 3 = .ok (.istore_n 2, 1) := by decide +kernel
theorem x_232_4 : decode (q_code 232) 4 = .ok (.aload_n 0, 1) := by decide +kernel
theorem x_232_5 : decode (q_code 232) 5 = .ok (.getfield 10, 3) := by decide +kernel
theorem x_232_8 : decode (q_code 232) 8 = .ok (.iload_n 2, 1) := by decide +kernel
theorem x_232_9 : decode (q_code 232) 9 = .ok (.baload, 1) := by decide +kernel
theorem x_232_10 : decode (q_code 232) 10 = .ok (.ifCond .eq 9, 3) := by decide +kernel
theorem x_232_13 : decode (q_code 232) 13 = .ok (.iinc 2 1, 3) := by decide +kernel
theorem x_232_16 : decode (q_code 232) 16 = .ok (.goto (-12), 3) := by decide +kernel
theorem x_232_19 : decode (q_code 232) 19 = .ok (.iload_n 2, 1) := by decide +kernel
theorem x_232_20 : decode (q_code 232) 20 = .ok (.ireturn, 1) := by decide +kernel
theorem x_233_0 : decode (q_code 233) 0 = .ok (.aload_n 0, 1) := by decide +kernel
theorem x_233_1 : decode (q_code 233) 1 = .ok (.iload_n 1, 1) := by decide +kernel
theorem x_233_2 : decode (q_code 233) 2 = .ok (.invokevirtual 160, 3) := by decide +kernel
theorem x_233_5 : decode (q_code 233) 5 = .ok (.iconst 1, 1) := by decide +kernel
theorem x_233_6 : decode (q_code 233) 6 = .ok (.iadd, 1) := by decide +kernel
theorem x_233_7 : decode (q_code 233) 7 = .ok (.ireturn, 1) := by decide +kernel
theorem x_234_0 : decode (q_code 234) 0 = .ok (.iload_n 1, 1) := by decide +kernel
theorem x_234_1 : decode (q_code 234) 1 = .ok (.bipush 16, 2) := by decide +kernel
theorem x_234_3 : decode (q_code 234) 3 = .ok (.if_icmp .ne 5, 3) := by decide +kernel
theorem x_234_6 : decode (q_code 234) 6 = .ok (.iconst 4, 1) := by decide +kernel
theorem x_234_7 : decode (q_code 234) 7 = .ok (.ireturn, 1) := by decide +kernel
theorem x_234_8 : decode (q_code 234) 8 = .ok (.iload_n 1, 1) := by decide +kernel
theorem x_234_9 : decode (q_code 234) 9 = .ok (.bipush 18, 2) := by decide +kernel
theorem x_234_11 : decode (q_code 234) 11 = .ok (.if_icmp .ne 6, 3) := by decide +kernel
theorem x_234_14 : decode (q_code 234) 14 = .ok (.bipush 8, 2) := by decide +kernel
theorem x_234_16 : decode (q_code 234) 16 = .ok (.ireturn, 1) := by decide +kernel
theorem x_234_17 : decode (q_code 234) 17 = .ok (.iload_n 1, 1) := by decide +kernel
theorem x_234_18 : decode (q_code 234) 18 = .ok (.bipush 8, 2) := by decide +kernel
theorem x_234_20 : decode (q_code 234) 20 = .ok (.if_icmp .ne 5, 3) := by decide +kernel
theorem x_234_23 : decode (q_code 234) 23 = .ok (.iconst 1, 1) := by decide +kernel
theorem x_234_24 : decode (q_code 234) 24 = .ok (.ireturn, 1) := by decide +kernel
theorem x_234_25 : decode (q_code 234) 25 = .ok (.iload_n 1, 1) := by decide +kernel
theorem x_234_26 : decode (q_code 234) 26 = .ok (.bipush 10, 2) := by decide +kernel
theorem x_234_28 : decode (q_code 234) 28 = .ok (.if_icmp .ne 5, 3) := by decide +kernel
theorem x_234_31 : decode (q_code 234) 31 = .ok (.iconst 0, 1) := by decide +kernel
theorem x_234_32 : decode (q_code 234) 32 = .ok (.ireturn, 1) := by decide +kernel
theorem x_234_33 : decode (q_code 234) 33 = .ok (.iload_n 1, 1) := by decide +kernel
theorem x_234_34 : decode (q_code 234) 34 = .ok (.iconst 2, 1) := by decide +kernel
theorem x_234_35 : decode (q_code 234) 35 = .ok (.if_icmp .ne 13, 3) := by decide +kernel
theorem x_234_38 : decode (q_code 234) 38 = .ok (.iconst 4, 1) := by decide +kernel
theorem x_234_39 : decode (q_code 234) 39 = .ok (.aload_n 0, 1) := by decide +kernel
theorem x_234_40 : decode (q_code 234) 40 = .ok (.iload_n 2, 1) := by decide +kernel
theorem x_234_41 : decode (q_code 234) 41 = .ok (.invokevirtual 145, 3) := by decide +kernel
theorem x_234_44 : decode (q_code 234) 44 = .ok (.iadd, 1) := by decide +kernel
theorem x_234_45 : decode (q_code 234) 45 = .ok (.goto 8, 3) := by decide +kernel
theorem x_234_48 : decode (q_code 234) 48 = .ok (.aload_n 0, 1) := by decide +kernel
theorem x_234_49 : decode (q_code 234) 49 = .ok (.iload_n 2, 1) := by decide +kernel
theorem x_234_50 : decode (q_code 234) 50 = .ok (.invokevirtual 145, 3) := by decide +kernel
theorem x_234_53 : decode (q_code 234) 53 = .ok (.ireturn, 1) := by decide +kernel
theorem x_235_0 : decode (q_code 235) 0 = .ok (.aload_n 0, 1) := by decide +kernel
theorem x_235_1 : decode (q_code 235) 1 = .ok (.iload_n 1, 1) := by decide +kernel
theorem x_235_2 : decode (q_code 235) 2 = .ok (.invokevirtual 163, 3) := by decide +kernel
theorem x_235_5 : decode (q_code 235) 5 = .ok (.istore_n 2, 1) := by decide +kernel
theorem x_235_6 : decode (q_code 235) 6 = .ok (.iload_n 2, 1) := by decide +kernel
theorem x_235_7 : decode (q_code 235) 7 = .ok (.aload_n 0, 1) := by decide +kernel
theorem x_235_8 : decode (q_code 235) 8 = .ok (.aload_n 0, 1) := by decide +kernel
theorem x_235_9 : decode (q_code 235) 9 = .ok (.getfield 10, 3) := by decide +kernel
theorem x_235_12 : decode (q_code 235) 12 = .ok (.iload_n 1, 1) := by decide +kernel
theorem x_235_13 : decode (q_code 235) 13 = .ok (.baload, 1) := by decide +kernel
theorem x_235_14 : decode (q_code 235) 14 = .ok (.iload_n 2, 1) := by decide +kernel
theorem x_235_15 : decode (q_code 235) 15 = .ok (.invokevirtual 166, 3) := by decide +kernel
theorem x_235_18 : decode (q_code 235) 18 = .ok (.iadd, 1) := by decide +kernel
theorem x_235_19 : decode (q_code 235) 19 = .ok (.ireturn, 1) := by decide +kernel
theorem x_236_0 : decode (q_code 236) 0 = .ok (.aload_n 0, 1) := by decide +kernel
theorem x_236_1 : decode (q_code 236) 1 = .ok (.iload_n 1, 1) := by decide +kernel
theorem x_236_2 : decode (q_code 236) 2 = .ok (.iconst 1, 1) := by decide +kernel
theorem x_236_3 : decode (q_code 236) 3 = .ok (.iadd, 1) := by decide +kernel
theorem x_236_4 : decode (q_code 236) 4 = .ok (.aload_n 0, 1) := by decide +kernel
theorem x_236_5 : decode (q_code 236) 5 = .ok (.iload_n 1, 1) := by decide +kernel
theorem x_236_6 : decode (q_code 236) 6 = .ok (.invokevirtual 160, 3) := by decide +kernel
theorem x_236_9 : decode (q_code 236) 9 = .ok (.aload_n 2, 1) := by decide +kernel
theorem x_236_10 : decode (q_code 236) 10 = .ok (.invokevirtual 170, 3) := by decide +kernel
theorem x_236_13 : decode (q_code 236) 13 = .ok (.ireturn, 1) := by decide +kernel
theorem x_237_0 : decode (q_code 237) 0 = .ok (.iload_n 0, 1) := by decide +kernel
theorem x_237_1 : decode (q_code 237) 1 = .ok (.iconst 4, 1) := by decide +kernel
theorem x_237_2 : decode (q_code 237) 2 = .ok (.iadd, 1) := by decide +kernel
theorem x_237_3 : decode (q_code 237) 3 = .ok (.ireturn, 1) := by decide +kernel
theorem x_238_0 : decode (q_code 238) 0 = .ok (.iload_n 1, 1) := by decide +kernel
theorem x_238_1 : decode (q_code 238) 1 = .ok (.aload_n 0, 1) := by decide +kernel
theorem x_238_2 : decode (q_code 238) 2 = .ok (.iload_n 1, 1) := by decide +kernel
theorem x_238_3 : decode (q_code 238) 3 = .ok (.invokevirtual 145, 3) := by decide +kernel
theorem x_238_6 : decode (q_code 238) 6 = .ok (.iadd, 1) := by decide +kernel
theorem x_238_7 : decode (q_code 238) 7 = .ok (.iconst 1, 1) := by decide +kernel
theorem x_238_8 : decode (q_code 238) 8 = .ok (.isub, 1) := by decide +kernel
theorem x_238_9 : decode (q_code 238) 9 = .ok (.ireturn, 1) := by decide +kernel
theorem x_239_0 : decode (q_code 239) 0 = .ok (.iconst 0, 1) := by decide +kernel
theorem x_239_1 : decode (q_code 239) 1 = .ok (.istore_n 2, 1) := by decide +kernel
theorem x_239_2 : decode (q_code 239) 2 = .ok (.iload_n 1, 1) := by decide +kernel
theorem x_239_3 : decode (q_code 239) 3 = .ok (.invokestatic 174, 3) := by decide +kernel
theorem x_239_6 : decode (q_code 239) 6 = .ok (.istore_n 3, 1) := by decide +kernel
theorem x_239_7 : decode (q_code 239) 7 = .ok (.iload_n 3, 1) := by decide +kernel
theorem x_239_8 : decode (q_code 239) 8 = .ok (.aload_n 0, 1) := by decide +kernel
theorem x_239_9 : decode (q_code 239) 9 = .ok (.iload_n 1, 1) := by decide +kernel
theorem x_239_10 : decode (q_code 239) 10 = .ok (.invokevirtual 177, 3) := by decide +kernel
theorem x_239_13 : decode (q_code 239) 13 = .ok (.if_icmp .ge 15, 3) := by decide +kernel
theorem x_239_16 : decode (q_code 239) 16 = .ok (.iinc 2 1, 3) := by decide +kernel
theorem x_239_19 : decode (q_code 239) 19 = .ok (.aload_n 0, 1) := by decide +kernel
theorem x_239_20 : decode (q_code 239) 20 = .ok (.iload_n 3, 1) := by decide +kernel
theorem x_239_21 : decode (q_code 239) 21 = .ok (.invokevirtual 180, 3) := by decide +kernel
theorem x_239_24 : decode (q_code 239) 24 = .ok (.istore_n 3, 1) := by decide +kernel
theorem x_239_25 : decode (q_code 239) 25 = .ok (.goto (-18), 3) := by decide +kernel
theorem x_239_28 : decode (q_code 239) 28 = .ok (.iload_n 2, 1) := by decide +kernel
theorem x_239_29 : decode (q_code 239) 29 = .ok (.ireturn, 1) := by decide +kernel
theorem x_240_0 : decode (q_code 240) 0 = .ok (.iload_n 1, 1) := by decide +kernel
theorem x_240_1 : decode (q_code 240) 1 = .ok (.invokestatic 174, 3) := by decide +kernel
theorem x_240_4 : decode (q_code 240) 4 = .ok (.istore 4, 2) := by decide +kernel
theorem x_240_6 : decode (q_code 240) 6 = .ok (.iload 4, 2) := by decide +kernel
theorem x_240_8 : decode (q_code 240) 8 = .ok (.aload_n 0, 1) := by decide +kernel
theorem x_240_9 : decode (q_code 240) 9 = .ok (.iload_n 1, 1) := by decide +kernel
theorem x_240_10 : decode (q_code 240) 10 = .ok (.invokevirtual 177, 3) := by decide +kernel
theorem x_240_13 : decode (q_code 240) 13 = .ok (.if_icmp .ge 36, 3) := by decide +kernel
theorem x_240_16 : decode (q_code 240) 16 = .ok (.aload_n 0, 1) := by decide +kernel
theorem x_240_17 : decode (q_code 240) 17 = .ok (.iload 4, 2) := by decide +kernel
theorem x_240_19 : decode (q_code 240) 19 = .ok (.iconst 1, 1) := by decide +kernel
theorem x_240_20 : decode (q_code 240) 20 = .ok (.iadd, 1) := by decide +kernel
theorem x_240_21 : decode (q_code 240) 21 = .ok (.aload_n 0, 1) := by decide +kernel
theorem x_240_22 : decode (q_code 240) 22 = .ok (.iload 4, 2) := by decide +kernel
theorem x_240_24 : decode (q_code 240) 24 = .ok (.invokevirtual 160, 3) := by decide +kernel
theorem x_240_27 : decode (q_code 240) 27 = .ok (.iload_n 2, 1) := by decide +kernel
theorem x_240_28 : decode (q_code 240) 28 = .ok (.iload_n 3, 1) := by decide +kernel
theorem x_240_29 : decode (q_code 240) 29 = .ok (.invokevirtual 183, 3) := by decide +kernel
theorem x_240_32 : decode (q_code 240) 32 = .ok (.ifCond .eq 6, 3) := by decide +kernel
theorem x_240_35 : decode (q_code 240) 35 = .ok (.iload 4, 2) := by decide +kernel
theorem x_240_37 : decode (q_code 240) 37 = .ok (.ireturn, 1) := by decide +kernel
theorem x_240_38 : decode (q_code 240) 38 = .ok (.aload_n 0, 1) := by decide +kernel
theorem x_240_39 : decode (q_code 240) 39 = .ok (.iload 4, 2) := by decide +kernel
theorem x_240_41 : decode (q_code 240) 41 = .ok (.invokevirtual 180, 3) := by decide +kernel
theorem x_240_44 : decode (q_code 240) 44 = .ok (.istore 4, 2) := by decide +kernel
theorem x_240_46 : decode (q_code 240) 46 = .ok (.goto (-40), 3) := by decide +kernel
theorem x_240_49 : decode (q_code 240) 49 = .ok (.iconst (-1), 1) := by decide +kernel
theorem x_240_50 : decode (q_code 240) 50 = .ok (.ireturn, 1) := by decide +kernel
theorem x_241_0 : decode (q_code 241) 0 = .ok (.iload_n 1, 1) := by decide +kernel
theorem x_241_1 : decode (q_code 241) 1 = .ok (.invokestatic 174, 3) := by decide +kernel
theorem x_241_4 : decode (q_code 241) 4 = .ok (.istore_n 3, 1) := by decide +kernel
theorem x_241_5 : decode (q_code 241) 5 = .ok (.iconst 0, 1) := by decide +kernel
theorem x_241_6 : decode (q_code 241) 6 = .ok (.istore 4, 2) := by decide +kernel
theorem x_241_8 : decode (q_code 241) 8 = .ok (.iload 4, 2) := by decide +kernel
theorem x_241_10 : decode (q_code 241) 10 = .ok (.iload_n 2, 1) := by decide +kernel
theorem x_241_11 : decode (q_code 241) 11 = .ok (.if_icmp .ge 24, 3) := by decide +kernel
theorem x_241_14 : decode (q_code 241) 14 = .ok (.iload_n 3, 1) := by decide +kernel
theorem x_241_15 : decode (q_code 241) 15 = .ok (.aload_n 0, 1) := by decide +kernel
theorem x_241_16 : decode (q_code 241) 16 = .ok (.iload_n 1, 1) := by decide +kernel
theorem x_241_17 : decode (q_code 241) 17 = .ok (.invokevirtual 177, 3) := by decide +kernel
theorem x_241_20 : decode (q_code 241) 20 = .ok (.if_icmp .ge 15, 3) := by decide +kernel
theorem x_241_23 : decode (q_code 241) 23 = .ok (.aload_n 0, 1) := by decide +kernel
theorem x_241_24 : decode (q_code 241) 24 = .ok (.iload_n 3, 1) := by decide +kernel
theorem x_241_25 : decode (q_code 241) 25 = .ok (.invokevirtual 180, 3) := by decide +kernel
theorem x_241_28 : decode (q_code 241) 28 = .ok (.istore_n 3, 1) := by decide +kernel
theorem x_241_29 : decode (q_code 241) 29 = .ok (.iinc 4 1, 3) := by decide +kernel
theorem x_241_32 : decode (q_code 241) 32 = .ok (.goto (-24), 3) := by decide +kernel
theorem x_241_35 : decode (q_code 241) 35 = .ok (.iload_n 3, 1) := by decide +kernel
theorem x_241_36 : decode (q_code 241) 36 = .ok (.aload_n 0, 1) := by decide +kernel
theorem x_241_37 : decode (q_code 241) 37 = .ok (.iload_n 1, 1) := by decide +kernel
theorem x_241_38 : decode (q_code 241) 38 = .ok (.invokevirtual 177, 3) := by decide +kernel
theorem x_241_41 : decode (q_code 241) 41 = .ok (.if_icmp .ge 7, 3) := by decide +kernel
theorem x_241_44 : decode (q_code 241) 44 = .ok (.iload_n 3, 1) := by decide +kernel
theorem x_241_45 : decode (q_code 241) 45 = .ok (.goto 4, 3) := by decide +kernel
theorem x_241_48 : decode (q_code 241) 48 = .ok (.iconst (-1), 1) := by decide +kernel
theorem x_241_49 : decode (q_code 241) 49 = .ok (.ireturn, 1) := by decide +kernel
theorem x_242_0 : decode (q_code 242) 0 = .ok (.iload_n 1, 1) := by decide +kernel
theorem x_242_1 : decode (q_code 242) 1 = .ok (.iconst (-1), 1) := by decide +kernel
theorem x_242_2 : decode (q_code 242) 2 = .ok (.if_icmp .eq 29, 3) := by decide +kernel
theorem x_242_5 : decode (q_code 242) 5 = .ok (.aload_n 0, 1) := by decide +kernel
theorem x_242_6 : decode (q_code 242) 6 = .ok (.getfield 10, 3) := by decide +kernel
theorem x_242_9 : decode (q_code 242) 9 = .ok (.iload_n 1, 1) := by decide +kernel
theorem x_242_10 : decode (q_code 242) 10 = .ok (.baload, 1) := by decide +kernel
theorem x_242_11 : decode (q_code 242) 11 = .ok (.bipush 16, 2) := by decide +kernel
theorem x_242_13 : decode (q_code 242) 13 = .ok (.if_icmp .eq 14, 3) := by decide +kernel
theorem x_242_16 : decode (q_code 242) 16 = .ok (.aload_n 0, 1) := by decide +kernel
theorem x_242_17 : decode (q_code 242) 17 = .ok (.getfield 10, 3) := by decide +kernel
theorem x_242_20 : decode (q_code 242) 20 = .ok (.iload_n 1, 1) := by decide +kernel
theorem x_242_21 : decode (q_code 242) 21 = .ok (.baload, 1) := by decide +kernel
theorem x_242_22 : decode (q_code 242) 22 = .ok (.bipush 18, 2) := by decide +kernel
theorem x_242_24 : decode (q_code 242) 24 = .ok (.if_icmp .ne 7, 3) := by decide +kernel
theorem x_242_27 : decode (q_code 242) 27 = .ok (.iconst 1, 1) := by decide +kernel
theorem x_242_28 : decode (q_code 242) 28 = .ok (.goto 4, 3) := by decide +kernel
theorem x_242_31 : decode (q_code 242) 31 = .ok (.iconst 0, 1) := by decide +kernel
theorem x_242_32 : decode (q_code 242) 32 = .ok (.ireturn, 1) := by decide +kernel
theorem x_243_0 : decode (q_code 243) 0 = .ok (.aload_n 0, 1) := by decide +kernel
theorem x_243_1 : decode (q_code 243) 1 = .ok (.getfield 10, 3) := by decide +kernel
theorem x_243_4 : decode (q_code 243) 4 = .ok (.iload_n 1, 1) := by decide +kernel
theorem x_243_5 : decode (q_code 243) 5 = .ok (.baload, 1) := by decide +kernel
theorem x_243_6 : decode (q_code 243) 6 = .ok (.bipush 16, 2) := by decide +kernel
theorem x_243_8 : decode (q_code 243) 8 = .ok (.if_icmp .ne 16, 3) := by decide +kernel
theorem x_243_11 : decode (q_code 243) 11 = .ok (.aload_n 0, 1) := by decide +kernel
theorem x_243_12 : decode (q_code 243) 12 = .ok (.aload_n 0, 1) := by decide +kernel
theorem x_243_13 : decode (q_code 243) 13 = .ok (.iload_n 1, 1) := by decide +kernel
theorem x_243_14 : decode (q_code 243) 14 = .ok (.invokevirtual 163, 3) := by decide +kernel
theorem x_243_17 : decode (q_code 243) 17 = .ok (.invokevirtual 145, 3) := by decide +kernel
theorem x_243_20 : decode (q_code 243) 20 = .ok (.i2l, 1) := by decide +kernel
theorem x_243_21 : decode (q_code 243) 21 = .ok (.goto 12, 3) := by decide +kernel
theorem x_243_24 : decode (q_code 243) 24 = .ok (.aload_n 0, 1) := by decide +kernel
theorem x_243_25 : decode (q_code 243) 25 = .ok (.aload_n 0, 1) := by decide +kernel
theorem x_243_26 : decode (q_code 243) 26 = .ok (.iload_n 1, 1) := by decide +kernel
theorem x_243_27 : decode (q_code 243) 27 = .ok (.invokevirtual 163, 3) := by decide +kernel
theorem x_243_30 : decode (q_code 243) 30 = .ok (.invokevirtual 187, 3) := by decide +kernel
theorem x_243_33 : decode (q_code 243) 33 = .ok (.lreturn, 1) := by decide +kernel
theorem x_244_0 : decode (q_code 244) 0 = .ok (.iconst 0, 1) := by decide +kernel
theorem x_244_1 : decode (q_code 244) 1 = .ok (.istore_n 2, 1) := by decide +kernel
theorem x_244_2 : decode (q_code 244) 2 = .ok (.iload_n 1, 1) := by decide +kernel
theorem x_244_3 : decode (q_code 244) 3 = .ok (.invokestatic 174, 3) := by decide +kernel
theorem x_244_6 : decode (q_code 244) 6 = .ok (.istore_n 3, 1) := by decide +kernel
theorem x_244_7 : decode (q_code 244) 7 = .ok (.iload_n 3, 1) := by decide +kernel
theorem x_244_8 : decode (q_code 244) 8 = .ok (.aload_n 0, 1) := by decide +kernel
theorem x_244_9 : decode (q_code 244) 9 = .ok (.iload_n 1, 1) := by decide +kernel
theorem x_244_10 : decode (q_code 244) 10 = .ok (.invokevirtual 177, 3) := by decide +kernel
theorem x_244_13 : decode (q_code 244) 13 = .ok (.if_icmp .ge 59, 3) := by decide +kernel
theorem x_244_16 : decode (q_code 244) 16 = .ok (.aload_n 0, 1) := by decide +kernel
theorem x_244_17 : decode (q_code 244) 17 = .ok (.getfield 10, 3) := by decide +kernel
theorem x_244_20 : decode (q_code 244) 20 = .ok (.iload_n 3, 1) := by decide +kernel
theorem x_244_21 : decode (q_code 244) 21 = .ok (.baload, 1) := by decide +kernel
theorem x_244_22 : decode (q_code 244) 22 = .ok (.iconst 3, 1) := by decide +kernel
theorem x_244_23 : decode (q_code 244) 23 = .ok (.if_icmp .eq 16, 3) := by decide +kernel
theorem x_244_26 : decode (q_code 244) 26 = .ok (.aload_n 0, 1) := by decide +kernel
theorem x_244_27 : decode (q_code 244) 27 = .ok (.getfield 10, 3) := by decide +kernel
theorem x_244_30 : decode (q_code 244) 30 = .ok (.iload_n 3, 1) := by decide +kernel
theorem x_244_31 : decode (q_code 244) 31 = .ok (.baload, 1) := by decide +kernel
theorem x_244_32 : decode (q_code 244) 32 = .ok (.iconst 4, 1) := by decide +kernel
theorem x_244_33 : decode (q_code 244) 33 = .ok (.if_icmp .eq 6, 3) := by decide +kernel
theorem x_244_36 : decode (q_code 244) 36 = .ok (.goto 27, 3) := by decide +kernel
theorem x_244_39 : decode (q_code 244) 39 = .ok (.aload_n 0, 1) := by decide +kernel
theorem x_244_40 : decode (q_code 244) 40 = .ok (.aload_n 0, 1) := by decide +kernel
theorem x_244_41 : decode (q_code 244) 41 = .ok (.iload_n 3, 1) := by decide +kernel
theorem x_244_42 : decode (q_code 244) 42 = .ok (.invokevirtual 163, 3) := by decide +kernel
theorem x_244_45 : decode (q_code 244) 45 = .ok (.invokevirtual 191, 3) := by decide +kernel
theorem x_244_48 : decode (q_code 244) 48 = .ok (.istore 4, 2) := by decide +kernel
theorem x_244_50 : decode (q_code 244) 50 = .ok (.iload 4, 2) := by decide +kernel
theorem x_244_52 : decode (q_code 244) 52 = .ok (.iload_n 2, 1) := by decide +kernel
theorem x_244_53 : decode (q_code 244) 53 = .ok (.if_icmp .le 8, 3) := by decide +kernel
theorem x_244_56 : decode (q_code 244) 56 = .ok (.iload 4, 2) := by decide +kernel
theorem x_244_58 : decode (q_code 244) 58 = .ok (.goto 4, 3) := by decide +kernel
theorem x_244_61 : decode (q_code 244) 61 = .ok (.iload_n 2, 1) := by decide +kernel
theorem x_244_62 : decode (q_code 244) 62 = .ok (.istore_n 2, 1) := by decide +kernel
theorem x_244_63 : decode (q_code 244) 63 = .ok (.aload_n 0, 1) := by decide +kernel
theorem x_244_64 : decode (q_code 244) 64 = .ok (.iload_n 3, 1) := by decide +kernel
theorem x_244_65 : decode (q_code 244) 65 = .ok (.invokevirtual 180, 3) := by decide +kernel
theorem x_244_68 : decode (q_code 244) 68 = .ok (.istore_n 3, 1) := by decide +kernel
theorem x_244_69 : decode (q_code 244) 69 = .ok (.goto (-62), 3) := by decide +kernel
theorem x_244_72 : decode (q_code 244) 72 = .ok (.iload_n 2, 1) := by decide +kernel
theorem x_244_73 : decode (q_code 244) 73 = .ok (.iconst 1, 1) := by decide +kernel
theorem x_244_74 : decode (q_code 244) 74 = .ok (.iadd, 1) := by decide +kernel
theorem x_244_75 : decode (q_code 244) 75 = .ok (.ireturn, 1) := by decide +kernel
theorem x_245_0 : decode (q_code 245) 0 = .ok (.aload_n 0, 1) := by decide +kernel
theorem x_245_1 : decode (q_code 245) 1 = .ok (.iload_n 1, 1) := by decide +kernel
theorem x_245_2 : decode (q_code 245) 2 = .ok (.putfield 194, 3) := by decide +kernel
theorem x_245_5 : decode (q_code 245) 5 = .ok (.aload_n 0, 1) := by decide +kernel
theorem x_245_6 : decode (q_code 245) 6 = .ok (.iload_n 2, 1) := by decide +kernel
theorem x_245_7 : decode (q_code 245) 7 = .ok (.putfield 197, 3) := by decide +kernel
theorem x_245_10 : decode (q_code 245) 10 = .ok (.aload_n 0, 1) := by decide +kernel
theorem x_245_11 : decode (q_code 245) 11 = .ok (.iconst 0, 1) := by decide +kernel
theorem x_245_12 : decode (q_code 245) 12 = .ok (.putfield 200, 3) := by decide +kernel
theorem x_245_15 : decode (q_code 245) 15 = .ok (.return_, 1) := by decide +kernel
theorem x_246_0 : decode (q_code 246) 0 = .ok (.aload_n 0, 1) := by decide +kernel
theorem x_246_1 : decode (q_code 246) 1 = .ok (.getfield 194, 3) := by decide +kernel
theorem x_246_4 : decode (q_code 246) 4 = .ok (.aload_n 0, 1) := by decide +kernel
theorem x_246_5 : decode (q_code 246) 5 = .ok (.getfield 197, 3) := by decide +kernel
theorem x_246_8 : decode (q_code 246) 8 = .ok (.if_icmp .ge 27, 3) := by decide +kernel
theorem x_246_11 : decode (q_code 246) 11 = .ok (.aload_n 0, 1) := by decide +kernel
theorem x_246_12 : decode (q_code 246) 12 = .ok (.getfield 10, 3) := by decide +kernel
theorem x_246_15 : decode (q_code 246) 15 = .ok (.aload_n 0, 1) := by decide +kernel
theorem x_246_16 : decode (q_code 246) 16 = .ok (.getfield 194, 3) := by decide +kernel
theorem x_246_19 : decode (q_code 246) 19 = .ok (.iload_n 1, 1) := by decide +kernel
theorem x_246_20 : decode (q_code 246) 20 = .ok (.i2b, 1) := by decide +kernel
theorem x_246_21 : decode (q_code 246) 21 = .ok (.bastore, 1) := by decide +kernel
theorem x_246_22 : decode (q_code 246) 22 = .ok (.aload_n 0, 1) := by decide +kernel
theorem x_246_23 : decode (q_code 246) 23 = .ok (.dup, 1) := by decide +kernel
theorem x_246_24 : decode (q_code 246) 24 = .ok (.getfield 194, 3) := by decide +kernel
theorem x_246_27 : decode (q_code 246) 27 = .ok (.iconst 1, 1) := by decide +kernel
theorem x_246_28 : decode (q_code 246) 28 = .ok (.iadd, 1) := by decide +kernel
theorem x_246_29 : decode (q_code 246) 29 = .ok (.putfield 194, 3) := by decide +kernel
theorem x_246_32 : decode (q_code 246) 32 = .ok (.goto 8, 3) := by decide +kernel
theorem x_246_35 : decode (q_code 246) 35 = .ok (.aload_n 0, 1) := by decide +kernel
theorem x_246_36 : decode (q_code 246) 36 = .ok (.iconst 1, 1) := by decide +kernel
theorem x_246_37 : decode (q_code 246) 37 = .ok (.putfield 200, 3) := by decide +kernel
theorem x_246_40 : decode (q_code 246) 40 = .ok (.return_, 1) := by decide +kernel
theorem x_247_0 : decode (q_code 247) 0 = .ok (.iconst 0, 1) := by decide +kernel
theorem x_247_1 : decode (q_code 247) 1 = .ok (.istore_n 2, 1) := by decide +kernel
theorem x_247_2 : decode (q_code 247) 2 = .ok (.iload_n 2, 1) := by decide +kernel
theorem x_247_3 : decode (q_code 247) 3 = .ok (.iconst 4, 1) := by decide +kernel
theorem x_247_4 : decode (q_code 247) 4 = .ok (.if_icmp .ge 19, 3) := by decide +kernel
theorem x_247_7 : decode (q_code 247) 7 = .ok (.aload_n 0, 1) := by decide +kernel
theorem x_247_8 : decode (q_code 247) 8 = .ok (.iload_n 1, 1) := by decide +kernel
theorem x_247_9 : decode (q_code 247) 9 = .ok (.bipush 8, 2) := by decide +kernel
theorem x_247_11 : decode (q_code 247) 11 = .ok (.iload_n 2, 1) := by decide +kernel
theorem x_247_12 : decode (q_code 247) 12 = .ok (.imul, 1) := by decide +kernel
theorem x_247_13 : decode (q_code 247) 13 = .ok (.ishr, 1) := by decide +kernel
theorem x_247_14 : decode (q_code 247) 14 = .ok (.invokevirtual 204, 3) := by decide +kernel
theorem x_247_17 : decode (q_code 247) 17 = .ok (.iinc 2 1, 3) := by decide +kernel
theorem x_247_20 : decode (q_code 247) 20 = .ok (.goto (-18), 3) := by decide +kernel
theorem x_247_23 : decode (q_code 247) 23 = .ok (.return_, 1) := by decide +kernel
theorem x_248_0 : decode (q_code 248) 0 = .ok (.iload_n 1, 1) := by decide +kernel
theorem x_248_1 : decode (q_code 248) 1 = .ok (.istore_n 3, 1) := by decide +kernel
theorem x_248_2 : decode (q_code 248) 2 = .ok (.iload_n 3, 1) := by decide +kernel
theorem x_248_3 : decode (q_code 248) 3 = .ok (.iload_n 2, 1) := by decide +kernel
theorem x_248_4 : decode (q_code 248) 4 = .ok (.if_icmp .ge 19, 3) := by decide +kernel
theorem x_248_7 : decode (q_code 248) 7 = .ok (.aload_n 0, 1) := by decide +kernel
theorem x_248_8 : decode (q_code 248) 8 = .ok (.aload_n 0, 1) := by decide +kernel
theorem x_248_9 : decode (q_code 248) 9 = .ok (.getfield 10, 3) := by decide +kernel
theorem x_248_12 : decode (q_code 248) 12 = .ok (.iload_n 3, 1) := by decide +kernel
theorem x_248_13 : decode (q_code 248) 13 = .ok (.baload, 1) := by decide +kernel
theorem x_248_14 : decode (q_code 248) 14 = .ok (.invokevirtual 204, 3) := by decide +kernel
theorem x_248_17 : decode (q_code 248) 17 = .ok (.iinc 3 1, 3) := by decide +kernel
theorem x_248_20 : decode (q_code 248) 20 = .ok (.goto (-18), 3) := by decide +kernel
theorem x_248_23 : decode (q_code 248) 23 = .ok (.return_, 1) := by decide +kernel
theorem x_249_0 : decode (q_code 249) 0 = .ok (.iconst 0, 1) := by decide +kernel
theorem x_249_1 : decode (q_code 249) 1 = .ok (.istore_n 2, 1) := by decide +kernel
theorem x_249_2 : decode (q_code 249) 2 = .ok (.iload_n 2, 1) := by decide +kernel
theorem x_249_3 : decode (q_code 249) 3 = .ok (.aload_n 1, 1) := by decide +kernel
theorem x_249_4 : decode (q_code 249) 4 = .ok (.invokevirtual 150, 3) := by decide +kernel
theorem x_249_7 : decode (q_code 249) 7 = .ok (.if_icmp .ge 18, 3) := by decide +kernel
theorem x_249_10 : decode (q_code 249) 10 = .ok (.aload_n 0, 1) := by decide +kernel
theorem x_249_11 : decode (q_code 249) 11 = .ok (.aload_n 1, 1) := by decide +kernel
theorem x_249_12 : decode (q_code 249) 12 = .ok (.iload_n 2, 1) := by decide +kernel
theorem x_249_13 : decode (q_code 249) 13 = .ok (.invokevirtual 156, 3) := by decide +kernel
theorem x_249_16 : decode (q_code 249) 16 = .ok (.invokevirtual 204, 3) := by decide +kernel
theorem x_249_19 : decode (q_code 249) 19 = .ok (.iinc 2 1, 3) := by decide +kernel
theorem x_249_22 : decode (q_code 249) 22 = .ok (.goto (-20), 3) := by decide +kernel
theorem x_249_25 : decode (q_code 249) 25 = .ok (.aload_n 0, 1) := by decide +kernel
theorem x_249_26 : decode (q_code 249) 26 = .ok (.iconst 0, 1) := by decide +kernel
theorem x_249_27 : decode (q_code 249) 27 = .ok (.invokevirtual 204, 3) := by decide +kernel
theorem x_249_30 : decode (q_code 249) 30 = .ok (.return_, 1) := by decide +kernel
theorem x_250_0 : decode (q_code 250) 0 = .ok (.iconst 1, 1) := by decide +kernel
theorem x_250_1 : decode (q_code 250) 1 = .ok (.istore_n 2, 1) := by decide +kernel
theorem x_250_2 : decode (q_code 250) 2 = .ok (.iload_n 1, 1) := by decide +kernel
theorem x_250_3 : decode (q_code 250) 3 = .ok (.iload_n 2, 1) := by decide +kernel
theorem x_250_4 : decode (q_code 250) 4 = .ok (.idiv, 1) := by decide +kernel
theorem x_250_5 : decode (q_code 250) 5 = .ok (.bipush 9, 2) := by decide +kernel
theorem x_250_7 : decode (q_code 250) 7 = .ok (.if_icmp .le 11, 3) := by decide +kernel
theorem x_250_10 : decode (q_code 250) 10 = .ok (.iload_n 2, 1) := by decide +kernel
theorem x_250_11 : decode (q_code 250) 11 = .ok (.bipush 10, 2) := by decide +kernel
theorem x_250_13 : decode (q_code 250) 13 = .ok (.imul, 1) := by decide +kernel
theorem x_250_14 : decode (q_code 250) 14 = .ok (.istore_n 2, 1) := by decide +kernel
theorem x_250_15 : decode (q_code 250) 15 = .ok (.goto (-13), 3) := by decide +kernel
theorem x_250_18 : decode (q_code 250) 18 = .ok (.iload_n 2, 1) := by decide +kernel
theorem x_250_19 : decode (q_code 250) 19 = .ok (.ifCond .le 24, 3) := by decide +kernel
theorem x_250_22 : decode (q_code 250) 22 = .ok (.aload_n 0, 1) := by decide +kernel
theorem x_250_23 : decode (q_code 250) 23 = .ok (.bipush 48, 2) := by decide +kernel
theorem x_250_25 : decode (q_code 250) 25 = .ok (.iload_n 1, 1) := by decide +kernel
theorem x_250_26 : decode (q_code 250) 26 = .ok (.iload_n 2, 1) := by decide +kernel
theorem x_250_27 : decode (q_code 250) 27 = .ok (.idiv, 1) := by decide +kernel
theorem x_250_28 : decode (q_code 250) 28 = .ok (.bipush 10, 2) := by decide +kernel
theorem x_250_30 : decode (q_code 250) 30 = .ok (.irem, 1) := by decide +kernel
theorem x_250_31 : decode (q_code 250) 31 = .ok (.iadd, 1) := by decide +kernel
theorem x_250_32 : decode (q_code 250) 32 = .ok (.invokevirtual 204, 3) := by decide +kernel
theorem x_250_35 : decode (q_code 250) 35 = .ok (.iload_n 2, 1) := by decide +kernel
theorem x_250_36 : decode (q_code 250) 36 = .ok (.bipush 10, 2) := by decide +kernel
theorem x_250_38 : decode (q_code 250) 38 = .ok (.idiv, 1) := by decide +kernel
theorem x_250_39 : decode (q_code 250) 39 = .ok (.istore_n 2, 1) := by decide +kernel
theorem x_250_40 : decode (q_code 250) 40 = .ok (.goto (-22), 3) := by decide +kernel
theorem x_250_43 : decode (q_code 250) 43 = .ok (.aload_n 0, 1) := by decide +kernel
theorem x_250_44 : decode (q_code 250) 44 = .ok (.iconst 0, 1) := by decide +kernel
theorem x_250_45 : decode (q_code 250) 45 = .ok (.invokevirtual 204, 3) := by decide +kernel
theorem x_250_48 : decode (q_code 250) 48 = .ok (.return_, 1) := by decide +kernel
theorem x_251_0 : decode (q_code 251) 0 = .ok (.aload_n 0, 1) := by decide +kernel
theorem x_251_1 : decode (q_code 251) 1 = .ok (.getfield 194, 3) := by decide +kernel
theorem x_251_4 : decode (q_code 251) 4 = .ok (.istore_n 1, 1) := by decide +kernel
theorem x_251_5 : decode (q_code 251) 5 = .ok (.aload_n 0, 1) := by decide +kernel
theorem x_251_6 : decode (q_code 251) 6 = .ok (.iconst 0, 1) := by decide +kernel
theorem x_251_7 : decode (q_code 251) 7 = .ok (.invokevirtual 207, 3) := by decide +kernel
theorem x_251_10 : decode (q_code 251) 10 = .ok (.iload_n 1, 1) := by decide +kernel
theorem x_251_11 : decode (q_code 251) 11 = .ok (.ireturn, 1) := by decide +kernel
theorem x_252_0 : decode (q_code 252) 0 = .ok (.aload_n 0, 1) := by decide +kernel
theorem x_252_1 : decode (q_code 252) 1 = .ok (.iconst 0, 1) := by decide +kernel
theorem x_252_2 : decode (q_code 252) 2 = .ok (.invokevirtual 204, 3) := by decide +kernel
theorem x_252_5 : decode (q_code 252) 5 = .ok (.aload_n 0, 1) := by decide +kernel
theorem x_252_6 : decode (q_code 252) 6 = .ok (.getfield 200, 3) := by decide +kernel
theorem x_252_9 : decode (q_code 252) 9 = .ok (.ifCond .ne 14, 3) := by decide +kernel
theorem x_252_12 : decode (q_code 252) 12 = .ok (.aload_n 0, 1) := by decide +kernel
theorem x_252_13 : decode (q_code 252) 13 = .ok (.iload_n 1, 1) := by decide +kernel
theorem x_252_14 : decode (q_code 252) 14 = .ok (.aload_n 0, 1) := by decide +kernel
theorem x_252_15 : decode (q_code 252) 15 = .ok (.getfield 194, 3) := by decide +kernel
theorem x_252_18 : decode (q_code 252) 18 = .ok (.iload_n 1, 1) := by decide +kernel
theorem x_252_19 : decode (q_code 252) 19 = .ok (.isub, 1) := by decide +kernel
theorem x_252_20 : decode (q_code 252) 20 = .ok (.invokevirtual 210, 3) := by decide +kernel
theorem x_252_23 : decode (q_code 252) 23 = .ok (.return_, 1) := by decide +kernel
theorem x_253_0 : decode (q_code 253) 0 = .ok (.aload_n 0, 1) := by decide +kernel
theorem x_253_1 : decode (q_code 253) 1 = .ok (.iload_n 1, 1) := by decide +kernel
theorem x_253_2 : decode (q_code 253) 2 = .ok (.invokevirtual 163, 3) := by decide +kernel
theorem x_253_5 : decode (q_code 253) 5 = .ok (.istore_n 2, 1) := by decide +kernel
theorem x_253_6 : decode (q_code 253) 6 = .ok (.aload_n 0, 1) := by decide +kernel
theorem x_253_7 : decode (q_code 253) 7 = .ok (.iload_n 2, 1) := by decide +kernel
theorem x_253_8 : decode (q_code 253) 8 = .ok (.iload_n 2, 1) := by decide +kernel
theorem x_253_9 : decode (q_code 253) 9 = .ok (.aload_n 0, 1) := by decide +kernel
theorem x_253_10 : decode (q_code 253) 10 = .ok (.aload_n 0, 1) := by decide +kernel
theorem x_253_11 : decode (q_code 253) 11 = .ok (.getfield 10, 3) := by decide +kernel
theorem x_253_14 : decode (q_code 253) 14 = .ok (.iload_n 1, 1) := by decide +kernel
theorem x_253_15 : decode (q_code 253) 15 = .ok (.baload, 1) := by decide +kernel
theorem x_253_16 : decode (q_code 253) 16 = .ok (.iload_n 2, 1) := by decide +kernel
theorem x_253_17 : decode (q_code 253) 17 = .ok (.invokevirtual 166, 3) := by decide +kernel
theorem x_253_20 : decode (q_code 253) 20 = .ok (.iadd, 1) := by decide +kernel
theorem x_253_21 : decode (q_code 253) 21 = .ok (.invokevirtual 214, 3) := by decide +kernel
theorem x_253_24 : decode (q_code 253) 24 = .ok (.return_, 1) := by decide +kernel
theorem x_254_0 : decode (q_code 254) 0 = .ok (.aload_n 0, 1) := by decide +kernel
theorem x_254_1 : decode (q_code 254) 1 = .ok (.aload_n 0, 1) := by decide +kernel
theorem x_254_2 : decode (q_code 254) 2 = .ok (.getfield 10, 3) := by decide +kernel
theorem x_254_5 : decode (q_code 254) 5 = .ok (.iload_n 3, 1) := by decide +kernel
theorem x_254_6 : decode (q_code 254) 6 = .ok (.baload, 1) := by decide +kernel
theorem x_254_7 : decode (q_code 254) 7 = .ok (.invokevirtual 204, 3) := by decide +kernel
theorem x_254_10 : decode (q_code 254) 10 = .ok (.aload_n 0, 1) := by decide +kernel
theorem x_254_11 : decode (q_code 254) 11 = .ok (.iload_n 1, 1) := by decide +kernel
theorem x_254_12 : decode (q_code 254) 12 = .ok (.iload_n 2, 1) := by decide +kernel
theorem x_254_13 : decode (q_code 254) 13 = .ok (.invokevirtual 214, 3) := by decide +kernel
theorem x_254_16 : decode (q_code 254) 16 = .ok (.aload_n 0, 1) := by decide +kernel
theorem x_254_17 : decode (q_code 254) 17 = .ok (.iconst 0, 1) := by decide +kernel
theorem x_254_18 : decode (q_code 254) 18 = .ok (.invokevirtual 204, 3) := by decide +kernel
theorem x_254_21 : decode (q_code 254) 21 = .ok (.aload_n 0, 1) := by decide +kernel
theorem x_254_22 : decode (q_code 254) 22 = .ok (.iload_n 3, 1) := by decide +kernel
theorem x_254_23 : decode (q_code 254) 23 = .ok (.invokevirtual 217, 3) := by decide +kernel
theorem x_254_26 : decode (q_code 254) 26 = .ok (.return_, 1) := by decide +kernel
theorem x_255_0 : decode (q_code 255) 0 = .ok (.aload_n 0, 1) := by decide +kernel
theorem x_255_1 : decode (q_code 255) 1 = .ok (.bipush 16, 2) := by decide +kernel
theorem x_255_3 : decode (q_code 255) 3 = .ok (.invokevirtual 204, 3) := by decide +kernel
theorem x_255_6 : decode (q_code 255) 6 = .ok (.aload_n 0, 1) := by decide +kernel
theorem x_255_7 : decode (q_code 255) 7 = .ok (.aload_n 1, 1) := by decide +kernel
theorem x_255_8 : decode (q_code 255) 8 = .ok (.invokevirtual 220, 3) := by decide +kernel
theorem x_255_11 : decode (q_code 255) 11 = .ok (.aload_n 0, 1) := by decide +kernel
theorem x_255_12 : decode (q_code 255) 12 = .ok (.iload_n 2, 1) := by decide +kernel
theorem x_255_13 : decode (q_code 255) 13 = .ok (.invokevirtual 207, 3) := by decide +kernel
theorem x_255_16 : decode (q_code 255) 16 = .ok (.return_, 1) := by decide +kernel
theorem x_256_0 : decode (q_code 256) 0 = .ok (.aload_n 0, 1) := by decide +kernel
theorem x_256_1 : decode (q_code 256) 1 = .ok (.bipush 8, 2) := by decide +kernel
theorem x_256_3 : decode (q_code 256) 3 = .ok (.invokevirtual 204, 3) := by decide +kernel
theorem x_256_6 : decode (q_code 256) 6 = .ok (.aload_n 0, 1) := by decide +kernel
theorem x_256_7 : decode (q_code 256) 7 = .ok (.aload_n 1, 1) := by decide +kernel
theorem x_256_8 : decode (q_code 256) 8 = .ok (.invokevirtual 220, 3) := by decide +kernel
theorem x_256_11 : decode (q_code 256) 11 = .ok (.aload_n 0, 1) := by decide +kernel
theorem x_256_12 : decode (q_code 256) 12 = .ok (.iload_n 2, 1) := by decide +kernel
theorem x_256_13 : decode (q_code 256) 13 = .ok (.ifCond .eq 7, 3) := by decide +kernel
theorem x_256_16 : decode (q_code 256) 16 = .ok (.iconst 1, 1) := by decide +kernel
theorem x_256_17 : decode (q_code 256) 17 = .ok (.goto 4, 3) := by decide +kernel
theorem x_256_20 : decode (q_code 256) 20 = .ok (.iconst 0, 1) := by decide +kernel
theorem x_256_21 : decode (q_code 256) 21 = .ok (.invokevirtual 204, 3) := by decide +kernel
theorem x_256_24 : decode (q_code 256) 24 = .ok (.return_, 1) := by decide +kernel
theorem x_257_0 : decode (q_code 257) 0 = .ok (.aload_n 0, 1) := by decide +kernel
theorem x_257_1 : decode (q_code 257) 1 = .ok (.iload_n 1, 1) := by decide +kernel
theorem x_257_2 : decode (q_code 257) 2 = .ok (.putfield 224, 3) := by decide +kernel
theorem x_257_5 : decode (q_code 257) 5 = .ok (.aload_n 0, 1) := by decide +kernel
theorem x_257_6 : decode (q_code 257) 6 = .ok (.iload_n 2, 1) := by decide +kernel
theorem x_257_7 : decode (q_code 257) 7 = .ok (.putfield 227, 3) := by decide +kernel
theorem x_257_10 : decode (q_code 257) 10 = .ok (.iconst 0, 1) := by decide +kernel
theorem x_257_11 : decode (q_code 257) 11 = .ok (.ireturn, 1) := by decide +kernel
theorem x_258_0 : decode (q_code 258) 0 = .ok (.aload_n 0, 1) := by decide +kernel
theorem x_258_1 : decode (q_code 258) 1 = .ok (.iload_n 1, 1) := by decide +kernel
theorem x_258_2 : decode (q_code 258) 2 = .ok (.invokevirtual 141, 3) := by decide +kernel
theorem x_258_5 : decode (q_code 258) 5 = .ok (.istore_n 3, 1) := by decide +kernel
theorem x_258_6 : decode (q_code 258) 6 = .ok (.iload_n 3, 1) := by decide +kernel
theorem x_258_7 : decode (q_code 258) 7 = .ok (.sipush 128, 3) := by decide +kernel
theorem x_258_10 : decode (q_code 258) 10 = .ok (.if_icmp .ge 7, 3) := by decide +kernel
theorem x_258_13 : decode (q_code 258) 13 = .ok (.iconst 1, 1) := by decide +kernel
theorem x_258_14 : decode (q_code 258) 14 = .ok (.goto 48, 3) := by decide +kernel
theorem x_258_17 : decode (q_code 258) 17 = .ok (.iload_n 3, 1) := by decide +kernel
theorem x_258_18 : decode (q_code 258) 18 = .ok (.sipush 194, 3) := by decide +kernel
theorem x_258_21 : decode (q_code 258) 21 = .ok (.if_icmp .ge 7, 3) := by decide +kernel
theorem x_258_24 : decode (q_code 258) 24 = .ok (.iconst 0, 1) := by decide +kernel
theorem x_258_25 : decode (q_code 258) 25 = .ok (.goto 37, 3) := by decide +kernel
theorem x_258_28 : decode (q_code 258) 28 = .ok (.iload_n 3, 1) := by decide +kernel
theorem x_258_29 : decode (q_code 258) 29 = .ok (.sipush 224, 3) := by decide +kernel
theorem x_258_32 : decode (q_code 258) 32 = .ok (.if_icmp .ge 7, 3) := by decide +kernel
theorem x_258_35 : decode (q_code 258) 35 = .ok (.iconst 2, 1) := by decide +kernel
theorem x_258_36 : decode (q_code 258) 36 = .ok (.goto 26, 3) := by decide +kernel
theorem x_258_39 : decode (q_code 258) 39 = .ok (.iload_n 3, 1) := by decide +kernel
theorem x_258_40 : decode (q_code 258) 40 = .ok (.sipush 240, 3) := by decide +kernel
theorem x_258_43 : decode (q_code 258) 43 = .ok (.if_icmp .ge 7, 3) := by decide +kernel
theorem x_258_46 : decode (q_code 258) 46 = .ok (.iconst 3, 1) := by decide +kernel
theorem x_258_47 : decode (q_code 258) 47 = .ok (.goto 15, 3) := by decide +kernel
theorem x_258_50 : decode (q_code 258) 50 = .ok (.iload_n 3, 1) := by decide +kernel
theorem x_258_51 : decode (q_code 258) 51 = .ok (.sipush 245, 3) := by decide +kernel
theorem x_258_54 : decode (q_code 258) 54 = .ok (.if_icmp .ge 7, 3) := by decide +kernel
theorem x_258_57 : decode (q_code 258) 57 = .ok (.iconst 4, 1) := by decide +kernel
theorem x_258_58 : decode (q_code 258) 58 = .ok (.goto 4, 3) := by decide +kernel
theorem x_258_61 : decode (q_code 258) 61 = .ok (.iconst 0, 1) := by decide +kernel
theorem x_258_62 : decode (q_code 258) 62 = .ok (.istore 4, 2) := by decide +kernel
theorem x_258_64 : decode (q_code 258) 64 = .ok (.iload 4, 2) := by decide +kernel
theorem x_258_66 : decode (q_code 258) 66 = .ok (.ifCond .eq 11, 3) := by decide +kernel
theorem x_258_69 : decode (q_code 258) 69 = .ok (.iload_n 1, 1) := by decide +kernel
theorem x_258_70 : decode (q_code 258) 70 = .ok (.iload 4, 2) := by decide +kernel
theorem x_258_72 : decode (q_code 258) 72 = .ok (.iadd, 1) := by decide +kernel
theorem x_258_73 : decode (q_code 258) 73 = .ok (.iload_n 2, 1) := by decide +kernel
theorem x_258_74 : decode (q_code 258) 74 = .ok (.if_icmp .le 5, 3) := by decide +kernel
theorem x_258_77 : decode (q_code 258) 77 = .ok (.iconst 0, 1) := by decide +kernel
theorem x_258_78 : decode (q_code 258) 78 = .ok (.ireturn, 1) := by decide +kernel
theorem x_258_79 : decode (q_code 258) 79 = .ok (.iload 4, 2) := by decide +kernel
theorem x_258_81 : decode (q_code 258) 81 = .ok (.iconst 1, 1) := by decide +kernel
theorem x_258_82 : decode (q_code 258) 82 = .ok (.if_icmp .ne 7, 3) := by decide +kernel
theorem x_258_85 : decode (q_code 258) 85 = .ok (.iload_n 3, 1) := by decide +kernel
theorem x_258_86 : decode (q_code 258) 86 = .ok (.goto 33, 3) := by decide +kernel
theorem x_258_89 : decode (q_code 258) 89 = .ok (.iload 4, 2) := by decide +kernel
theorem x_258_91 : decode (q_code 258) 91 = .ok (.iconst 2, 1) := by decide +kernel
theorem x_258_92 : decode (q_code 258) 92 = .ok (.if_icmp .ne 10, 3) := by decide +kernel
theorem x_258_95 : decode (q_code 258) 95 = .ok (.iload_n 3, 1) := by decide +kernel
theorem x_258_96 : decode (q_code 258) 96 = .ok (.bipush 31, 2) := by decide +kernel
theorem x_258_98 : decode (q_code 258) 98 = .ok (.iand, 1) := by decide +kernel
theorem x_258_99 : decode (q_code 258) 99 = .ok (.goto 20, 3) := by decide +kernel
theorem x_258_102 : decode (q_code 258) 102 = .ok (.iload 4, 2) := by decide +kernel
theorem x_258_104 : decode (q_code 258) 104 = .ok (.iconst 3, 1) := by decide +kernel
theorem x_258_105 : decode (q_code 258) 105 = .ok (.if_icmp .ne 10, 3) := by decide +kernel
theorem x_258_108 : decode (q_code 258) 108 = .ok (.iload_n 3, 1) := by decide +kernel
theorem x_258_109 : decode (q_code 258) 109 = .ok (.bipush 15, 2) := by decide +kernel
theorem x_258_111 : decode (q_code 258) 111 = .ok (.iand, 1) := by decide +kernel
theorem x_258_112 : decode (q_code 258) 112 = .ok (.goto 7, 3) := by decide +kernel
theorem x_258_115 : decode (q_code 258) 115 = .ok (.iload_n 3, 1) := by decide +kernel
theorem x_258_116 : decode (q_code 258) 116 = .ok (.bipush 7, 2) := by decide +kernel
theorem x_258_118 : decode (q_code 258) 118 = .ok (.iand, 1) := by decide +kernel
theorem x_258_119 : decode (q_code 258) 119 = .ok (.istore 5, 2) := by decide +kernel
theorem x_258_121 : decode (q_code 258) 121 = .ok (.iconst 1, 1) := by decide +kernel
theorem x_258_122 : decode (q_code 258) 122 = .ok (.istore 6, 2) := by decide +kernel
theorem x_258_124 : decode (q_code 258) 124 = .ok (.iload 6, 2) := by decide +kernel
theorem x_258_126 : decode (q_code 258) 126 = .ok (.iload 4, 2) := by decide +kernel
theorem x_258_128 : decode (q_code 258) 128 = .ok (.if_icmp .ge 48, 3) := by decide +kernel
theorem x_258_131 : decode (q_code 258) 131 = .ok (.aload_n 0, 1) := by decide +kernel
theorem x_258_132 : decode (q_code 258) 132 = .ok (.iload_n 1, 1) := by decide +kernel
theorem x_258_133 : decode (q_code 258) 133 = .ok (.iload 6, 2) := by decide +kernel
theorem x_258_135 : decode (q_code 258) 135 = .ok (.iadd, 1) := by decide +kernel
theorem x_258_136 : decode (q_code 258) 136 = .ok (.invokevirtual 141, 3) := by decide +kernel
theorem x_258_139 : decode (q_code 258) 139 = .ok (.sipush 192, 3) := by decide +kernel
theorem x_258_142 : decode (q_code 258) 142 = .ok (.iand, 1) := by decide +kernel
theorem x_258_143 : decode (q_code 258) 143 = .ok (.sipush 128, 3) := by decide +kernel
theorem x_258_146 : decode (q_code 258) 146 = .ok (.if_icmp .eq 5, 3) := by decide +kernel
theorem x_258_149 : decode (q_code 258) 149 = .ok (.iconst 0, 1) := by decide +kernel
theorem x_258_150 : decode (q_code 258) 150 = .ok (.ireturn, 1) := by decide +kernel
theorem x_258_151 : decode (q_code 258) 151 = .ok (.iload 5, 2) := by decide +kernel
theorem x_258_153 : decode (q_code 258) 153 = .ok (.bipush 6, 2) := by decide +kernel
theorem x_258_155 : decode (q_code 258) 155 = .ok (.ishl, 1) := by decide +kernel
theorem x_258_156 : decode (q_code 258) 156 = .ok (.aload_n 0, 1) := by decide +kernel
theorem x_258_157 : decode (q_code 258) 157 = .ok (.iload_n 1, 1) := by decide +kernel
theorem x_258_158 : decode (q_code 258) 158 = .ok (.iload 6, 2) := by decide +kernel
theorem x_258_160 : decode (q_code 258) 160 = .ok (.iadd, 1) := by decide +kernel
theorem x_258_161 : decode (q_code 258) 161 = .ok (.invokevirtual 141, 3) := by decide +kernel
theorem x_258_164 : decode (q_code 258) 164 = .ok (.bipush 63, 2) := by decide +kernel
theorem x_258_166 : decode (q_code 258) 166 = .ok (.iand, 1) := by decide +kernel
theorem x_258_167 : decode (q_code 258) 167 = .ok (.ior, 1) := by decide +kernel
theorem x_258_168 : decode (q_code 258) 168 = .ok (.istore 5, 2) := by decide +kernel
theorem x_258_170 : decode (q_code 258) 170 = .ok (.iinc 6 1, 3) := by decide +kernel
theorem x_258_173 : decode (q_code 258) 173 = .ok (.goto (-49), 3) := by decide +kernel
theorem x_258_176 : decode (q_code 258) 176 = .ok (.iload 4, 2) := by decide +kernel
theorem x_258_178 : decode (q_code 258) 178 = .ok (.iconst 3, 1) := by decide +kernel
theorem x_258_179 : decode (q_code 258) 179 = .ok (.if_icmp .lt 27, 3) := by decide +kernel
theorem x_258_182 : decode (q_code 258) 182 = .ok (.iload 4, 2) := by decide +kernel
theorem x_258_184 : decode (q_code 258) 184 = .ok (.iconst 3, 1) := by decide +kernel
theorem x_258_185 : decode (q_code 258) 185 = .ok (.if_icmp .ne 14, 3) := by decide +kernel
theorem x_258_188 : decode (q_code 258) 188 = .ok (.iload 5, 2) := by decide +kernel
theorem x_258_190 : decode (q_code 258) 190 = .ok (.sipush 2048, 3) := by decide +kernel
theorem x_258_193 : decode (q_code 258) 193 = .ok (.if_icmp .lt 17, 3) := by decide +kernel
theorem x_258_196 : decode (q_code 258) 196 = .ok (.goto 10, 3) := by decide +kernel
theorem x_258_199 : decode (q_code 258) 199 = .ok (.iload 5, 2) := by decide +kernel
theorem x_258_201 : decode (q_code 258) 201 = .ok (.ldc 230, 2) := by decide +kernel
theorem x_258_203 : decode (q_code 258) 203 = .ok (.if_icmp .lt 7, 3) := by decide +kernel
theorem x_258_206 : decode (q_code 258) 206 = .ok (.iconst 1, 1) := by decide +kernel
theorem x_258_207 : decode (q_code 258) 207 = .ok (.goto 4, 3) := by decide +kernel
theorem x_258_210 : decode (q_code 258) 210 = .ok (.iconst 0, 1) := by decide +kernel
theorem x_258_211 : decode (q_code 258) 211 = .ok (.istore 6, 2) := by decide +kernel
theorem x_258_213 : decode (q_code 258) 213 = .ok (.iload 6, 2) := by decide +kernel
theorem x_258_215 : decode (q_code 258) 215 = .ok (.ifCond .eq 29, 3) := by decide +kernel
theorem x_258_218 : decode (q_code 258) 218 = .ok (.iload 5, 2) := by decide +kernel
theorem x_258_220 : decode (q_code 258) 220 = .ok (.ldc 231, 2) := by decide +kernel
theorem x_258_222 : decode (q_code 258) 222 = .ok (.if_icmp .gt 22, 3) := by decide +kernel
theorem x_258_225 : decode (q_code 258) 225 = .ok (.iload 5, 2) := by decide +kernel
theorem x_258_227 : decode (q_code 258) 227 = .ok (.ldc 232, 2) := by decide +kernel
theorem x_258_229 : decode (q_code 258) 229 = .ok (.if_icmp .lt 10, 3) := by decide +kernel
theorem x_258_232 : decode (q_code 258) 232 = .ok (.iload 5, 2) := by decide +kernel
theorem x_258_234 : decode (q_code 258) 234 = .ok (.ldc 233, 2) := by decide +kernel
theorem x_258_236 : decode (q_code 258) 236 = .ok (.if_icmp .le 8, 3) := by decide +kernel
theorem x_258_239 : decode (q_code 258) 239 = .ok (.iload 4, 2) := by decide +kernel
theorem x_258_241 : decode (q_code 258) 241 = .ok (.goto 4, 3) := by decide +kernel
theorem x_258_244 : decode (q_code 258) 244 = .ok (.iconst 0, 1) := by decide +kernel
theorem x_258_245 : decode (q_code 258) 245 = .ok (.ireturn, 1) := by decide +kernel
theorem x_259_0 : decode (q_code 259) 0 = .ok (.iload_n 1, 1) := by decide +kernel
theorem x_259_1 : decode (q_code 259) 1 = .ok (.istore_n 3, 1) := by decide +kernel
theorem x_259_2 : decode (q_code 259) 2 = .ok (.iload_n 3, 1) := by decide +kernel
theorem x_259_3 : decode (q_code 259) 3 = .ok (.iload_n 2, 1) := by decide +kernel
theorem x_259_4 : decode (q_code 259) 4 = .ok (.if_icmp .ge 31, 3) := by decide +kernel
theorem x_259_7 : decode (q_code 259) 7 = .ok (.aload_n 0, 1) := by decide +kernel
theorem x_259_8 : decode (q_code 259) 8 = .ok (.iload_n 3, 1) := by decide +kernel
theorem x_259_9 : decode (q_code 259) 9 = .ok (.iload_n 2, 1) := by decide +kernel
theorem x_259_10 : decode (q_code 259) 10 = .ok (.invokevirtual 234, 3) := by decide +kernel
theorem x_259_13 : decode (q_code 259) 13 = .ok (.istore 4, 2) := by decide +kernel
theorem x_259_15 : decode (q_code 259) 15 = .ok (.iload 4, 2) := by decide +kernel
theorem x_259_17 : decode (q_code 259) 17 = .ok (.ifCond .ne 10, 3) := by decide +kernel
theorem x_259_20 : decode (q_code 259) 20 = .ok (.aload_n 0, 1) := by decide +kernel
theorem x_259_21 : decode (q_code 259) 21 = .ok (.iconst 4, 1) := by decide +kernel
theorem x_259_22 : decode (q_code 259) 22 = .ok (.iload_n 3, 1) := by decide +kernel
theorem x_259_23 : decode (q_code 259) 23 = .ok (.invokevirtual 237, 3) := by decide +kernel
theorem x_259_26 : decode (q_code 259) 26 = .ok (.ireturn, 1) := by decide +kernel
theorem x_259_27 : decode (q_code 259) 27 = .ok (.iload_n 3, 1) := by decide +kernel
theorem x_259_28 : decode (q_code 259) 28 = .ok (.iload 4, 2) := by decide +kernel
theorem x_259_30 : decode (q_code 259) 30 = .ok (.iadd, 1) := by decide +kernel
theorem x_259_31 : decode (q_code 259) 31 = .ok (.istore_n 3, 1) := by decide +kernel
theorem x_259_32 : decode (q_code 259) 32 = .ok (.goto (-30), 3) := by decide +kernel
theorem x_259_35 : decode (q_code 259) 35 = .ok (.iconst 1, 1) := by decide +kernel
theorem x_259_36 : decode (q_code 259) 36 = .ok (.ireturn, 1) := by decide +kernel
theorem x_260_0 : decode (q_code 260) 0 = .ok (.iload_n 1, 1) := by decide +kernel
theorem x_260_1 : decode (q_code 260) 1 = .ok (.iconst 4, 1) := by decide +kernel
theorem x_260_2 : decode (q_code 260) 2 = .ok (.if_icmp .ge 10, 3) := by decide +kernel
theorem x_260_5 : decode (q_code 260) 5 = .ok (.aload_n 0, 1) := by decide +kernel
theorem x_260_6 : decode (q_code 260) 6 = .ok (.iconst 1, 1) := by decide +kernel
theorem x_260_7 : decode (q_code 260) 7 = .ok (.iconst 0, 1) := by decide +kernel
theorem x_260_8 : decode (q_code 260) 8 = .ok (.invokevirtual 237, 3) := by decide +kernel
theorem x_260_11 : decode (q_code 260) 11 = .ok (.ireturn, 1) := by decide +kernel
theorem x_260_12 : decode (q_code 260) 12 = .ok (.aload_n 0, 1) := by decide +kernel
theorem x_260_13 : decode (q_code 260) 13 = .ok (.iconst 0, 1) := by decide +kernel
theorem x_260_14 : decode (q_code 260) 14 = .ok (.invokevirtual 145, 3) := by decide +kernel
theorem x_260_17 : decode (q_code 260) 17 = .ok (.i2l, 1) := by decide +kernel
theorem x_260_18 : decode (q_code 260) 18 = .ok (.ldc2_w 148, 3) := by decide +kernel
theorem x_260_21 : decode (q_code 260) 21 = .ok (.land, 1) := by decide +kernel
theorem x_260_22 : decode (q_code 260) 22 = .ok (.lstore_n 2, 1) := by decide +kernel
theorem x_260_23 : decode (q_code 260) 23 = .ok (.lload_n 2, 1) := by decide +kernel
theorem x_260_24 : decode (q_code 260) 24 = .ok (.ldc2_w 241, 3) := by decide +kernel
theorem x_260_27 : decode (q_code 260) 27 = .ok (.lcmp, 1) := by decide +kernel
theorem x_260_28 : decode (q_code 260) 28 = .ok (.ifCond .lt 10, 3) := by decide +kernel
theorem x_260_31 : decode (q_code 260) 31 = .ok (.lload_n 2, 1) := by decide +kernel
theorem x_260_32 : decode (q_code 260) 32 = .ok (.iload_n 1, 1) := by decide +kernel
theorem x_260_33 : decode (q_code 260) 33 = .ok (.i2l, 1) := by decide +kernel
theorem x_260_34 : decode (q_code 260) 34 = .ok (.lcmp, 1) := by decide +kernel
theorem x_260_35 : decode (q_code 260) 35 = .ok (.ifCond .ge 10, 3) := by decide +kernel
theorem x_260_38 : decode (q_code 260) 38 = .ok (.aload_n 0, 1) := by decide +kernel
theorem x_260_39 : decode (q_code 260) 39 = .ok (.iconst 2, 1) := by decide +kernel
theorem x_260_40 : decode (q_code 260) 40 = .ok (.iconst 0, 1) := by decide +kernel
theorem x_260_41 : decode (q_code 260) 41 = .ok (.invokevirtual 237, 3) := by decide +kernel
theorem x_260_44 : decode (q_code 260) 44 = .ok (.ireturn, 1) := by decide +kernel
theorem x_260_45 : decode (q_code 260) 45 = .ok (.lload_n 2, 1) := by decide +kernel
theorem x_260_46 : decode (q_code 260) 46 = .ok (.iload_n 1, 1) := by decide +kernel
theorem x_260_47 : decode (q_code 260) 47 = .ok (.i2l, 1) := by decide +kernel
theorem x_260_48 : decode (q_code 260) 48 = .ok (.lcmp, 1) := by decide +kernel
theorem x_260_49 : decode (q_code 260) 49 = .ok (.ifCond .le 10, 3) := by decide +kernel
theorem x_260_52 : decode (q_code 260) 52 = .ok (.aload_n 0, 1) := by decide +kernel
theorem x_260_53 : decode (q_code 260) 53 = .ok (.iconst 1, 1) := by decide +kernel
theorem x_260_54 : decode (q_code 260) 54 = .ok (.iconst 0, 1) := by decide +kernel
theorem x_260_55 : decode (q_code 260) 55 = .ok (.invokevirtual 237, 3) := by decide +kernel
theorem x_260_58 : decode (q_code 260) 58 = .ok (.ireturn, 1) := by decide +kernel
theorem x_260_59 : decode (q_code 260) 59 = .ok (.aload_n 0, 1) := by decide +kernel
theorem x_260_60 : decode (q_code 260) 60 = .ok (.iconst 0, 1) := by decide +kernel
theorem x_260_61 : decode (q_code 260) 61 = .ok (.iconst 0, 1) := by decide +kernel
theorem x_260_62 : decode (q_code 260) 62 = .ok (.iconst 1, 1) := by decide +kernel
theorem x_260_63 : decode (q_code 260) 63 = .ok (.invokevirtual 243, 3) := by decide +kernel
theorem x_260_66 : decode (q_code 260) 66 = .ok (.ireturn, 1) := by decide +kernel
theorem x_261_0 : decode (q_code 261) 0 = .ok (.iload_n 2, 1) := by decide +kernel
theorem x_261_1 : decode (q_code 261) 1 = .ok (.iload_n 1, 1) := by decide +kernel
theorem x_261_2 : decode (q_code 261) 2 = .ok (.isub, 1) := by decide +kernel
theorem x_261_3 : decode (q_code 261) 3 = .ok (.iconst 4, 1) := by decide +kernel
theorem x_261_4 : decode (q_code 261) 4 = .ok (.if_icmp .ge 10, 3) := by decide +kernel
theorem x_261_7 : decode (q_code 261) 7 = .ok (.aload_n 0, 1) := by decide +kernel
theorem x_261_8 : decode (q_code 261) 8 = .ok (.iconst 1, 1) := by decide +kernel
theorem x_261_9 : decode (q_code 261) 9 = .ok (.iload_n 1, 1) := by decide +kernel
theorem x_261_10 : decode (q_code 261) 10 = .ok (.invokevirtual 237, 3) := by decide +kernel
theorem x_261_13 : decode (q_code 261) 13 = .ok (.ireturn, 1) := by decide +kernel
theorem x_261_14 : decode (q_code 261) 14 = .ok (.aload_n 0, 1) := by decide +kernel
theorem x_261_15 : decode (q_code 261) 15 = .ok (.iload_n 1, 1) := by decide +kernel
theorem x_261_16 : decode (q_code 261) 16 = .ok (.invokevirtual 145, 3) := by decide +kernel
theorem x_261_19 : decode (q_code 261) 19 = .ok (.i2l, 1) := by decide +kernel
theorem x_261_20 : decode (q_code 261) 20 = .ok (.ldc2_w 148, 3) := by decide +kernel
theorem x_261_23 : decode (q_code 261) 23 = .ok (.land, 1) := by decide +kernel
theorem x_261_24 : decode (q_code 261) 24 = .ok (.lstore 5, 2) := by decide +kernel
theorem x_261_26 : decode (q_code 261) 26 = .ok (.lload 5, 2) := by decide +kernel
theorem x_261_28 : decode (q_code 261) 28 = .ok (.ldc2_w 241, 3) := by decide +kernel
theorem x_261_31 : decode (q_code 261) 31 = .ok (.lcmp, 1) := by decide +kernel
theorem x_261_32 : decode (q_code 261) 32 = .ok (.ifCond .ge 10, 3) := by decide +kernel
theorem x_261_35 : decode (q_code 261) 35 = .ok (.aload_n 0, 1) := by decide +kernel
theorem x_261_36 : decode (q_code 261) 36 = .ok (.iconst 2, 1) := by decide +kernel
theorem x_261_37 : decode (q_code 261) 37 = .ok (.iload_n 1, 1) := by decide +kernel
theorem x_261_38 : decode (q_code 261) 38 = .ok (.invokevirtual 237, 3) := by decide +kernel
theorem x_261_41 : decode (q_code 261) 41 = .ok (.ireturn, 1) := by decide +kernel
theorem x_261_42 : decode (q_code 261) 42 = .ok (.lload 5, 2) := by decide +kernel
theorem x_261_44 : decode (q_code 261) 44 = .ok (.iload_n 2, 1) := by decide +kernel
theorem x_261_45 : decode (q_code 261) 45 = .ok (.iload_n 1, 1) := by decide +kernel
theorem x_261_46 : decode (q_code 261) 46 = .ok (.isub, 1) := by decide +kernel
theorem x_261_47 : decode (q_code 261) 47 = .ok (.i2l, 1) := by decide +kernel
theorem x_261_48 : decode (q_code 261) 48 = .ok (.lcmp, 1) := by decide +kernel
theorem x_261_49 : decode (q_code 261) 49 = .ok (.ifCond .le 10, 3) := by decide +kernel
theorem x_261_52 : decode (q_code 261) 52 = .ok (.aload_n 0, 1) := by decide +kernel
theorem x_261_53 : decode (q_code 261) 53 = .ok (.iconst 1, 1) := by decide +kernel
theorem x_261_54 : decode (q_code 261) 54 = .ok (.iload_n 1, 1) := by decide +kernel
theorem x_261_55 : decode (q_code 261) 55 = .ok (.invokevirtual 237, 3) := by decide +kernel
theorem x_261_58 : decode (q_code 261) 58 = .ok (.ireturn, 1) := by decide +kernel
theorem x_261_59 : decode (q_code 261) 59 = .ok (.iload 4, 2) := by decide +kernel
theorem x_261_61 : decode (q_code 261) 61 = .ok (.bipush 16, 2) := by decide +kernel
theorem x_261_63 : decode (q_code 261) 63 = .ok (.if_icmp .le 11, 3) := by decide +kernel
theorem x_261_66 : decode (q_code 261) 66 = .ok (.aload_n 0, 1) := by decide +kernel
theorem x_261_67 : decode (q_code 261) 67 = .ok (.bipush 8, 2) := by decide +kernel
theorem x_261_69 : decode (q_code 261) 69 = .ok (.iload_n 1, 1) := by decide +kernel
theorem x_261_70 : decode (q_code 261) 70 = .ok (.invokevirtual 237, 3) := by decide +kernel
theorem x_261_73 : decode (q_code 261) 73 = .ok (.ireturn, 1) := by decide +kernel
theorem x_261_74 : decode (q_code 261) 74 = .ok (.aload_n 0, 1) := by decide +kernel
theorem x_261_75 : decode (q_code 261) 75 = .ok (.iload_n 1, 1) := by decide +kernel
theorem x_261_76 : decode (q_code 261) 76 = .ok (.iload_n 3, 1) := by decide +kernel
theorem x_261_77 : decode (q_code 261) 77 = .ok (.iload 4, 2) := by decide +kernel
theorem x_261_79 : decode (q_code 261) 79 = .ok (.invokevirtual 243, 3) := by decide +kernel
theorem x_261_82 : decode (q_code 261) 82 = .ok (.ireturn, 1) := by decide +kernel
theorem x_262_0 : decode (q_code 262) 0 = .ok (.aload_n 0, 1) := by decide +kernel
theorem x_262_1 : decode (q_code 262) 1 = .ok (.iload_n 1, 1) := by decide +kernel
theorem x_262_2 : decode (q_code 262) 2 = .ok (.invokevirtual 177, 3) := by decide +kernel
theorem x_262_5 : decode (q_code 262) 5 = .ok (.istore 4, 2) := by decide +kernel
theorem x_262_7 : decode (q_code 262) 7 = .ok (.iload_n 1, 1) := by decide +kernel
theorem x_262_8 : decode (q_code 262) 8 = .ok (.invokestatic 174, 3) := by decide +kernel
theorem x_262_11 : decode (q_code 262) 11 = .ok (.istore 5, 2) := by decide +kernel
theorem x_262_13 : decode (q_code 262) 13 = .ok (.iconst 0, 1) := by decide +kernel
theorem x_262_14 : decode (q_code 262) 14 = .ok (.istore 6, 2) := by decide +kernel
theorem x_262_16 : decode (q_code 262) 16 = .ok (.iload 5, 2) := by decide +kernel
theorem x_262_18 : decode (q_code 262) 18 = .ok (.iload 4, 2) := by decide +kernel
theorem x_262_20 : decode (q_code 262) 20 = .ok (.if_icmp .ge 197, 3) := by decide +kernel
theorem x_262_23 : decode (q_code 262) 23 = .ok (.aload_n 0, 1) := by decide +kernel
theorem x_262_24 : decode (q_code 262) 24 = .ok (.getfield 10, 3) := by decide +kernel
theorem x_262_27 : decode (q_code 262) 27 = .ok (.iload 5, 2) := by decide +kernel
theorem x_262_29 : decode (q_code 262) 29 = .ok (.baload, 1) := by decide +kernel
theorem x_262_30 : decode (q_code 262) 30 = .ok (.ifCond .ne 11, 3) := by decide +kernel
theorem x_262_33 : decode (q_code 262) 33 = .ok (.aload_n 0, 1) := by decide +kernel
theorem x_262_34 : decode (q_code 262) 34 = .ok (.iconst 2, 1) := by decide +kernel
theorem x_262_35 : decode (q_code 262) 35 = .ok (.iload 5, 2) := by decide +kernel
theorem x_262_37 : decode (q_code 262) 37 = .ok (.invokevirtual 237, 3) := by decide +kernel
theorem x_262_40 : decode (q_code 262) 40 = .ok (.ireturn, 1) := by decide +kernel
theorem x_262_41 : decode (q_code 262) 41 = .ok (.aload_n 0, 1) := by decide +kernel
theorem x_262_42 : decode (q_code 262) 42 = .ok (.getfield 10, 3) := by decide +kernel
theorem x_262_45 : decode (q_code 262) 45 = .ok (.iload 5, 2) := by decide +kernel
theorem x_262_47 : decode (q_code 262) 47 = .ok (.baload, 1) := by decide +kernel
theorem x_262_48 : decode (q_code 262) 48 = .ok (.invokestatic 247, 3) := by decide +kernel
theorem x_262_51 : decode (q_code 262) 51 = .ok (.ifCond .ne 11, 3) := by decide +kernel
theorem x_262_54 : decode (q_code 262) 54 = .ok (.aload_n 0, 1) := by decide +kernel
theorem x_262_55 : decode (q_code 262) 55 = .ok (.iconst 3, 1) := by decide +kernel
theorem x_262_56 : decode (q_code 262) 56 = .ok (.iload 5, 2) := by decide +kernel
theorem x_262_58 : decode (q_code 262) 58 = .ok (.invokevirtual 237, 3) := by decide +kernel
theorem x_262_61 : decode (q_code 262) 61 = .ok (.ireturn, 1) := by decide +kernel
theorem x_262_62 : decode (q_code 262) 62 = .ok (.iload 5, 2) := by decide +kernel
theorem x_262_64 : decode (q_code 262) 64 = .ok (.iconst 1, 1) := by decide +kernel
theorem x_262_65 : decode (q_code 262) 65 = .ok (.iadd, 1) := by decide +kernel
theorem x_262_66 : decode (q_code 262) 66 = .ok (.istore 7, 2) := by decide +kernel
theorem x_262_68 : decode (q_code 262) 68 = .ok (.iload 7, 2) := by decide +kernel
theorem x_262_70 : decode (q_code 262) 70 = .ok (.istore 8, 2) := by decide +kernel
theorem x_262_72 : decode (q_code 262) 72 = .ok (.iload 8, 2) := by decide +kernel
theorem x_262_74 : decode (q_code 262) 74 = .ok (.iload 4, 2) := by decide +kernel
theorem x_262_76 : decode (q_code 262) 76 = .ok (.if_icmp .ge 19, 3) := by decide +kernel
theorem x_262_79 : decode (q_code 262) 79 = .ok (.aload_n 0, 1) := by decide +kernel
theorem x_262_80 : decode (q_code 262) 80 = .ok (.getfield 10, 3) := by decide +kernel
theorem x_262_83 : decode (q_code 262) 83 = .ok (.iload 8, 2) := by decide +kernel
theorem x_262_85 : decode (q_code 262) 85 = .ok (.baload, 1) := by decide +kernel
theorem x_262_86 : decode (q_code 262) 86 = .ok (.ifCond .eq 9, 3) := by decide +kernel
theorem x_262_89 : decode (q_code 262) 89 = .ok (.iinc 8 1, 3) := by decide +kernel
theorem x_262_92 : decode (q_code 262) 92 = .ok (.goto (-20), 3) := by decide +kernel
theorem x_262_95 : decode (q_code 262) 95 = .ok (.iload 8, 2) := by decide +kernel
theorem x_262_97 : decode (q_code 262) 97 = .ok (.iload 4, 2) := by decide +kernel
theorem x_262_99 : decode (q_code 262) 99 = .ok (.if_icmp .lt 11, 3) := by decide +kernel
theorem x_262_102 : decode (q_code 262) 102 = .ok (.aload_n 0, 1) := by decide +kernel
theorem x_262_103 : decode (q_code 262) 103 = .ok (.iconst 1, 1) := by decide +kernel
theorem x_262_104 : decode (q_code 262) 104 = .ok (.iload 7, 2) := by decide +kernel
theorem x_262_106 : decode (q_code 262) 106 = .ok (.invokevirtual 237, 3) := by decide +kernel
theorem x_262_109 : decode (q_code 262) 109 = .ok (.ireturn, 1) := by decide +kernel
theorem x_262_110 : decode (q_code 262) 110 = .ok (.aload_n 0, 1) := by decide +kernel
theorem x_262_111 : decode (q_code 262) 111 = .ok (.iload 7, 2) := by decide +kernel
theorem x_262_113 : decode (q_code 262) 113 = .ok (.iload 8, 2) := by decide +kernel
theorem x_262_115 : decode (q_code 262) 115 = .ok (.invokevirtual 251, 3) := by decide +kernel
theorem x_262_118 : decode (q_code 262) 118 = .ok (.ifCond .ne 5, 3) := by decide +kernel
theorem x_262_121 : decode (q_code 262) 121 = .ok (.iconst 0, 1) := by decide +kernel
theorem x_262_122 : decode (q_code 262) 122 = .ok (.ireturn, 1) := by decide +kernel
theorem x_262_123 : decode (q_code 262) 123 = .ok (.iload_n 2, 1) := by decide +kernel
theorem x_262_124 : decode (q_code 262) 124 = .ok (.ifCond .eq 19, 3) := by decide +kernel
theorem x_262_127 : decode (q_code 262) 127 = .ok (.aload_n 0, 1) := by decide +kernel
theorem x_262_128 : decode (q_code 262) 128 = .ok (.iload 7, 2) := by decide +kernel
theorem x_262_130 : decode (q_code 262) 130 = .ok (.iload 8, 2) := by decide +kernel
theorem x_262_132 : decode (q_code 262) 132 = .ok (.iload 6, 2) := by decide +kernel
theorem x_262_134 : decode (q_code 262) 134 = .ok (.invokevirtual 254, 3) := by decide +kernel
theorem x_262_137 : decode (q_code 262) 137 = .ok (.ifCond .ne 29, 3) := by decide +kernel
theorem x_262_140 : decode (q_code 262) 140 = .ok (.goto 17, 3) := by decide +kernel
theorem x_262_143 : decode (q_code 262) 143 = .ok (.aload_n 0, 1) := by decide +kernel
theorem x_262_144 : decode (q_code 262) 144 = .ok (.iload_n 1, 1) := by decide +kernel
theorem x_262_145 : decode (q_code 262) 145 = .ok (.iload 5, 2) := by decide +kernel
theorem x_262_147 : decode (q_code 262) 147 = .ok (.iload 7, 2) := by decide +kernel
theorem x_262_149 : decode (q_code 262) 149 = .ok (.iload 8, 2) := by decide +kernel
theorem x_262_151 : decode (q_code 262) 151 = .ok (.invokevirtual 258, 3) := by decide +kernel
theorem x_262_154 : decode (q_code 262) 154 = .ok (.ifCond .eq 12, 3) := by decide +kernel
theorem x_262_157 : decode (q_code 262) 157 = .ok (.aload_n 0, 1) := by decide +kernel
theorem x_262_158 : decode (q_code 262) 158 = .ok (.bipush 7, 2) := by decide +kernel
theorem x_262_160 : decode (q_code 262) 160 = .ok (.iload 7, 2) := by decide +kernel
theorem x_262_162 : decode (q_code 262) 162 = .ok (.invokevirtual 237, 3) := by decide +kernel
theorem x_262_165 : decode (q_code 262) 165 = .ok (.ireturn, 1) := by decide +kernel
theorem x_262_166 : decode (q_code 262) 166 = .ok (.aload_n 0, 1) := by decide +kernel
theorem x_262_167 : decode (q_code 262) 167 = .ok (.aload_n 0, 1) := by decide +kernel
theorem x_262_168 : decode (q_code 262) 168 = .ok (.getfield 10, 3) := by decide +kernel
theorem x_262_171 : decode (q_code 262) 171 = .ok (.iload 5, 2) := by decide +kernel
theorem x_262_173 : decode (q_code 262) 173 = .ok (.baload, 1) := by decide +kernel
theorem x_262_174 : decode (q_code 262) 174 = .ok (.iload 8, 2) := by decide +kernel
theorem x_262_176 : decode (q_code 262) 176 = .ok (.iconst 1, 1) := by decide +kernel
theorem x_262_177 : decode (q_code 262) 177 = .ok (.iadd, 1) := by decide +kernel
theorem x_262_178 : decode (q_code 262) 178 = .ok (.iload 4, 2) := by decide +kernel
theorem x_262_180 : decode (q_code 262) 180 = .ok (.iload_n 3, 1) := by decide +kernel
theorem x_262_181 : decode (q_code 262) 181 = .ok (.invokevirtual 261, 3) := by decide +kernel
theorem x_262_184 : decode (q_code 262) 184 = .ok (.ifCond .ne 5, 3) := by decide +kernel
theorem x_262_187 : decode (q_code 262) 187 = .ok (.iconst 0, 1) := by decide +kernel
theorem x_262_188 : decode (q_code 262) 188 = .ok (.ireturn, 1) := by decide +kernel
theorem x_262_189 : decode (q_code 262) 189 = .ok (.iload 8, 2) := by decide +kernel
theorem x_262_191 : decode (q_code 262) 191 = .ok (.iconst 1, 1) := by decide +kernel
theorem x_262_192 : decode (q_code 262) 192 = .ok (.iadd, 1) := by decide +kernel
theorem x_262_193 : decode (q_code 262) 193 = .ok (.aload_n 0, 1) := by decide +kernel
theorem x_262_194 : decode (q_code 262) 194 = .ok (.aload_n 0, 1) := by decide +kernel
theorem x_262_195 : decode (q_code 262) 195 = .ok (.getfield 10, 3) := by decide +kernel
theorem x_262_198 : decode (q_code 262) 198 = .ok (.iload 5, 2) := by decide +kernel
theorem x_262_200 : decode (q_code 262) 200 = .ok (.baload, 1) := by decide +kernel
theorem x_262_201 : decode (q_code 262) 201 = .ok (.iload 8, 2) := by decide +kernel
theorem x_262_203 : decode (q_code 262) 203 = .ok (.iconst 1, 1) := by decide +kernel
theorem x_262_204 : decode (q_code 262) 204 = .ok (.iadd, 1) := by decide +kernel
theorem x_262_205 : decode (q_code 262) 205 = .ok (.invokevirtual 166, 3) := by decide +kernel
theorem x_262_208 : decode (q_code 262) 208 = .ok (.iadd, 1) := by decide +kernel
theorem x_262_209 : decode (q_code 262) 209 = .ok (.istore 5, 2) := by decide +kernel
theorem x_262_211 : decode (q_code 262) 211 = .ok (.iinc 6 1, 3) := by decide +kernel
theorem x_262_214 : decode (q_code 262) 214 = .ok (.goto (-198), 3) := by decide +kernel
theorem x_262_217 : decode (q_code 262) 217 = .ok (.aload_n 0, 1) := by decide +kernel
theorem x_262_218 : decode (q_code 262) 218 = .ok (.getfield 10, 3) := by decide +kernel
theorem x_262_221 : decode (q_code 262) 221 = .ok (.iload 4, 2) := by decide +kernel
theorem x_262_223 : decode (q_code 262) 223 = .ok (.baload, 1) := by decide +kernel
theorem x_262_224 : decode (q_code 262) 224 = .ok (.ifCond .eq 13, 3) := by decide +kernel
theorem x_262_227 : decode (q_code 262) 227 = .ok (.aload_n 0, 1) := by decide +kernel
theorem x_262_228 : decode (q_code 262) 228 = .ok (.iconst 2, 1) := by decide +kernel
theorem x_262_229 : decode (q_code 262) 229 = .ok (.iload 4, 2) := by decide +kernel
theorem x_262_231 : decode (q_code 262) 231 = .ok (.invokevirtual 237, 3) := by decide +kernel
theorem x_262_234 : decode (q_code 262) 234 = .ok (.ifCond .eq 7, 3) := by decide +kernel
theorem x_262_237 : decode (q_code 262) 237 = .ok (.iconst 1, 1) := by decide +kernel
theorem x_262_238 : decode (q_code 262) 238 = .ok (.goto 4, 3) := by decide +kernel
theorem x_262_241 : decode (q_code 262) 241 = .ok (.iconst 0, 1) := by decide +kernel
theorem x_262_242 : decode (q_code 262) 242 = .ok (.ireturn, 1) := by decide +kernel
theorem x_263_0 : decode (q_code 263) 0 = .ok (.iload_n 0, 1) := by decide +kernel
theorem x_263_1 : decode (q_code 263) 1 = .ok (.bipush 16, 2) := by decide +kernel
theorem x_263_3 : decode (q_code 263) 3 = .ok (.if_icmp .eq 36, 3) := by decide +kernel
theorem x_263_6 : decode (q_code 263) 6 = .ok (.iload_n 0, 1) := by decide +kernel
theorem x_263_7 : decode (q_code 263) 7 = .ok (.bipush 18, 2) := by decide +kernel
theorem x_263_9 : decode (q_code 263) 9 = .ok (.if_icmp .eq 30, 3) := by decide +kernel
theorem x_263_12 : decode (q_code 263) 12 = .ok (.iload_n 0, 1) := by decide +kernel
theorem x_263_13 : decode (q_code 263) 13 = .ok (.bipush 8, 2) := by decide +kernel
theorem x_263_15 : decode (q_code 263) 15 = .ok (.if_icmp .eq 24, 3) := by decide +kernel
theorem x_263_18 : decode (q_code 263) 18 = .ok (.iload_n 0, 1) := by decide +kernel
theorem x_263_19 : decode (q_code 263) 19 = .ok (.bipush 10, 2) := by decide +kernel
theorem x_263_21 : decode (q_code 263) 21 = .ok (.if_icmp .eq 18, 3) := by decide +kernel
theorem x_263_24 : decode (q_code 263) 24 = .ok (.iload_n 0, 1) := by decide +kernel
theorem x_263_25 : decode (q_code 263) 25 = .ok (.iconst 2, 1) := by decide +kernel
theorem x_263_26 : decode (q_code 263) 26 = .ok (.if_icmp .eq 13, 3) := by decide +kernel
theorem x_263_29 : decode (q_code 263) 29 = .ok (.iload_n 0, 1) := by decide +kernel
theorem x_263_30 : decode (q_code 263) 30 = .ok (.iconst 3, 1) := by decide +kernel
theorem x_263_31 : decode (q_code 263) 31 = .ok (.if_icmp .eq 8, 3) := by decide +kernel
theorem x_263_34 : decode (q_code 263) 34 = .ok (.iload_n 0, 1) := by decide +kernel
theorem x_263_35 : decode (q_code 263) 35 = .ok (.iconst 4, 1) := by decide +kernel
theorem x_263_36 : decode (q_code 263) 36 = .ok (.if_icmp .ne 7, 3) := by decide +kernel
theorem x_263_39 : decode (q_code 263) 39 = .ok (.iconst 1, 1) := by decide +kernel
theorem x_263_40 : decode (q_code 263) 40 = .ok (.goto 4, 3) := by decide +kernel
theorem x_263_43 : decode (q_code 263) 43 = .ok (.iconst 0, 1) := by decide +kernel
theorem x_263_44 : decode (q_code 263) 44 = .ok (.ireturn, 1) := by decide +kernel
theorem x_264_0 : decode (q_code 264) 0 = .ok (.iconst 1, 1) := by decide +kernel
theorem x_264_1 : decode (q_code 264) 1 = .ok (.istore 4, 2) := by decide +kernel
theorem x_264_3 : decode (q_code 264) 3 = .ok (.iconst 1, 1) := by decide +kernel
theorem x_264_4 : decode (q_code 264) 4 = .ok (.istore 5, 2) := by decide +kernel
theorem x_264_6 : decode (q_code 264) 6 = .ok (.iload_n 3, 1) := by decide +kernel
theorem x_264_7 : decode (q_code 264) 7 = .ok (.iload 4, 2) := by decide +kernel
theorem x_264_9 : decode (q_code 264) 9 = .ok (.idiv, 1) := by decide +kernel
theorem x_264_10 : decode (q_code 264) 10 = .ok (.bipush 9, 2) := by decide +kernel
theorem x_264_12 : decode (q_code 264) 12 = .ok (.if_icmp .le 16, 3) := by decide +kernel
theorem x_264_15 : decode (q_code 264) 15 = .ok (.iload 4, 2) := by decide +kernel
theorem x_264_17 : decode (q_code 264) 17 = .ok (.bipush 10, 2) := by decide +kernel
theorem x_264_19 : decode (q_code 264) 19 = .ok (.imul, 1) := by decide +kernel
theorem x_264_20 : decode (q_code 264) 20 = .ok (.istore 4, 2) := by decide +kernel
theorem x_264_22 : decode (q_code 264) 22 = .ok (.iinc 5 1, 3) := by decide +kernel
theorem x_264_25 : decode (q_code 264) 25 = .ok (.goto (-19), 3) := by decide +kernel
theorem x_264_28 : decode (q_code 264) 28 = .ok (.iload_n 2, 1) := by decide +kernel
theorem x_264_29 : decode (q_code 264) 29 = .ok (.iload_n 1, 1) := by decide +kernel
theorem x_264_30 : decode (q_code 264) 30 = .ok (.isub, 1) := by decide +kernel
theorem x_264_31 : decode (q_code 264) 31 = .ok (.iload 5, 2) := by decide +kernel
theorem x_264_33 : decode (q_code 264) 33 = .ok (.if_icmp .eq 5, 3) := by decide +kernel
theorem x_264_36 : decode (q_code 264) 36 = .ok (.iconst 0, 1) := by decide +kernel
theorem x_264_37 : decode (q_code 264) 37 = .ok (.ireturn, 1) := by decide +kernel
theorem x_264_38 : decode (q_code 264) 38 = .ok (.iload_n 1, 1) := by decide +kernel
theorem x_264_39 : decode (q_code 264) 39 = .ok (.istore 6, 2) := by decide +kernel
theorem x_264_41 : decode (q_code 264) 41 = .ok (.iload 6, 2) := by decide +kernel
theorem x_264_43 : decode (q_code 264) 43 = .ok (.iload_n 2, 1) := by decide +kernel
theorem x_264_44 : decode (q_code 264) 44 = .ok (.if_icmp .ge 37, 3) := by decide +kernel
theorem x_264_47 : decode (q_code 264) 47 = .ok (.aload_n 0, 1) := by decide +kernel
theorem x_264_48 : decode (q_code 264) 48 = .ok (.iload 6, 2) := by decide +kernel
theorem x_264_50 : decode (q_code 264) 50 = .ok (.invokevirtual 141, 3) := by decide +kernel
theorem x_264_53 : decode (q_code 264) 53 = .ok (.bipush 48, 2) := by decide +kernel
theorem x_264_55 : decode (q_code 264) 55 = .ok (.iload_n 3, 1) := by decide +kernel
theorem x_264_56 : decode (q_code 264) 56 = .ok (.iload 4, 2) := by decide +kernel
theorem x_264_58 : decode (q_code 264) 58 = .ok (.idiv, 1) := by decide +kernel
theorem x_264_59 : decode (q_code 264) 59 = .ok (.bipush 10, 2) := by decide +kernel
theorem x_264_61 : decode (q_code 264) 61 = .ok (.irem, 1) := by decide +kernel
theorem x_264_62 : decode (q_code 264) 62 = .ok (.iadd, 1) := by decide +kernel
theorem x_264_63 : decode (q_code 264) 63 = .ok (.if_icmp .eq 5, 3) := by decide +kernel
theorem x_264_66 : decode (q_code 264) 66 = .ok (.iconst 0, 1) := by decide +kernel
theorem x_264_67 : decode (q_code 264) 67 = .ok (.ireturn, 1) := by decide +kernel
theorem x_264_68 : decode (q_code 264) 68 = .ok (.iload 4, 2) := by decide +kernel
theorem x_264_70 : decode (q_code 264) 70 = .ok (.bipush 10, 2) := by decide +kernel
theorem x_264_72 : decode (q_code 264) 72 = .ok (.idiv, 1) := by decide +kernel
theorem x_264_73 : decode (q_code 264) 73 = .ok (.istore 4, 2) := by decide +kernel
theorem x_264_75 : decode (q_code 264) 75 = .ok (.iinc 6 1, 3) := by decide +kernel
theorem x_264_78 : decode (q_code 264) 78 = .ok (.goto (-37), 3) := by decide +kernel
theorem x_264_81 : decode (q_code 264) 81 = .ok (.iconst 1, 1) := by decide +kernel
theorem x_264_82 : decode (q_code 264) 82 = .ok (.ireturn, 1) := by decide +kernel
theorem x_265_0 : decode (q_code 265) 0 = .ok (.iload_n 1, 1) := by decide +kernel
theorem x_265_1 : decode (q_code 265) 1 = .ok (.invokestatic 174, 3) := by decide +kernel
theorem x_265_4 : decode (q_code 265) 4 = .ok (.istore 5, 2) := by decide +kernel
theorem x_265_6 : decode (q_code 265) 6 = .ok (.iload 5, 2) := by decide +kernel
theorem x_265_8 : decode (q_code 265) 8 = .ok (.iload_n 2, 1) := by decide +kernel
theorem x_265_9 : decode (q_code 265) 9 = .ok (.if_icmp .ge 36, 3) := by decide +kernel
theorem x_265_12 : decode (q_code 265) 12 = .ok (.aload_n 0, 1) := by decide +kernel
theorem x_265_13 : decode (q_code 265) 13 = .ok (.iload 5, 2) := by decide +kernel
theorem x_265_15 : decode (q_code 265) 15 = .ok (.iconst 1, 1) := by decide +kernel
theorem x_265_16 : decode (q_code 265) 16 = .ok (.iadd, 1) := by decide +kernel
theorem x_265_17 : decode (q_code 265) 17 = .ok (.aload_n 0, 1) := by decide +kernel
theorem x_265_18 : decode (q_code 265) 18 = .ok (.iload 5, 2) := by decide +kernel
theorem x_265_20 : decode (q_code 265) 20 = .ok (.invokevirtual 160, 3) := by decide +kernel
theorem x_265_23 : decode (q_code 265) 23 = .ok (.iload_n 3, 1) := by decide +kernel
theorem x_265_24 : decode (q_code 265) 24 = .ok (.iload 4, 2) := by decide +kernel
theorem x_265_26 : decode (q_code 265) 26 = .ok (.invokevirtual 183, 3) := by decide +kernel
theorem x_265_29 : decode (q_code 265) 29 = .ok (.ifCond .eq 5, 3) := by decide +kernel
theorem x_265_32 : decode (q_code 265) 32 = .ok (.iconst 1, 1) := by decide +kernel
theorem x_265_33 : decode (q_code 265) 33 = .ok (.ireturn, 1) := by decide +kernel
theorem x_265_34 : decode (q_code 265) 34 = .ok (.aload_n 0, 1) := by decide +kernel
theorem x_265_35 : decode (q_code 265) 35 = .ok (.iload 5, 2) := by decide +kernel
theorem x_265_37 : decode (q_code 265) 37 = .ok (.invokevirtual 180, 3) := by decide +kernel
theorem x_265_40 : decode (q_code 265) 40 = .ok (.istore 5, 2) := by decide +kernel
theorem x_265_42 : decode (q_code 265) 42 = .ok (.goto (-36), 3) := by decide +kernel
theorem x_265_45 : decode (q_code 265) 45 = .ok (.iconst 0, 1) := by decide +kernel
theorem x_265_46 : decode (q_code 265) 46 = .ok (.ireturn, 1) := by decide +kernel
theorem x_266_0 : decode (q_code 266) 0 = .ok (.iload_n 3, 1) := by decide +kernel
theorem x_266_1 : decode (q_code 266) 1 = .ok (.iload_n 2, 1) := by decide +kernel
theorem x_266_2 : decode (q_code 266) 2 = .ok (.isub, 1) := by decide +kernel
theorem x_266_3 : decode (q_code 266) 3 = .ok (.istore 5, 2) := by decide +kernel
theorem x_266_5 : decode (q_code 266) 5 = .ok (.iload_n 1, 1) := by decide +kernel
theorem x_266_6 : decode (q_code 266) 6 = .ok (.iconst 3, 1) := by decide +kernel
theorem x_266_7 : decode (q_code 266) 7 = .ok (.if_icmp .eq 8, 3) := by decide +kernel
theorem x_266_10 : decode (q_code 266) 10 = .ok (.iload_n 1, 1) := by decide +kernel
theorem x_266_11 : decode (q_code 266) 11 = .ok (.iconst 4, 1) := by decide +kernel
theorem x_266_12 : decode (q_code 266) 12 = .ok (.if_icmp .ne 24, 3) := by decide +kernel
theorem x_266_15 : decode (q_code 266) 15 = .ok (.aload_n 0, 1) := by decide +kernel
theorem x_266_16 : decode (q_code 266) 16 = .ok (.iload_n 2, 1) := by decide +kernel
theorem x_266_17 : decode (q_code 266) 17 = .ok (.iload_n 3, 1) := by decide +kernel
theorem x_266_18 : decode (q_code 266) 18 = .ok (.iload_n 1, 1) := by decide +kernel
theorem x_266_19 : decode (q_code 266) 19 = .ok (.iconst 4, 1) := by decide +kernel
theorem x_266_20 : decode (q_code 266) 20 = .ok (.if_icmp .ne 7, 3) := by decide +kernel
theorem x_266_23 : decode (q_code 266) 23 = .ok (.iconst 1, 1) := by decide +kernel
theorem x_266_24 : decode (q_code 266) 24 = .ok (.goto 4, 3) := by decide +kernel
theorem x_266_27 : decode (q_code 266) 27 = .ok (.iconst 0, 1) := by decide +kernel
theorem x_266_28 : decode (q_code 266) 28 = .ok (.iload 4, 2) := by decide +kernel
theorem x_266_30 : decode (q_code 266) 30 = .ok (.iconst 1, 1) := by decide +kernel
theorem x_266_31 : decode (q_code 266) 31 = .ok (.iadd, 1) := by decide +kernel
theorem x_266_32 : decode (q_code 266) 32 = .ok (.invokevirtual 264, 3) := by decide +kernel
theorem x_266_35 : decode (q_code 266) 35 = .ok (.ireturn, 1) := by decide +kernel
theorem x_266_36 : decode (q_code 266) 36 = .ok (.iload_n 1, 1) := by decide +kernel
theorem x_266_37 : decode (q_code 266) 37 = .ok (.iconst 2, 1) := by decide +kernel
theorem x_266_38 : decode (q_code 266) 38 = .ok (.if_icmp .eq 51, 3) := by decide +kernel
theorem x_266_41 : decode (q_code 266) 41 = .ok (.iload 5, 2) := by decide +kernel
theorem x_266_43 : decode (q_code 266) 43 = .ok (.aload_n 0, 1) := by decide +kernel
theorem x_266_44 : decode (q_code 266) 44 = .ok (.iload_n 1, 1) := by decide +kernel
theorem x_266_45 : decode (q_code 266) 45 = .ok (.iload_n 2, 1) := by decide +kernel
theorem x_266_46 : decode (q_code 266) 46 = .ok (.invokevirtual 166, 3) := by decide +kernel
theorem x_266_49 : decode (q_code 266) 49 = .ok (.if_icmp .ge 10, 3) := by decide +kernel
theorem x_266_52 : decode (q_code 266) 52 = .ok (.aload_n 0, 1) := by decide +kernel
theorem x_266_53 : decode (q_code 266) 53 = .ok (.iconst 1, 1) := by decide +kernel
theorem x_266_54 : decode (q_code 266) 54 = .ok (.iload_n 2, 1) := by decide +kernel
theorem x_266_55 : decode (q_code 266) 55 = .ok (.invokevirtual 237, 3) := by decide +kernel
theorem x_266_58 : decode (q_code 266) 58 = .ok (.ireturn, 1) := by decide +kernel
theorem x_266_59 : decode (q_code 266) 59 = .ok (.iload_n 1, 1) := by decide +kernel
theorem x_266_60 : decode (q_code 266) 60 = .ok (.bipush 8, 2) := by decide +kernel
theorem x_266_62 : decode (q_code 266) 62 = .ok (.if_icmp .ne 21, 3) := by decide +kernel
theorem x_266_65 : decode (q_code 266) 65 = .ok (.aload_n 0, 1) := by decide +kernel
theorem x_266_66 : decode (q_code 266) 66 = .ok (.iload_n 2, 1) := by decide +kernel
theorem x_266_67 : decode (q_code 266) 67 = .ok (.invokevirtual 141, 3) := by decide +kernel
theorem x_266_70 : decode (q_code 266) 70 = .ok (.iconst 2, 1) := by decide +kernel
theorem x_266_71 : decode (q_code 266) 71 = .ok (.if_icmp .lt 12, 3) := by decide +kernel
theorem x_266_74 : decode (q_code 266) 74 = .ok (.aload_n 0, 1) := by decide +kernel
theorem x_266_75 : decode (q_code 266) 75 = .ok (.iconst 5, 1) := by decide +kernel
theorem x_266_76 : decode (q_code 266) 76 = .ok (.iload_n 2, 1) := by decide +kernel
theorem x_266_77 : decode (q_code 266) 77 = .ok (.invokevirtual 237, 3) := by decide +kernel
theorem x_266_80 : decode (q_code 266) 80 = .ok (.ifCond .eq 7, 3) := by decide +kernel
theorem x_266_83 : decode (q_code 266) 83 = .ok (.iconst 1, 1) := by decide +kernel
theorem x_266_84 : decode (q_code 266) 84 = .ok (.goto 4, 3) := by decide +kernel
theorem x_266_87 : decode (q_code 266) 87 = .ok (.iconst 0, 1) := by decide +kernel
theorem x_266_88 : decode (q_code 266) 88 = .ok (.ireturn, 1) := by decide +kernel
theorem x_266_89 : decode (q_code 266) 89 = .ok (.iload 5, 2) := by decide +kernel
theorem x_266_91 : decode (q_code 266) 91 = .ok (.iconst 4, 1) := by decide +kernel
theorem x_266_92 : decode (q_code 266) 92 = .ok (.if_icmp .ge 10, 3) := by decide +kernel
theorem x_266_95 : decode (q_code 266) 95 = .ok (.aload_n 0, 1) := by decide +kernel
theorem x_266_96 : decode (q_code 266) 96 = .ok (.iconst 1, 1) := by decide +kernel
theorem x_266_97 : decode (q_code 266) 97 = .ok (.iload_n 2, 1) := by decide +kernel
theorem x_266_98 : decode (q_code 266) 98 = .ok (.invokevirtual 237, 3) := by decide +kernel
theorem x_266_101 : decode (q_code 266) 101 = .ok (.ireturn, 1) := by decide +kernel
theorem x_266_102 : decode (q_code 266) 102 = .ok (.aload_n 0, 1) := by decide +kernel
theorem x_266_103 : decode (q_code 266) 103 = .ok (.iload_n 2, 1) := by decide +kernel
theorem x_266_104 : decode (q_code 266) 104 = .ok (.invokevirtual 145, 3) := by decide +kernel
theorem x_266_107 : decode (q_code 266) 107 = .ok (.i2l, 1) := by decide +kernel
theorem x_266_108 : decode (q_code 266) 108 = .ok (.ldc2_w 148, 3) := by decide +kernel
theorem x_266_111 : decode (q_code 266) 111 = .ok (.land, 1) := by decide +kernel
theorem x_266_112 : decode (q_code 266) 112 = .ok (.lstore 6, 2) := by decide +kernel
theorem x_266_114 : decode (q_code 266) 114 = .ok (.lload 6, 2) := by decide +kernel
theorem x_266_116 : decode (q_code 266) 116 = .ok (.lconst 1, 1) := by decide +kernel
theorem x_266_117 : decode (q_code 266) 117 = .ok (.lcmp, 1) := by decide +kernel
theorem x_266_118 : decode (q_code 266) 118 = .ok (.ifCond .ge 11, 3) := by decide +kernel
theorem x_266_121 : decode (q_code 266) 121 = .ok (.aload_n 0, 1) := by decide +kernel
theorem x_266_122 : decode (q_code 266) 122 = .ok (.bipush 6, 2) := by decide +kernel
theorem x_266_124 : decode (q_code 266) 124 = .ok (.iload_n 2, 1) := by decide +kernel
theorem x_266_125 : decode (q_code 266) 125 = .ok (.invokevirtual 237, 3) := by decide +kernel
theorem x_266_128 : decode (q_code 266) 128 = .ok (.ireturn, 1) := by decide +kernel
theorem x_266_129 : decode (q_code 266) 129 = .ok (.iload 5, 2) := by decide +kernel
theorem x_266_131 : decode (q_code 266) 131 = .ok (.i2l, 1) := by decide +kernel
theorem x_266_132 : decode (q_code 266) 132 = .ok (.ldc2_w 268, 3) := by decide +kernel
theorem x_266_135 : decode (q_code 266) 135 = .ok (.lload 6, 2) := by decide +kernel
theorem x_266_137 : decode (q_code 266) 137 = .ok (.ladd, 1) := by decide +kernel
theorem x_266_138 : decode (q_code 266) 138 = .ok (.lcmp, 1) := by decide +kernel
theorem x_266_139 : decode (q_code 266) 139 = .ok (.ifCond .ge 10, 3) := by decide +kernel
theorem x_266_142 : decode (q_code 266) 142 = .ok (.aload_n 0, 1) := by decide +kernel
theorem x_266_143 : decode (q_code 266) 143 = .ok (.iconst 1, 1) := by decide +kernel
theorem x_266_144 : decode (q_code 266) 144 = .ok (.iload_n 2, 1) := by decide +kernel
theorem x_266_145 : decode (q_code 266) 145 = .ok (.invokevirtual 237, 3) := by decide +kernel
theorem x_266_148 : decode (q_code 266) 148 = .ok (.ireturn, 1) := by decide +kernel
theorem x_266_149 : decode (q_code 266) 149 = .ok (.iload_n 2, 1) := by decide +kernel
theorem x_266_150 : decode (q_code 266) 150 = .ok (.iconst 4, 1) := by decide +kernel
theorem x_266_151 : decode (q_code 266) 151 = .ok (.iadd, 1) := by decide +kernel
theorem x_266_152 : decode (q_code 266) 152 = .ok (.lload 6, 2) := by decide +kernel
theorem x_266_154 : decode (q_code 266) 154 = .ok (.l2i, 1) := by decide +kernel
theorem x_266_155 : decode (q_code 266) 155 = .ok (.iadd, 1) := by decide +kernel
theorem x_266_156 : decode (q_code 266) 156 = .ok (.iconst 1, 1) := by decide +kernel
theorem x_266_157 : decode (q_code 266) 157 = .ok (.isub, 1) := by decide +kernel
theorem x_266_158 : decode (q_code 266) 158 = .ok (.istore 8, 2) := by decide +kernel
theorem x_266_160 : decode (q_code 266) 160 = .ok (.aload_n 0, 1) := by decide +kernel
theorem x_266_161 : decode (q_code 266) 161 = .ok (.getfield 10, 3) := by decide +kernel
theorem x_266_164 : decode (q_code 266) 164 = .ok (.iload 8, 2) := by decide +kernel
theorem x_266_166 : decode (q_code 266) 166 = .ok (.baload, 1) := by decide +kernel
theorem x_266_167 : decode (q_code 266) 167 = .ok (.ifCond .eq 12, 3) := by decide +kernel
theorem x_266_170 : decode (q_code 266) 170 = .ok (.aload_n 0, 1) := by decide +kernel
theorem x_266_171 : decode (q_code 266) 171 = .ok (.bipush 6, 2) := by decide +kernel
theorem x_266_173 : decode (q_code 266) 173 = .ok (.iload 8, 2) := by decide +kernel
theorem x_266_175 : decode (q_code 266) 175 = .ok (.invokevirtual 237, 3) := by decide +kernel
theorem x_266_178 : decode (q_code 266) 178 = .ok (.ireturn, 1) := by decide +kernel
theorem x_266_179 : decode (q_code 266) 179 = .ok (.aload_n 0, 1) := by decide +kernel
theorem x_266_180 : decode (q_code 266) 180 = .ok (.iload_n 2, 1) := by decide +kernel
theorem x_266_181 : decode (q_code 266) 181 = .ok (.iconst 4, 1) := by decide +kernel
theorem x_266_182 : decode (q_code 266) 182 = .ok (.iadd, 1) := by decide +kernel
theorem x_266_183 : decode (q_code 266) 183 = .ok (.iload 8, 2) := by decide +kernel
theorem x_266_185 : decode (q_code 266) 185 = .ok (.invokevirtual 251, 3) := by decide +kernel
theorem x_266_188 : decode (q_code 266) 188 = .ok (.ireturn, 1) := by decide +kernel
theorem x_267_0 : decode (q_code 267) 0 = .ok (.iload_n 1, 1) := by decide +kernel
theorem x_267_1 : decode (q_code 267) 1 = .ok (.iconst (-1), 1) := by decide +kernel
theorem x_267_2 : decode (q_code 267) 2 = .ok (.if_icmp .ne 5, 3) := by decide +kernel
theorem x_267_5 : decode (q_code 267) 5 = .ok (.iconst 0, 1) := by decide +kernel
theorem x_267_6 : decode (q_code 267) 6 = .ok (.ireturn, 1) := by decide +kernel
theorem x_267_7 : decode (q_code 267) 7 = .ok (.aload_n 0, 1) := by decide +kernel
theorem x_267_8 : decode (q_code 267) 8 = .ok (.getfield 10, 3) := by decide +kernel
theorem x_267_11 : decode (q_code 267) 11 = .ok (.iload_n 1, 1) := by decide +kernel
theorem x_267_12 : decode (q_code 267) 12 = .ok (.baload, 1) := by decide +kernel
theorem x_267_13 : decode (q_code 267) 13 = .ok (.istore_n 2, 1) := by decide +kernel
theorem x_267_14 : decode (q_code 267) 14 = .ok (.iload_n 2, 1) := by decide +kernel
theorem x_267_15 : decode (q_code 267) 15 = .ok (.bipush 10, 2) := by decide +kernel
theorem x_267_17 : decode (q_code 267) 17 = .ok (.if_icmp .ne 5, 3) := by decide +kernel
theorem x_267_20 : decode (q_code 267) 20 = .ok (.iconst 1, 1) := by decide +kernel
theorem x_267_21 : decode (q_code 267) 21 = .ok (.ireturn, 1) := by decide +kernel
theorem x_267_22 : decode (q_code 267) 22 = .ok (.iload_n 2, 1) := by decide +kernel
theorem x_267_23 : decode (q_code 267) 23 = .ok (.bipush 16, 2) := by decide +kernel
theorem x_267_25 : decode (q_code 267) 25 = .ok (.if_icmp .eq 9, 3) := by decide +kernel
theorem x_267_28 : decode (q_code 267) 28 = .ok (.iload_n 2, 1) := by decide +kernel
theorem x_267_29 : decode (q_code 267) 29 = .ok (.bipush 18, 2) := by decide +kernel
theorem x_267_31 : decode (q_code 267) 31 = .ok (.if_icmp .ne 5, 3) := by decide +kernel
theorem x_267_34 : decode (q_code 267) 34 = .ok (.iconst 2, 1) := by decide +kernel
theorem x_267_35 : decode (q_code 267) 35 = .ok (.ireturn, 1) := by decide +kernel
theorem x_267_36 : decode (q_code 267) 36 = .ok (.iload_n 2, 1) := by decide +kernel
theorem x_267_37 : decode (q_code 267) 37 = .ok (.iconst 2, 1) := by decide +kernel
theorem x_267_38 : decode (q_code 267) 38 = .ok (.if_icmp .ne 7, 3) := by decide +kernel
theorem x_267_41 : decode (q_code 267) 41 = .ok (.iconst 3, 1) := by decide +kernel
theorem x_267_42 : decode (q_code 267) 42 = .ok (.goto 23, 3) := by decide +kernel
theorem x_267_45 : decode (q_code 267) 45 = .ok (.iload_n 2, 1) := by decide +kernel
theorem x_267_46 : decode (q_code 267) 46 = .ok (.iconst 3, 1) := by decide +kernel
theorem x_267_47 : decode (q_code 267) 47 = .ok (.if_icmp .ne 7, 3) := by decide +kernel
theorem x_267_50 : decode (q_code 267) 50 = .ok (.iconst 4, 1) := by decide +kernel
theorem x_267_51 : decode (q_code 267) 51 = .ok (.goto 14, 3) := by decide +kernel
theorem x_267_54 : decode (q_code 267) 54 = .ok (.iload_n 2, 1) := by decide +kernel
theorem x_267_55 : decode (q_code 267) 55 = .ok (.iconst 4, 1) := by decide +kernel
theorem x_267_56 : decode (q_code 267) 56 = .ok (.if_icmp .ne 7, 3) := by decide +kernel
theorem x_267_59 : decode (q_code 267) 59 = .ok (.iconst 5, 1) := by decide +kernel
theorem x_267_60 : decode (q_code 267) 60 = .ok (.goto 5, 3) := by decide +kernel
theorem x_267_63 : decode (q_code 267) 63 = .ok (.bipush 6, 2) := by decide +kernel
theorem x_267_65 : decode (q_code 267) 65 = .ok (.ireturn, 1) := by decide +kernel
theorem x_268_0 : decode (q_code 268) 0 = .ok (.iload_n 2, 1) := by decide +kernel
theorem x_268_1 : decode (q_code 268) 1 = .ok (.iload_n 1, 1) := by decide +kernel
theorem x_268_2 : decode (q_code 268) 2 = .ok (.isub, 1) := by decide +kernel
theorem x_268_3 : decode (q_code 268) 3 = .ok (.iload 4, 2) := by decide +kernel
theorem x_268_5 : decode (q_code 268) 5 = .ok (.iload_n 3, 1) := by decide +kernel
theorem x_268_6 : decode (q_code 268) 6 = .ok (.isub, 1) := by decide +kernel
theorem x_268_7 : decode (q_code 268) 7 = .ok (.if_icmp .ge 9, 3) := by decide +kernel
theorem x_268_10 : decode (q_code 268) 10 = .ok (.iload_n 2, 1) := by decide +kernel
theorem x_268_11 : decode (q_code 268) 11 = .ok (.iload_n 1, 1) := by decide +kernel
theorem x_268_12 : decode (q_code 268) 12 = .ok (.isub, 1) := by decide +kernel
theorem x_268_13 : decode (q_code 268) 13 = .ok (.goto 7, 3) := by decide +kernel
theorem x_268_16 : decode (q_code 268) 16 = .ok (.iload 4, 2) := by decide +kernel
theorem x_268_18 : decode (q_code 268) 18 = .ok (.iload_n 3, 1) := by decide +kernel
theorem x_268_19 : decode (q_code 268) 19 = .ok (.isub, 1) := by decide +kernel
theorem x_268_20 : decode (q_code 268) 20 = .ok (.istore 5, 2) := by decide +kernel
theorem x_268_22 : decode (q_code 268) 22 = .ok (.iconst 0, 1) := by decide +kernel
theorem x_268_23 : decode (q_code 268) 23 = .ok (.istore 6, 2) := by decide +kernel
theorem x_268_25 : decode (q_code 268) 25 = .ok (.iload 6, 2) := by decide +kernel
theorem x_268_27 : decode (q_code 268) 27 = .ok (.iload 5, 2) := by decide +kernel
theorem x_268_29 : decode (q_code 268) 29 = .ok (.if_icmp .ge 48, 3) := by decide +kernel
theorem x_268_32 : decode (q_code 268) 32 = .ok (.aload_n 0, 1) := by decide +kernel
theorem x_268_33 : decode (q_code 268) 33 = .ok (.getfield 10, 3) := by decide +kernel
theorem x_268_36 : decode (q_code 268) 36 = .ok (.iload_n 1, 1) := by decide +kernel
theorem x_268_37 : decode (q_code 268) 37 = .ok (.iload 6, 2) := by decide +kernel
theorem x_268_39 : decode (q_code 268) 39 = .ok (.iadd, 1) := by decide +kernel
theorem x_268_40 : decode (q_code 268) 40 = .ok (.baload, 1) := by decide +kernel
theorem x_268_41 : decode (q_code 268) 41 = .ok (.aload_n 0, 1) := by decide +kernel
theorem x_268_42 : decode (q_code 268) 42 = .ok (.getfield 10, 3) := by decide +kernel
theorem x_268_45 : decode (q_code 268) 45 = .ok (.iload_n 3, 1) := by decide +kernel
theorem x_268_46 : decode (q_code 268) 46 = .ok (.iload 6, 2) := by decide +kernel
theorem x_268_48 : decode (q_code 268) 48 = .ok (.iadd, 1) := by decide +kernel
theorem x_268_49 : decode (q_code 268) 49 = .ok (.baload, 1) := by decide +kernel
theorem x_268_50 : decode (q_code 268) 50 = .ok (.if_icmp .eq 21, 3) := by decide +kernel
theorem x_268_53 : decode (q_code 268) 53 = .ok (.aload_n 0, 1) := by decide +kernel
theorem x_268_54 : decode (q_code 268) 54 = .ok (.iload_n 1, 1) := by decide +kernel
theorem x_268_55 : decode (q_code 268) 55 = .ok (.iload 6, 2) := by decide +kernel
theorem x_268_57 : decode (q_code 268) 57 = .ok (.iadd, 1) := by decide +kernel
theorem x_268_58 : decode (q_code 268) 58 = .ok (.invokevirtual 141, 3) := by decide +kernel
theorem x_268_61 : decode (q_code 268) 61 = .ok (.aload_n 0, 1) := by decide +kernel
theorem x_268_62 : decode (q_code 268) 62 = .ok (.iload_n 3, 1) := by decide +kernel
theorem x_268_63 : decode (q_code 268) 63 = .ok (.iload 6, 2) := by decide +kernel
theorem x_268_65 : decode (q_code 268) 65 = .ok (.iadd, 1) := by decide +kernel
theorem x_268_66 : decode (q_code 268) 66 = .ok (.invokevirtual 141, 3) := by decide +kernel
theorem x_268_69 : decode (q_code 268) 69 = .ok (.isub, 1) := by decide +kernel
theorem x_268_70 : decode (q_code 268) 70 = .ok (.ireturn, 1) := by decide +kernel
theorem x_268_71 : decode (q_code 268) 71 = .ok (.iinc 6 1, 3) := by decide +kernel
theorem x_268_74 : decode (q_code 268) 74 = .ok (.goto (-49), 3) := by decide +kernel
theorem x_268_77 : decode (q_code 268) 77 = .ok (.iload_n 2, 1) := by decide +kernel
theorem x_268_78 : decode (q_code 268) 78 = .ok (.iload_n 1, 1) := by decide +kernel
theorem x_268_79 : decode (q_code 268) 79 = .ok (.isub, 1) := by decide +kernel
theorem x_268_80 : decode (q_code 268) 80 = .ok (.iload 4, 2) := by decide +kernel
theorem x_268_82 : decode (q_code 268) 82 = .ok (.iload_n 3, 1) := by decide +kernel
theorem x_268_83 : decode (q_code 268) 83 = .ok (.isub, 1) := by decide +kernel
theorem x_268_84 : decode (q_code 268) 84 = .ok (.isub, 1) := by decide +kernel
theorem x_268_85 : decode (q_code 268) 85 = .ok (.ireturn, 1) := by decide +kernel
theorem x_269_0 : decode (q_code 269) 0 = .ok (.aload_n 0, 1) := by decide +kernel
theorem x_269_1 : decode (q_code 269) 1 = .ok (.iload_n 1, 1) := by decide +kernel
theorem x_269_2 : decode (q_code 269) 2 = .ok (.invokevirtual 270, 3) := by decide +kernel
theorem x_269_5 : decode (q_code 269) 5 = .ok (.istore_n 3, 1) := by decide +kernel
theorem x_269_6 : decode (q_code 269) 6 = .ok (.iload_n 3, 1) := by decide +kernel
theorem x_269_7 : decode (q_code 269) 7 = .ok (.aload_n 0, 1) := by decide +kernel
theorem x_269_8 : decode (q_code 269) 8 = .ok (.iload_n 2, 1) := by decide +kernel
theorem x_269_9 : decode (q_code 269) 9 = .ok (.invokevirtual 270, 3) := by decide +kernel
theorem x_269_12 : decode (q_code 269) 12 = .ok (.if_icmp .eq 11, 3) := by decide +kernel
theorem x_269_15 : decode (q_code 269) 15 = .ok (.iload_n 3, 1) := by decide +kernel
theorem x_269_16 : decode (q_code 269) 16 = .ok (.aload_n 0, 1) := by decide +kernel
theorem x_269_17 : decode (q_code 269) 17 = .ok (.iload_n 2, 1) := by decide +kernel
theorem x_269_18 : decode (q_code 269) 18 = .ok (.invokevirtual 270, 3) := by decide +kernel
theorem x_269_21 : decode (q_code 269) 21 = .ok (.isub, 1) := by decide +kernel
theorem x_269_22 : decode (q_code 269) 22 = .ok (.ireturn, 1) := by decide +kernel
theorem x_269_23 : decode (q_code 269) 23 = .ok (.iload_n 3, 1) := by decide +kernel
theorem x_269_24 : decode (q_code 269) 24 = .ok (.iconst 2, 1) := by decide +kernel
theorem x_269_25 : decode (q_code 269) 25 = .ok (.if_icmp .ge 5, 3) := by decide +kernel
theorem x_269_28 : decode (q_code 269) 28 = .ok (.iconst 0, 1) := by decide +kernel
theorem x_269_29 : decode (q_code 269) 29 = .ok (.ireturn, 1) := by decide +kernel
theorem x_269_30 : decode (q_code 269) 30 = .ok (.iload_n 3, 1) := by decide +kernel
theorem x_269_31 : decode (q_code 269) 31 = .ok (.iconst 2, 1) := by decide +kernel
theorem x_269_32 : decode (q_code 269) 32 = .ok (.if_icmp .ne 41, 3) := by decide +kernel
theorem x_269_35 : decode (q_code 269) 35 = .ok (.aload_n 0, 1) := by decide +kernel
theorem x_269_36 : decode (q_code 269) 36 = .ok (.iload_n 1, 1) := by decide +kernel
theorem x_269_37 : decode (q_code 269) 37 = .ok (.invokevirtual 273, 3) := by decide +kernel
theorem x_269_40 : decode (q_code 269) 40 = .ok (.aload_n 0, 1) := by decide +kernel
theorem x_269_41 : decode (q_code 269) 41 = .ok (.iload_n 2, 1) := by decide +kernel
theorem x_269_42 : decode (q_code 269) 42 = .ok (.invokevirtual 273, 3) := by decide +kernel
theorem x_269_45 : decode (q_code 269) 45 = .ok (.lcmp, 1) := by decide +kernel
theorem x_269_46 : decode (q_code 269) 46 = .ok (.ifCond .ge 7, 3) := by decide +kernel
theorem x_269_49 : decode (q_code 269) 49 = .ok (.iconst (-1), 1) := by decide +kernel
theorem x_269_50 : decode (q_code 269) 50 = .ok (.goto 22, 3) := by decide +kernel
theorem x_269_53 : decode (q_code 269) 53 = .ok (.aload_n 0, 1) := by decide +kernel
theorem x_269_54 : decode (q_code 269) 54 = .ok (.iload_n 1, 1) := by decide +kernel
theorem x_269_55 : decode (q_code 269) 55 = .ok (.invokevirtual 273, 3) := by decide +kernel
theorem x_269_58 : decode (q_code 269) 58 = .ok (.aload_n 0, 1) := by decide +kernel
theorem x_269_59 : decode (q_code 269) 59 = .ok (.iload_n 2, 1) := by decide +kernel
theorem x_269_60 : decode (q_code 269) 60 = .ok (.invokevirtual 273, 3) := by decide +kernel
theorem x_269_63 : decode (q_code 269) 63 = .ok (.lcmp, 1) := by decide +kernel
theorem x_269_64 : decode (q_code 269) 64 = .ok (.ifCond .le 7, 3) := by decide +kernel
theorem x_269_67 : decode (q_code 269) 67 = .ok (.iconst 1, 1) := by decide +kernel
theorem x_269_68 : decode (q_code 269) 68 = .ok (.goto 4, 3) := by decide +kernel
theorem x_269_71 : decode (q_code 269) 71 = .ok (.iconst 0, 1) := by decide +kernel
theorem x_269_72 : decode (q_code 269) 72 = .ok (.ireturn, 1) := by decide +kernel
theorem x_269_73 : decode (q_code 269) 73 = .ok (.aload_n 0, 1) := by decide +kernel
theorem x_269_74 : decode (q_code 269) 74 = .ok (.iload_n 1, 1) := by decide +kernel
theorem x_269_75 : decode (q_code 269) 75 = .ok (.invokevirtual 163, 3) := by decide +kernel
theorem x_269_78 : decode (q_code 269) 78 = .ok (.istore 4, 2) := by decide +kernel
theorem x_269_80 : decode (q_code 269) 80 = .ok (.aload_n 0, 1) := by decide +kernel
theorem x_269_81 : decode (q_code 269) 81 = .ok (.iload_n 2, 1) := by decide +kernel
theorem x_269_82 : decode (q_code 269) 82 = .ok (.invokevirtual 163, 3) := by decide +kernel
theorem x_269_85 : decode (q_code 269) 85 = .ok (.istore 5, 2) := by decide +kernel
theorem x_269_87 : decode (q_code 269) 87 = .ok (.iload_n 3, 1) := by decide +kernel
theorem x_269_88 : decode (q_code 269) 88 = .ok (.iconst 3, 1) := by decide +kernel
theorem x_269_89 : decode (q_code 269) 89 = .ok (.if_icmp .ne 38, 3) := by decide +kernel
theorem x_269_92 : decode (q_code 269) 92 = .ok (.aload_n 0, 1) := by decide +kernel
theorem x_269_93 : decode (q_code 269) 93 = .ok (.iload 4, 2) := by decide +kernel
theorem x_269_95 : decode (q_code 269) 95 = .ok (.iconst 4, 1) := by decide +kernel
theorem x_269_96 : decode (q_code 269) 96 = .ok (.iadd, 1) := by decide +kernel
theorem x_269_97 : decode (q_code 269) 97 = .ok (.iload 4, 2) := by decide +kernel
theorem x_269_99 : decode (q_code 269) 99 = .ok (.iconst 3, 1) := by decide +kernel
theorem x_269_100 : decode (q_code 269) 100 = .ok (.iadd, 1) := by decide +kernel
theorem x_269_101 : decode (q_code 269) 101 = .ok (.aload_n 0, 1) := by decide +kernel
theorem x_269_102 : decode (q_code 269) 102 = .ok (.iload 4, 2) := by decide +kernel
theorem x_269_104 : decode (q_code 269) 104 = .ok (.invokevirtual 145, 3) := by decide +kernel
theorem x_269_107 : decode (q_code 269) 107 = .ok (.iadd, 1) := by decide +kernel
theorem x_269_108 : decode (q_code 269) 108 = .ok (.iload 5, 2) := by decide +kernel
theorem x_269_110 : decode (q_code 269) 110 = .ok (.iconst 4, 1) := by decide +kernel
theorem x_269_111 : decode (q_code 269) 111 = .ok (.iadd, 1) := by decide +kernel
theorem x_269_112 : decode (q_code 269) 112 = .ok (.iload 5, 2) := by decide +kernel
theorem x_269_114 : decode (q_code 269) 114 = .ok (.iconst 3, 1) := by decide +kernel
theorem x_269_115 : decode (q_code 269) 115 = .ok (.iadd, 1) := by decide +kernel
theorem x_269_116 : decode (q_code 269) 116 = .ok (.aload_n 0, 1) := by decide +kernel
theorem x_269_117 : decode (q_code 269) 117 = .ok (.iload 5, 2) := by decide +kernel
theorem x_269_119 : decode (q_code 269) 119 = .ok (.invokevirtual 145, 3) := by decide +kernel
theorem x_269_122 : decode (q_code 269) 122 = .ok (.iadd, 1) := by decide +kernel
theorem x_269_123 : decode (q_code 269) 123 = .ok (.invokevirtual 276, 3) := by decide +kernel
theorem x_269_126 : decode (q_code 269) 126 = .ok (.ireturn, 1) := by decide +kernel
theorem x_269_127 : decode (q_code 269) 127 = .ok (.iload_n 3, 1) := by decide +kernel
theorem x_269_128 : decode (q_code 269) 128 = .ok (.bipush 6, 2) := by decide +kernel
theorem x_269_130 : decode (q_code 269) 130 = .ok (.if_icmp .ne 19, 3) := by decide +kernel
theorem x_269_133 : decode (q_code 269) 133 = .ok (.aload_n 0, 1) := by decide +kernel
theorem x_269_134 : decode (q_code 269) 134 = .ok (.iload 4, 2) := by decide +kernel
theorem x_269_136 : decode (q_code 269) 136 = .ok (.invokevirtual 141, 3) := by decide +kernel
theorem x_269_139 : decode (q_code 269) 139 = .ok (.aload_n 0, 1) := by decide +kernel
theorem x_269_140 : decode (q_code 269) 140 = .ok (.iload 5, 2) := by decide +kernel
theorem x_269_142 : decode (q_code 269) 142 = .ok (.invokevirtual 141, 3) := by decide +kernel
theorem x_269_145 : decode (q_code 269) 145 = .ok (.isub, 1) := by decide +kernel
theorem x_269_146 : decode (q_code 269) 146 = .ok (.goto 21, 3) := by decide +kernel
theorem x_269_149 : decode (q_code 269) 149 = .ok (.aload_n 0, 1) := by decide +kernel
theorem x_269_150 : decode (q_code 269) 150 = .ok (.iload 4, 2) := by decide +kernel
theorem x_269_152 : decode (q_code 269) 152 = .ok (.iload 5, 2) := by decide +kernel
theorem x_269_154 : decode (q_code 269) 154 = .ok (.iload_n 3, 1) := by decide +kernel
theorem x_269_155 : decode (q_code 269) 155 = .ok (.iconst 5, 1) := by decide +kernel
theorem x_269_156 : decode (q_code 269) 156 = .ok (.if_icmp .ne 7, 3) := by decide +kernel
theorem x_269_159 : decode (q_code 269) 159 = .ok (.iconst 1, 1) := by decide +kernel
theorem x_269_160 : decode (q_code 269) 160 = .ok (.goto 4, 3) := by decide +kernel
theorem x_269_163 : decode (q_code 269) 163 = .ok (.iconst 0, 1) := by decide +kernel
theorem x_269_164 : decode (q_code 269) 164 = .ok (.invokevirtual 280, 3) := by decide +kernel
theorem x_269_167 : decode (q_code 269) 167 = .ok (.ireturn, 1) := by decide +kernel
theorem x_270_0 : decode (q_code 270) 0 = .ok (.iload_n 1, 1) := by decide +kernel
theorem x_270_1 : decode (q_code 270) 1 = .ok (.invokestatic 174, 3) := by decide +kernel
theorem x_270_4 : decode (q_code 270) 4 = .ok (.istore 4, 2) := by decide +kernel
theorem x_270_6 : decode (q_code 270) 6 = .ok (.iload_n 2, 1) := by decide +kernel
theorem x_270_7 : decode (q_code 270) 7 = .ok (.invokestatic 174, 3) := by decide +kernel
theorem x_270_10 : decode (q_code 270) 10 = .ok (.istore 5, 2) := by decide +kernel
theorem x_270_12 : decode (q_code 270) 12 = .ok (.iload 4, 2) := by decide +kernel
theorem x_270_14 : decode (q_code 270) 14 = .ok (.aload_n 0, 1) := by decide +kernel
theorem x_270_15 : decode (q_code 270) 15 = .ok (.iload_n 1, 1) := by decide +kernel
theorem x_270_16 : decode (q_code 270) 16 = .ok (.invokevirtual 177, 3) := by decide +kernel
theorem x_270_19 : decode (q_code 270) 19 = .ok (.if_icmp .ge 117, 3) := by decide +kernel
theorem x_270_22 : decode (q_code 270) 22 = .ok (.iload 5, 2) := by decide +kernel
theorem x_270_24 : decode (q_code 270) 24 = .ok (.aload_n 0, 1) := by decide +kernel
theorem x_270_25 : decode (q_code 270) 25 = .ok (.iload_n 2, 1) := by decide +kernel
theorem x_270_26 : decode (q_code 270) 26 = .ok (.invokevirtual 177, 3) := by decide +kernel
theorem x_270_29 : decode (q_code 270) 29 = .ok (.if_icmp .ge 107, 3) := by decide +kernel
theorem x_270_32 : decode (q_code 270) 32 = .ok (.iload_n 3, 1) := by decide +kernel
theorem x_270_33 : decode (q_code 270) 33 = .ok (.ifCond .ne 66, 3) := by decide +kernel
theorem x_270_36 : decode (q_code 270) 36 = .ok (.aload_n 0, 1) := by decide +kernel
theorem x_270_37 : decode (q_code 270) 37 = .ok (.iload 4, 2) := by decide +kernel
theorem x_270_39 : decode (q_code 270) 39 = .ok (.invokevirtual 270, 3) := by decide +kernel
theorem x_270_42 : decode (q_code 270) 42 = .ok (.aload_n 0, 1) := by decide +kernel
theorem x_270_43 : decode (q_code 270) 43 = .ok (.iload 5, 2) := by decide +kernel
theorem x_270_45 : decode (q_code 270) 45 = .ok (.invokevirtual 270, 3) := by decide +kernel
theorem x_270_48 : decode (q_code 270) 48 = .ok (.if_icmp .eq 17, 3) := by decide +kernel
theorem x_270_51 : decode (q_code 270) 51 = .ok (.aload_n 0, 1) := by decide +kernel
theorem x_270_52 : decode (q_code 270) 52 = .ok (.iload 4, 2) := by decide +kernel
theorem x_270_54 : decode (q_code 270) 54 = .ok (.invokevirtual 270, 3) := by decide +kernel
theorem x_270_57 : decode (q_code 270) 57 = .ok (.aload_n 0, 1) := by decide +kernel
theorem x_270_58 : decode (q_code 270) 58 = .ok (.iload 5, 2) := by decide +kernel
theorem x_270_60 : decode (q_code 270) 60 = .ok (.invokevirtual 270, 3) := by decide +kernel
theorem x_270_63 : decode (q_code 270) 63 = .ok (.isub, 1) := by decide +kernel
theorem x_270_64 : decode (q_code 270) 64 = .ok (.ireturn, 1) := by decide +kernel
theorem x_270_65 : decode (q_code 270) 65 = .ok (.aload_n 0, 1) := by decide +kernel
theorem x_270_66 : decode (q_code 270) 66 = .ok (.iload 4, 2) := by decide +kernel
theorem x_270_68 : decode (q_code 270) 68 = .ok (.iconst 1, 1) := by decide +kernel
theorem x_270_69 : decode (q_code 270) 69 = .ok (.iadd, 1) := by decide +kernel
theorem x_270_70 : decode (q_code 270) 70 = .ok (.aload_n 0, 1) := by decide +kernel
theorem x_270_71 : decode (q_code 270) 71 = .ok (.iload 4, 2) := by decide +kernel
theorem x_270_73 : decode (q_code 270) 73 = .ok (.invokevirtual 160, 3) := by decide +kernel
theorem x_270_76 : decode (q_code 270) 76 = .ok (.iload 5, 2) := by decide +kernel
theorem x_270_78 : decode (q_code 270) 78 = .ok (.iconst 1, 1) := by decide +kernel
theorem x_270_79 : decode (q_code 270) 79 = .ok (.iadd, 1) := by decide +kernel
theorem x_270_80 : decode (q_code 270) 80 = .ok (.aload_n 0, 1) := by decide +kernel
theorem x_270_81 : decode (q_code 270) 81 = .ok (.iload 5, 2) := by decide +kernel
theorem x_270_83 : decode (q_code 270) 83 = .ok (.invokevirtual 160, 3) := by decide +kernel
theorem x_270_86 : decode (q_code 270) 86 = .ok (.invokevirtual 276, 3) := by decide +kernel
theorem x_270_89 : decode (q_code 270) 89 = .ok (.istore 6, 2) := by decide +kernel
theorem x_270_91 : decode (q_code 270) 91 = .ok (.iload 6, 2) := by decide +kernel
theorem x_270_93 : decode (q_code 270) 93 = .ok (.ifCond .eq 6, 3) := by decide +kernel
theorem x_270_96 : decode (q_code 270) 96 = .ok (.iload 6, 2) := by decide +kernel
theorem x_270_98 : decode (q_code 270) 98 = .ok (.ireturn, 1) := by decide +kernel
theorem x_270_99 : decode (q_code 270) 99 = .ok (.aload_n 0, 1) := by decide +kernel
theorem x_270_100 : decode (q_code 270) 100 = .ok (.iload 4, 2) := by decide +kernel
theorem x_270_102 : decode (q_code 270) 102 = .ok (.iload 5, 2) := by decide +kernel
theorem x_270_104 : decode (q_code 270) 104 = .ok (.invokevirtual 284, 3) := by decide +kernel
theorem x_270_107 : decode (q_code 270) 107 = .ok (.istore 6, 2) := by decide +kernel
theorem x_270_109 : decode (q_code 270) 109 = .ok (.iload 6, 2) := by decide +kernel
theorem x_270_111 : decode (q_code 270) 111 = .ok (.ifCond .eq 6, 3) := by decide +kernel
theorem x_270_114 : decode (q_code 270) 114 = .ok (.iload 6, 2) := by decide +kernel
theorem x_270_116 : decode (q_code 270) 116 = .ok (.ireturn, 1) := by decide +kernel
theorem x_270_117 : decode (q_code 270) 117 = .ok (.aload_n 0, 1) := by decide +kernel
theorem x_270_118 : decode (q_code 270) 118 = .ok (.iload 4, 2) := by decide +kernel
theorem x_270_120 : decode (q_code 270) 120 = .ok (.invokevirtual 180, 3) := by decide +kernel
theorem x_270_123 : decode (q_code 270) 123 = .ok (.istore 4, 2) := by decide +kernel
theorem x_270_125 : decode (q_code 270) 125 = .ok (.aload_n 0, 1) := by decide +kernel
theorem x_270_126 : decode (q_code 270) 126 = .ok (.iload 5, 2) := by decide +kernel
theorem x_270_128 : decode (q_code 270) 128 = .ok (.invokevirtual 180, 3) := by decide +kernel
theorem x_270_131 : decode (q_code 270) 131 = .ok (.istore 5, 2) := by decide +kernel
theorem x_270_133 : decode (q_code 270) 133 = .ok (.goto (-121), 3) := by decide +kernel
theorem x_270_136 : decode (q_code 270) 136 = .ok (.iload 4, 2) := by decide +kernel
theorem x_270_138 : decode (q_code 270) 138 = .ok (.aload_n 0, 1) := by decide +kernel
theorem x_270_139 : decode (q_code 270) 139 = .ok (.iload_n 1, 1) := by decide +kernel
theorem x_270_140 : decode (q_code 270) 140 = .ok (.invokevirtual 177, 3) := by decide +kernel
theorem x_270_143 : decode (q_code 270) 143 = .ok (.if_icmp .ge 7, 3) := by decide +kernel
theorem x_270_146 : decode (q_code 270) 146 = .ok (.iconst 1, 1) := by decide +kernel
theorem x_270_147 : decode (q_code 270) 147 = .ok (.goto 18, 3) := by decide +kernel
theorem x_270_150 : decode (q_code 270) 150 = .ok (.iload 5, 2) := by decide +kernel
theorem x_270_152 : decode (q_code 270) 152 = .ok (.aload_n 0, 1) := by decide +kernel
theorem x_270_153 : decode (q_code 270) 153 = .ok (.iload_n 2, 1) := by decide +kernel
theorem x_270_154 : decode (q_code 270) 154 = .ok (.invokevirtual 177, 3) := by decide +kernel
theorem x_270_157 : decode (q_code 270) 157 = .ok (.if_icmp .ge 7, 3) := by decide +kernel
theorem x_270_160 : decode (q_code 270) 160 = .ok (.iconst (-1), 1) := by decide +kernel
theorem x_270_161 : decode (q_code 270) 161 = .ok (.goto 4, 3) := by decide +kernel
theorem x_270_164 : decode (q_code 270) 164 = .ok (.iconst 0, 1) := by decide +kernel
theorem x_270_165 : decode (q_code 270) 165 = .ok (.ireturn, 1) := by decide +kernel
theorem x_271_0 : decode (q_code 271) 0 = .ok (.aload_n 0, 1) := by decide +kernel
theorem x_271_1 : decode (q_code 271) 1 = .ok (.iload_n 1, 1) := by decide +kernel
theorem x_271_2 : decode (q_code 271) 2 = .ok (.iload_n 2, 1) := by decide +kernel
theorem x_271_3 : decode (q_code 271) 3 = .ok (.invokevirtual 284, 3) := by decide +kernel
theorem x_271_6 : decode (q_code 271) 6 = .ok (.ifCond .ne 7, 3) := by decide +kernel
theorem x_271_9 : decode (q_code 271) 9 = .ok (.iconst 1, 1) := by decide +kernel
theorem x_271_10 : decode (q_code 271) 10 = .ok (.goto 4, 3) := by decide +kernel
theorem x_271_13 : decode (q_code 271) 13 = .ok (.iconst 0, 1) := by decide +kernel
theorem x_271_14 : decode (q_code 271) 14 = .ok (.ireturn, 1) := by decide +kernel
theorem x_272_0 : decode (q_code 272) 0 = .ok (.iload_n 1, 1) := by decide +kernel
theorem x_272_1 : decode (q_code 272) 1 = .ok (.istore_n 3, 1) := by decide +kernel
theorem x_272_2 : decode (q_code 272) 2 = .ok (.iload_n 3, 1) := by decide +kernel
theorem x_272_3 : decode (q_code 272) 3 = .ok (.iload_n 2, 1) := by decide +kernel
theorem x_272_4 : decode (q_code 272) 4 = .ok (.if_icmp .ge 19, 3) := by decide +kernel
theorem x_272_7 : decode (q_code 272) 7 = .ok (.aload_n 0, 1) := by decide +kernel
theorem x_272_8 : decode (q_code 272) 8 = .ok (.iload_n 3, 1) := by decide +kernel
theorem x_272_9 : decode (q_code 272) 9 = .ok (.invokevirtual 141, 3) := by decide +kernel
theorem x_272_12 : decode (q_code 272) 12 = .ok (.bipush 46, 2) := by decide +kernel
theorem x_272_14 : decode (q_code 272) 14 = .ok (.if_icmp .eq 9, 3) := by decide +kernel
theorem x_272_17 : decode (q_code 272) 17 = .ok (.iinc 3 1, 3) := by decide +kernel
theorem x_272_20 : decode (q_code 272) 20 = .ok (.goto (-18), 3) := by decide +kernel
theorem x_272_23 : decode (q_code 272) 23 = .ok (.iload_n 3, 1) := by decide +kernel
theorem x_272_24 : decode (q_code 272) 24 = .ok (.ireturn, 1) := by decide +kernel
theorem x_273_0 : decode (q_code 273) 0 = .ok (.iconst 0, 1) := by decide +kernel
theorem x_273_1 : decode (q_code 273) 1 = .ok (.istore_n 3, 1) := by decide +kernel
theorem x_273_2 : decode (q_code 273) 2 = .ok (.iload_n 1, 1) := by decide +kernel
theorem x_273_3 : decode (q_code 273) 3 = .ok (.istore 4, 2) := by decide +kernel
theorem x_273_5 : decode (q_code 273) 5 = .ok (.iconst 1, 1) := by decide +kernel
theorem x_273_6 : decode (q_code 273) 6 = .ok (.istore 5, 2) := by decide +kernel
theorem x_273_8 : decode (q_code 273) 8 = .ok (.iload 5, 2) := by decide +kernel
theorem x_273_10 : decode (q_code 273) 10 = .ok (.ifCond .eq 46, 3) := by decide +kernel
theorem x_273_13 : decode (q_code 273) 13 = .ok (.aload_n 0, 1) := by decide +kernel
theorem x_273_14 : decode (q_code 273) 14 = .ok (.iload 4, 2) := by decide +kernel
theorem x_273_16 : decode (q_code 273) 16 = .ok (.iload_n 2, 1) := by decide +kernel
theorem x_273_17 : decode (q_code 273) 17 = .ok (.invokevirtual 287, 3) := by decide +kernel
theorem x_273_20 : decode (q_code 273) 20 = .ok (.istore 6, 2) := by decide +kernel
theorem x_273_22 : decode (q_code 273) 22 = .ok (.iload 6, 2) := by decide +kernel
theorem x_273_24 : decode (q_code 273) 24 = .ok (.iload 4, 2) := by decide +kernel
theorem x_273_26 : decode (q_code 273) 26 = .ok (.if_icmp .ne 5, 3) := by decide +kernel
theorem x_273_29 : decode (q_code 273) 29 = .ok (.iconst 0, 1) := by decide +kernel
theorem x_273_30 : decode (q_code 273) 30 = .ok (.ireturn, 1) := by decide +kernel
theorem x_273_31 : decode (q_code 273) 31 = .ok (.iinc 3 1, 3) := by decide +kernel
theorem x_273_34 : decode (q_code 273) 34 = .ok (.iload 6, 2) := by decide +kernel
theorem x_273_36 : decode (q_code 273) 36 = .ok (.iload_n 2, 1) := by decide +kernel
theorem x_273_37 : decode (q_code 273) 37 = .ok (.if_icmp .ge 7, 3) := by decide +kernel
theorem x_273_40 : decode (q_code 273) 40 = .ok (.iconst 1, 1) := by decide +kernel
theorem x_273_41 : decode (q_code 273) 41 = .ok (.goto 4, 3) := by decide +kernel
theorem x_273_44 : decode (q_code 273) 44 = .ok (.iconst 0, 1) := by decide +kernel
theorem x_273_45 : decode (q_code 273) 45 = .ok (.istore 5, 2) := by decide +kernel
theorem x_273_47 : decode (q_code 273) 47 = .ok (.iload 6, 2) := by decide +kernel
theorem x_273_49 : decode (q_code 273) 49 = .ok (.iconst 1, 1) := by decide +kernel
theorem x_273_50 : decode (q_code 273) 50 = .ok (.iadd, 1) := by decide +kernel
theorem x_273_51 : decode (q_code 273) 51 = .ok (.istore 4, 2) := by decide +kernel
theorem x_273_53 : decode (q_code 273) 53 = .ok (.goto (-45), 3) := by decide +kernel
theorem x_273_56 : decode (q_code 273) 56 = .ok (.iload_n 1, 1) := by decide +kernel
theorem x_273_57 : decode (q_code 273) 57 = .ok (.istore 6, 2) := by decide +kernel
theorem x_273_59 : decode (q_code 273) 59 = .ok (.iload 6, 2) := by decide +kernel
theorem x_273_61 : decode (q_code 273) 61 = .ok (.iload_n 2, 1) := by decide +kernel
theorem x_273_62 : decode (q_code 273) 62 = .ok (.if_icmp .ge 21, 3) := by decide +kernel
theorem x_273_65 : decode (q_code 273) 65 = .ok (.aload_n 0, 1) := by decide +kernel
theorem x_273_66 : decode (q_code 273) 66 = .ok (.getfield 10, 3) := by decide +kernel
theorem x_273_69 : decode (q_code 273) 69 = .ok (.iload 6, 2) := by decide +kernel
theorem x_273_71 : decode (q_code 273) 71 = .ok (.baload, 1) := by decide +kernel
theorem x_273_72 : decode (q_code 273) 72 = .ok (.ifCond .ne 5, 3) := by decide +kernel
theorem x_273_75 : decode (q_code 273) 75 = .ok (.iconst 0, 1) := by decide +kernel
theorem x_273_76 : decode (q_code 273) 76 = .ok (.ireturn, 1) := by decide +kernel
theorem x_273_77 : decode (q_code 273) 77 = .ok (.iinc 6 1, 3) := by decide +kernel
theorem x_273_80 : decode (q_code 273) 80 = .ok (.goto (-21), 3) := by decide +kernel
theorem x_273_83 : decode (q_code 273) 83 = .ok (.iload_n 3, 1) := by decide +kernel
theorem x_273_84 : decode (q_code 273) 84 = .ok (.bipush 8, 2) := by decide +kernel
theorem x_273_86 : decode (q_code 273) 86 = .ok (.if_icmp .gt 7, 3) := by decide +kernel
theorem x_273_89 : decode (q_code 273) 89 = .ok (.iconst 1, 1) := by decide +kernel
theorem x_273_90 : decode (q_code 273) 90 = .ok (.goto 4, 3) := by decide +kernel
theorem x_273_93 : decode (q_code 273) 93 = .ok (.iconst 0, 1) := by decide +kernel
theorem x_273_94 : decode (q_code 273) 94 = .ok (.ireturn, 1) := by decide +kernel
theorem x_274_0 : decode (q_code 274) 0 = .ok (.iload_n 1, 1) := by decide +kernel
theorem x_274_1 : decode (q_code 274) 1 = .ok (.istore_n 3, 1) := by decide +kernel
theorem x_274_2 : decode (q_code 274) 2 = .ok (.iload_n 3, 1) := by decide +kernel
theorem x_274_3 : decode (q_code 274) 3 = .ok (.iload_n 2, 1) := by decide +kernel
theorem x_274_4 : decode (q_code 274) 4 = .ok (.if_icmp .ge 38, 3) := by decide +kernel
theorem x_274_7 : decode (q_code 274) 7 = .ok (.aload_n 0, 1) := by decide +kernel
theorem x_274_8 : decode (q_code 274) 8 = .ok (.iload_n 3, 1) := by decide +kernel
theorem x_274_9 : decode (q_code 274) 9 = .ok (.invokevirtual 141, 3) := by decide +kernel
theorem x_274_12 : decode (q_code 274) 12 = .ok (.bipush 36, 2) := by decide +kernel
theorem x_274_14 : decode (q_code 274) 14 = .ok (.if_icmp .ne 22, 3) := by decide +kernel
theorem x_274_17 : decode (q_code 274) 17 = .ok (.iload_n 3, 1) := by decide +kernel
theorem x_274_18 : decode (q_code 274) 18 = .ok (.iload_n 1, 1) := by decide +kernel
theorem x_274_19 : decode (q_code 274) 19 = .ok (.if_icmp .eq 15, 3) := by decide +kernel
theorem x_274_22 : decode (q_code 274) 22 = .ok (.aload_n 0, 1) := by decide +kernel
theorem x_274_23 : decode (q_code 274) 23 = .ok (.iload_n 3, 1) := by decide +kernel
theorem x_274_24 : decode (q_code 274) 24 = .ok (.iconst 1, 1) := by decide +kernel
theorem x_274_25 : decode (q_code 274) 25 = .ok (.isub, 1) := by decide +kernel
theorem x_274_26 : decode (q_code 274) 26 = .ok (.invokevirtual 141, 3) := by decide +kernel
theorem x_274_29 : decode (q_code 274) 29 = .ok (.bipush 46, 2) := by decide +kernel
theorem x_274_31 : decode (q_code 274) 31 = .ok (.if_icmp .ne 5, 3) := by decide +kernel
theorem x_274_34 : decode (q_code 274) 34 = .ok (.iconst 1, 1) := by decide +kernel
theorem x_274_35 : decode (q_code 274) 35 = .ok (.ireturn, 1) := by decide +kernel
theorem x_274_36 : decode (q_code 274) 36 = .ok (.iinc 3 1, 3) := by decide +kernel
theorem x_274_39 : decode (q_code 274) 39 = .ok (.goto (-37), 3) := by decide +kernel
theorem x_274_42 : decode (q_code 274) 42 = .ok (.iconst 0, 1) := by decide +kernel
theorem x_274_43 : decode (q_code 274) 43 = .ok (.ireturn, 1) := by decide +kernel
theorem x_275_0 : decode (q_code 275) 0 = .ok (.aload_n 0, 1) := by decide +kernel
theorem x_275_1 : decode (q_code 275) 1 = .ok (.iload_n 1, 1) := by decide +kernel
theorem x_275_2 : decode (q_code 275) 2 = .ok (.iload_n 2, 1) := by decide +kernel
theorem x_275_3 : decode (q_code 275) 3 = .ok (.invokevirtual 290, 3) := by decide +kernel
theorem x_275_6 : decode (q_code 275) 6 = .ok (.ifCond .eq 16, 3) := by decide +kernel
theorem x_275_9 : decode (q_code 275) 9 = .ok (.aload_n 0, 1) := by decide +kernel
theorem x_275_10 : decode (q_code 275) 10 = .ok (.iload_n 1, 1) := by decide +kernel
theorem x_275_11 : decode (q_code 275) 11 = .ok (.iload_n 2, 1) := by decide +kernel
theorem x_275_12 : decode (q_code 275) 12 = .ok (.invokevirtual 293, 3) := by decide +kernel
theorem x_275_15 : decode (q_code 275) 15 = .ok (.ifCond .ne 7, 3) := by decide +kernel
theorem x_275_18 : decode (q_code 275) 18 = .ok (.iconst 1, 1) := by decide +kernel
theorem x_275_19 : decode (q_code 275) 19 = .ok (.goto 4, 3) := by decide +kernel
theorem x_275_22 : decode (q_code 275) 22 = .ok (.iconst 0, 1) := by decide +kernel
theorem x_275_23 : decode (q_code 275) 23 = .ok (.ireturn, 1) := by decide +kernel
theorem x_276_0 : decode (q_code 276) 0 = .ok (.iload_n 1, 1) := by decide +kernel
theorem x_276_1 : decode (q_code 276) 1 = .ok (.iload_n 2, 1) := by decide +kernel
theorem x_276_2 : decode (q_code 276) 2 = .ok (.if_icmp .eq 20, 3) := by decide +kernel
theorem x_276_5 : decode (q_code 276) 5 = .ok (.aload_n 0, 1) := by decide +kernel
theorem x_276_6 : decode (q_code 276) 6 = .ok (.iload_n 1, 1) := by decide +kernel
theorem x_276_7 : decode (q_code 276) 7 = .ok (.invokevirtual 141, 3) := by decide +kernel
theorem x_276_10 : decode (q_code 276) 10 = .ok (.bipush 48, 2) := by decide +kernel
theorem x_276_12 : decode (q_code 276) 12 = .ok (.if_icmp .ne 12, 3) := by decide +kernel
theorem x_276_15 : decode (q_code 276) 15 = .ok (.iload_n 2, 1) := by decide +kernel
theorem x_276_16 : decode (q_code 276) 16 = .ok (.iload_n 1, 1) := by decide +kernel
theorem x_276_17 : decode (q_code 276) 17 = .ok (.isub, 1) := by decide +kernel
theorem x_276_18 : decode (q_code 276) 18 = .ok (.iconst 1, 1) := by decide +kernel
theorem x_276_19 : decode (q_code 276) 19 = .ok (.if_icmp .le 5, 3) := by decide +kernel
theorem x_276_22 : decode (q_code 276) 22 = .ok (.iconst (-1), 1) := by decide +kernel
theorem x_276_23 : decode (q_code 276) 23 = .ok (.ireturn, 1) := by decide +kernel
theorem x_276_24 : decode (q_code 276) 24 = .ok (.iconst 0, 1) := by decide +kernel
theorem x_276_25 : decode (q_code 276) 25 = .ok (.istore_n 3, 1) := by decide +kernel
theorem x_276_26 : decode (q_code 276) 26 = .ok (.iload_n 1, 1) := by decide +kernel
theorem x_276_27 : decode (q_code 276) 27 = .ok (.istore 4, 2) := by decide +kernel
theorem x_276_29 : decode (q_code 276) 29 = .ok (.iload 4, 2) := by decide +kernel
theorem x_276_31 : decode (q_code 276) 31 = .ok (.iload_n 2, 1) := by decide +kernel
theorem x_276_32 : decode (q_code 276) 32 = .ok (.if_icmp .ge 63, 3) := by decide +kernel
theorem x_276_35 : decode (q_code 276) 35 = .ok (.aload_n 0, 1) := by decide +kernel
theorem x_276_36 : decode (q_code 276) 36 = .ok (.iload 4, 2) := by decide +kernel
theorem x_276_38 : decode (q_code 276) 38 = .ok (.invokevirtual 141, 3) := by decide +kernel
theorem x_276_41 : decode (q_code 276) 41 = .ok (.bipush 48, 2) := by decide +kernel
theorem x_276_43 : decode (q_code 276) 43 = .ok (.if_icmp .lt 14, 3) := by decide +kernel
theorem x_276_46 : decode (q_code 276) 46 = .ok (.aload_n 0, 1) := by decide +kernel
theorem x_276_47 : decode (q_code 276) 47 = .ok (.iload 4, 2) := by decide +kernel
theorem x_276_49 : decode (q_code 276) 49 = .ok (.invokevirtual 141, 3) := by decide +kernel
theorem x_276_52 : decode (q_code 276) 52 = .ok (.bipush 57, 2) := by decide +kernel
theorem x_276_54 : decode (q_code 276) 54 = .ok (.if_icmp .le 5, 3) := by decide +kernel
theorem x_276_57 : decode (q_code 276) 57 = .ok (.iconst (-1), 1) := by decide +kernel
theorem x_276_58 : decode (q_code 276) 58 = .ok (.ireturn, 1) := by decide +kernel
theorem x_276_59 : decode (q_code 276) 59 = .ok (.iload 4, 2) := by decide +kernel
theorem x_276_61 : decode (q_code 276) 61 = .ok (.iload_n 1, 1) := by decide +kernel
theorem x_276_62 : decode (q_code 276) 62 = .ok (.isub, 1) := by decide +kernel
theorem x_276_63 : decode (q_code 276) 63 = .ok (.bipush 9, 2) := by decide +kernel
theorem x_276_65 : decode (q_code 276) 65 = .ok (.if_icmp .ge 20, 3) := by decide +kernel
theorem x_276_68 : decode (q_code 276) 68 = .ok (.bipush 10, 2) := by decide +kernel
theorem x_276_70 : decode (q_code 276) 70 = .ok (.iload_n 3, 1) := by decide +kernel
theorem x_276_71 : decode (q_code 276) 71 = .ok (.imul, 1) := by decide +kernel
theorem x_276_72 : decode (q_code 276) 72 = .ok (.aload_n 0, 1) := by decide +kernel
theorem x_276_73 : decode (q_code 276) 73 = .ok (.iload 4, 2) := by decide +kernel
theorem x_276_75 : decode (q_code 276) 75 = .ok (.invokevirtual 141, 3) := by decide +kernel
theorem x_276_78 : decode (q_code 276) 78 = .ok (.iadd, 1) := by decide +kernel
theorem x_276_79 : decode (q_code 276) 79 = .ok (.bipush 48, 2) := by decide +kernel
theorem x_276_81 : decode (q_code 276) 81 = .ok (.isub, 1) := by decide +kernel
theorem x_276_82 : decode (q_code 276) 82 = .ok (.goto 6, 3) := by decide +kernel
theorem x_276_85 : decode (q_code 276) 85 = .ok (.ldc_w 296, 3) := by decide +kernel
theorem x_276_88 : decode (q_code 276) 88 = .ok (.istore_n 3, 1) := by decide +kernel
theorem x_276_89 : decode (q_code 276) 89 = .ok (.iinc 4 1, 3) := by decide +kernel
theorem x_276_92 : decode (q_code 276) 92 = .ok (.goto (-63), 3) := by decide +kernel
theorem x_276_95 : decode (q_code 276) 95 = .ok (.iload_n 3, 1) := by decide +kernel
theorem x_276_96 : decode (q_code 276) 96 = .ok (.ireturn, 1) := by decide +kernel
theorem x_277_0 : decode (q_code 277) 0 = .ok (.aload_n 0, 1) := by decide +kernel
theorem x_277_1 : decode (q_code 277) 1 = .ok (.getfield 19, 3) := by decide +kernel
theorem x_277_4 : decode (q_code 277) 4 = .ok (.aload_n 0, 1) := by decide +kernel
theorem x_277_5 : decode (q_code 277) 5 = .ok (.getfield 297, 3) := by decide +kernel
theorem x_277_8 : decode (q_code 277) 8 = .ok (.iload_n 1, 1) := by decide +kernel
theorem x_277_9 : decode (q_code 277) 9 = .ok (.iastore, 1) := by decide +kernel
theorem x_277_10 : decode (q_code 277) 10 = .ok (.aload_n 0, 1) := by decide +kernel
theorem x_277_11 : decode (q_code 277) 11 = .ok (.dup, 1) := by decide +kernel
theorem x_277_12 : decode (q_code 277) 12 = .ok (.getfield 297, 3) := by decide +kernel
theorem x_277_15 : decode (q_code 277) 15 = .ok (.iconst 1, 1) := by decide +kernel
theorem x_277_16 : decode (q_code 277) 16 = .ok (.iadd, 1) := by decide +kernel
theorem x_277_17 : decode (q_code 277) 17 = .ok (.putfield 297, 3) := by decide +kernel
theorem x_277_20 : decode (q_code 277) 20 = .ok (.return_, 1) := by decide +kernel
theorem m_X12_at {d : Nat} {M : g_M} {Q : Int → g_M → Prop} {a0 : Nat} {v1 : Int} (hv1 : g_InR v1) (h : g_ok M → g_O M a0 12 ∧ ∃ b2, g_r M a0 0 = some b2 ∧ ∃ n4, g_A M b2 0 n4 ∧ ((0 : Int) ≤ v1 ∧ (v1 : Int) < n4) ∧ Q (g_and (g_i M b2 v1) 255) M) : g_Call (d + 1) 226 [.ref a0, g_n v1] M (g_qI Q) := by
  refine g_Call.ok fun hok0 => ?_
  replace h := h hok0
  refine r_body rfl (lv := [(0, .ref a0), (1, g_n v1)]) rfl ?_
  refine g_Run.ok fun hok => ?_
  refine r_aload_n x_226_0 rfl ?_
  obtain ⟨hO1, h⟩ := h
  obtain ⟨b2, hb3, h⟩ := h
  refine r_getR x_226_1 rfl (ci := 12) (k := 0) (ns := 0) (by decide +kernel) (by decide) rfl (kz := 0) rfl hO1 hb3 ?_
  refine r_iload_n x_226_4 rfl ?_
  obtain ⟨n4, hA5, h⟩ := h
  obtain ⟨h6, h⟩ := h
  refine r_bald x_226_5 (Or.inl rfl) hA5 hv1 h6.1 h6.2 ?_
  refine r_sipush x_226_6 (x := 255) rfl ?_
  refine r_iand x_226_9 ?_
  exact r_retI x_226_10 rfl (g_InR_toInt _) h
theorem m_X12_int4 {d : Nat} {M : g_M} {Q : Int → g_M → Prop} {a0 : Nat} {v1 : Int} (hv1 : g_InR v1) (h : g_ok M → g_O M a0 12 ∧ g_Call d 226 [.ref a0, g_n v1] M (g_qI fun r5 M2 => g_ext M M2 → g_ok M2 → g_InR r5 → g_InR (v1 + 1) ∧ g_Call d 226 [.ref a0, g_n (v1 + 1)] M2 (g_qI fun r11 M8 => g_ext M2 M8 → g_ok M8 → g_InR r11 → g_InR (v1 + 2) ∧ g_Call d 226 [.ref a0, g_n (v1 + 2)] M8 (g_qI fun r17 M14 => g_ext M8 M14 → g_ok M14 → g_InR r17 → g_InR (v1 + 3) ∧ g_Call d 226 [.ref a0, g_n (v1 + 3)] M14 (g_qI fun r23 M20 => g_ext M14 M20 → g_ok M20 → g_InR r23 → Q (g_or (g_or (g_or r5 (g_shl r11 8)) (g_shl r17 16)) (g_shl r23 24)) M20))))) : g_Call (d + 1) 227 [.ref a0, g_n v1] M (g_qI Q) := by
  refine g_Call.ok fun hok0 => ?_
  replace h := h hok0
  refine r_body rfl (lv := [(0, .ref a0), (1, g_n v1)]) rfl ?_
  refine g_Run.ok fun hok => ?_
  refine r_aload_n x_227_0 rfl ?_
  refine r_iload_n x_227_1 rfl ?_
  obtain ⟨hO1, h⟩ := h
  refine r_invV x_227_2 (z := 226) (ns := 0) (by decide +kernel) (as := [g_n v1]) (r := []) rfl rfl rfl hO1 rfl rfl ?_
  refine r_callI h fun r5 M2 hx3 hok4 hr6 h => ?_
  replace h := h hx3 hok4 hr6
  replace hO1 := hO1.up hx3
  refine r_aload_n x_227_5 rfl ?_
  refine r_iload_n x_227_6 rfl ?_
  refine r_iconst x_227_7 ?_
  refine r_iadd x_227_8 ?_
  obtain ⟨h7, h⟩ := h
  refine r_invV x_227_9 (z := 226) (ns := 0) (by decide +kernel) (as := [g_n (v1 + 1)]) (r := [g_n r5]) rfl rfl rfl hO1 rfl rfl ?_
  refine r_callI h fun r11 M8 hx9 hok10 hr12 h => ?_
  replace h := h hx9 hok10 hr12
  replace hO1 := hO1.up hx9
  refine r_bipush x_227_12 (x := 8) rfl ?_
  refine r_ishl x_227_14 ?_
  refine r_ior x_227_15 ?_
  refine r_aload_n x_227_16 rfl ?_
  refine r_iload_n x_227_17 rfl ?_
  refine r_iconst x_227_18 ?_
  refine r_iadd x_227_19 ?_
  obtain ⟨h13, h⟩ := h
  refine r_invV x_227_20 (z := 226) (ns := 0) (by decide +kernel) (as := [g_n (v1 + 2)]) (r := [g_n (g_or r5 (g_shl r11 8))]) rfl rfl rfl hO1 rfl rfl ?_
  refine r_callI h fun r17 M14 hx15 hok16 hr18 h => ?_
  replace h := h hx15 hok16 hr18
  replace hO1 := hO1.up hx15
  refine r_bipush x_227_23 (x := 16) rfl ?_
  refine r_ishl x_227_25 ?_
  refine r_ior x_227_26 ?_
  refine r_aload_n x_227_27 rfl ?_
  refine r_iload_n x_227_28 rfl ?_
  refine r_iconst x_227_29 ?_
  refine r_iadd x_227_30 ?_
  obtain ⟨h19, h⟩ := h
  refine r_invV x_227_31 (z := 226) (ns := 0) (by decide +kernel) (as := [g_n (v1 + 3)]) (r := [g_n (g_or (g_or r5 (g_shl r11 8)) (g_shl r17 16))]) rfl rfl rfl hO1 rfl rfl ?_
  refine r_callI h fun r23 M20 hx21 hok22 hr24 h => ?_
  replace h := h hx21 hok22 hr24
  replace hO1 := hO1.up hx21
  refine r_bipush x_227_34 (x := 24) rfl ?_
  refine r_ishl x_227_36 ?_
  refine r_ior x_227_37 ?_
  exact r_retI x_227_38 rfl (g_InR_toInt _) h
theorem m_X12_long8 {d : Nat} {M : g_M} {Q : Int64 → g_M → Prop} {a0 : Nat} {v1 : Int} (hv1 : g_InR v1) (h : g_ok M → g_O M a0 12 ∧ g_Call d 227 [.ref a0, g_n v1] M (g_qI fun r5 M2 => g_ext M M2 → g_ok M2 → g_InR r5 → g_InR (v1 + 4) ∧ g_Call d 227 [.ref a0, g_n (v1 + 4)] M2 (g_qI fun r11 M8 => g_ext M2 M8 → g_ok M8 → g_InR r11 → Q (((Int64.ofInt r5) &&& 4294967295) ||| ((Int64.ofInt r11) <<< ((Int32.ofInt 32).toInt64 &&& 63))) M8))) : g_Call (d + 1) 228 [.ref a0, g_n v1] M (g_qL Q) := by
  refine g_Call.ok fun hok0 => ?_
  replace h := h hok0
  refine r_body rfl (lv := [(0, .ref a0), (1, g_n v1)]) rfl ?_
  refine g_Run.ok fun hok => ?_
  refine r_aload_n x_228_0 rfl ?_
  refine r_iload_n x_228_1 rfl ?_
  obtain ⟨hO1, h⟩ := h
  refine r_invV x_228_2 (z := 227) (ns := 0) (by decide +kernel) (as := [g_n v1]) (r := []) rfl rfl rfl hO1 rfl rfl ?_
  refine r_callI h fun r5 M2 hx3 hok4 hr6 h => ?_
  replace h := h hx3 hok4 hr6
  replace hO1 := hO1.up hx3
  refine r_i2l x_228_5 hr6 ?_
  refine r_ldc2 x_228_6 (X := 4294967295) rfl ?_
  refine r_land x_228_9 ?_
  refine r_aload_n x_228_10 rfl ?_
  refine r_iload_n x_228_11 rfl ?_
  refine r_iconst x_228_12 ?_
  refine r_iadd x_228_13 ?_
  obtain ⟨h7, h⟩ := h
  refine r_invV x_228_14 (z := 227) (ns := 0) (by decide +kernel) (as := [g_n (v1 + 4)]) (r := [.long ((Int64.ofInt r5) &&& 4294967295)]) rfl rfl rfl hO1 rfl rfl ?_
  refine r_callI h fun r11 M8 hx9 hok10 hr12 h => ?_
  replace h := h hx9 hok10 hr12
  replace hO1 := hO1.up hx9
  refine r_i2l x_228_17 hr12 ?_
  refine r_bipush x_228_18 (x := 32) rfl ?_
  refine r_lshl x_228_20 ?_
  refine r_lor x_228_21 ?_
  exact r_retL x_228_22 rfl h
theorem m_X12_setInt4 {d : Nat} {M : g_M} {Q : g_M → Prop} {a0 : Nat} {v1 : Int} (hv1 : g_InR v1) {v2 : Int} (hv2 : g_InR v2) (h : g_ok M → g_Run d 229 2 [(0, .ref a0), (1, g_n v1), (2, g_n v2), (3, g_n 0)] [] M (g_qV Q)) : g_Call (d + 1) 229 [.ref a0, g_n v1, g_n v2] M (g_qV Q) := by
  refine g_Call.ok fun hok0 => ?_
  replace h := h hok0
  refine r_body rfl (lv := [(0, .ref a0), (1, g_n v1), (2, g_n v2)]) rfl ?_
  refine g_Run.ok fun hok => ?_
  refine r_iconst x_229_0 ?_
  refine r_istore_n x_229_1 (by decide +kernel) rfl (lv1 := [(0, .ref a0), (1, g_n v1), (2, g_n v2), (3, g_n 0)]) rfl ?_
  exact h
theorem s_X12_setInt4_2 {d : Nat} {M : g_M} {Q : g_M → Prop} {a0 : Nat} {v1 : Int} (hv1 : g_InR v1) {v2 : Int} (hv2 : g_InR v2) {v3 : Int} (hv3 : g_InR v3) (h : g_ok M → ((v3 < 4 → g_O M a0 12 ∧ ∃ b2, g_r M a0 0 = some b2 ∧ g_InR (v1 + v3) ∧ g_InR (8 * v3) ∧ ∃ n6, g_A M b2 0 n6 ∧ ((0 : Int) ≤ v1 + v3 ∧ (v1 + v3 : Int) < n6) ∧ (∀ M9, M9 = g_wi M b2 (v1 + v3) (g_w8 (g_w8 (g_shr v2 (8 * v3)))) → g_ok M9 → g_InR (v3 + 1) ∧ g_Run d 229 2 [(0, .ref a0), (1, g_n v1), (2, g_n v2), (3, g_n (v3 + 1))] [] M9 (g_qV Q))) ∧ (¬ v3 < 4 → Q M))) : g_Run d 229 2 [(0, .ref a0), (1, g_n v1), (2, g_n v2), (3, g_n v3)] [] M (g_qV Q) := by
  refine g_Run.ok fun hok => ?_
  replace h := h hok
  refine r_iload_n x_229_2 rfl ?_
  refine r_iconst x_229_3 ?_
  refine r_ic_ge x_229_4 (t := 28) (by decide +kernel) hv3 (g_Rk rfl) (fun hc => ?_) (fun hc => ?_)
  · replace h := h.2 hc
    exact r_retV x_229_28 rfl h
  · replace h := h.1 hc
    refine r_aload_n x_229_7 rfl ?_
    obtain ⟨hO1, h⟩ := h
    obtain ⟨b2, hb3, h⟩ := h
    refine r_getR x_229_8 rfl (ci := 12) (k := 0) (ns := 0) (by decide +kernel) (by decide) rfl (kz := 0) rfl hO1 hb3 ?_
    refine r_iload_n x_229_11 rfl ?_
    refine r_iload_n x_229_12 rfl ?_
    refine r_iadd x_229_13 ?_
    obtain ⟨h4, h⟩ := h
    refine r_iload_n x_229_14 rfl ?_
    refine r_bipush x_229_15 (x := 8) rfl ?_
    refine r_iload_n x_229_17 rfl ?_
    refine r_imul x_229_18 ?_
    obtain ⟨h5, h⟩ := h
    refine r_ishr x_229_19 ?_
    refine r_i2b x_229_20 ?_
    obtain ⟨n6, hA7, h⟩ := h
    obtain ⟨h8, h⟩ := h
    refine r_bast0 x_229_21 hA7 h4 h8.1 h8.2 ?_
    obtain ⟨M9, hM10⟩ : ∃ Mz, Mz = g_wi M b2 (v1 + v3) (g_w8 (g_w8 (g_shr v2 (8 * v3)))) := ⟨_, rfl⟩
    rw [← hM10]
    refine g_Run.ok fun hok11 => ?_
    replace h := h M9 hM10 hok11
    have hx12 := g_extW hM10
    replace hO1 := hO1.up hx12
    replace hA7 := hA7.up hx12
    obtain ⟨h13, h⟩ := h
    refine r_iinc x_229_22 (by decide +kernel) rfl rfl (lv1 := [(0, .ref a0), (1, g_n v1), (2, g_n v2), (3, g_n (v3 + 1))]) rfl ?_
    refine r_goto x_229_25 (t := 2) (by decide +kernel) ?_
    exact h
theorem m_X12_isSameBytes {d : Nat} {M : g_M} {Q : Int → g_M → Prop} {a0 : Nat} {v1 : Int} (hv1 : g_InR v1) {v2 : Int} (hv2 : g_InR v2) {v3 : Int} (hv3 : g_InR v3) {v4 : Int} (hv4 : g_InR v4) (h : g_ok M → g_InR (v2 - v1) ∧ g_InR (v4 - v3) ∧ ((v2 - v1 = v4 - v3 → g_Run d 230 15 [(0, .ref a0), (1, g_n v1), (2, g_n v2), (3, g_n v3), (4, g_n v4), (5, g_n 0)] [] M (g_qI Q)) ∧ (¬ v2 - v1 = v4 - v3 → Q 0 M))) : g_Call (d + 1) 230 [.ref a0, g_n v1, g_n v2, g_n v3, g_n v4] M (g_qI Q) := by
  refine g_Call.ok fun hok0 => ?_
  replace h := h hok0
  refine r_body rfl (lv := [(0, .ref a0), (1, g_n v1), (2, g_n v2), (3, g_n v3), (4, g_n v4)]) rfl ?_
  refine g_Run.ok fun hok => ?_
  refine r_iload_n x_230_0 rfl ?_
  refine r_iload_n x_230_1 rfl ?_
  refine r_isub x_230_2 ?_
  obtain ⟨h1, h⟩ := h
  refine r_iload x_230_3 rfl ?_
  refine r_iload_n x_230_5 rfl ?_
  refine r_isub x_230_6 ?_
  obtain ⟨h2, h⟩ := h
  refine r_ic_eq x_230_7 (t := 12) (by decide +kernel) h1 h2 (fun hc => ?_) (fun hc => ?_)
  · replace h := h.1 hc
    refine r_iconst x_230_12 ?_
    refine r_istore x_230_13 (by decide +kernel) rfl (lv1 := [(0, .ref a0), (1, g_n v1), (2, g_n v2), (3, g_n v3), (4, g_n v4), (5, g_n 0)]) rfl ?_
    exact h
  · replace h := h.2 hc
    refine r_iconst x_230_10 ?_
    exact r_retZ x_230_11 rfl (Or.inl rfl) h
theorem s_X12_isSameBytes_15 {d : Nat} {M : g_M} {Q : Int → g_M → Prop} {a0 : Nat} {v1 : Int} (hv1 : g_InR v1) {v2 : Int} (hv2 : g_InR v2) {v3 : Int} (hv3 : g_InR v3) {v4 : Int} (hv4 : g_InR v4) {v5 : Int} (hv5 : g_InR v5) (h : g_ok M → g_InR (v1 + v5) ∧ ((v1 + v5 < v2 → g_O M a0 12 ∧ ∃ b3, g_r M a0 0 = some b3 ∧ g_InR (v1 + v5) ∧ ∃ n6, g_A M b3 0 n6 ∧ ((0 : Int) ≤ v1 + v5 ∧ (v1 + v5 : Int) < n6) ∧ ∃ b9, g_r M a0 0 = some b9 ∧ g_InR (v3 + v5) ∧ ∃ n12, g_A M b9 0 n12 ∧ ((0 : Int) ≤ v3 + v5 ∧ (v3 + v5 : Int) < n12) ∧ ((g_i M b3 (v1 + v5) = g_i M b9 (v3 + v5) → g_InR (v5 + 1) ∧ g_Run d 230 15 [(0, .ref a0), (1, g_n v1), (2, g_n v2), (3, g_n v3), (4, g_n v4), (5, g_n (v5 + 1))] [] M (g_qI Q)) ∧ (¬ g_i M b3 (v1 + v5) = g_i M b9 (v3 + v5) → Q 0 M))) ∧ (¬ v1 + v5 < v2 → Q 1 M))) : g_Run d 230 15 [(0, .ref a0), (1, g_n v1), (2, g_n v2), (3, g_n v3), (4, g_n v4), (5, g_n v5)] [] M (g_qI Q) := by
  refine g_Run.ok fun hok => ?_
  replace h := h hok
  refine r_iload_n x_230_15 rfl ?_
  refine r_iload x_230_16 rfl ?_
  refine r_iadd x_230_18 ?_
  obtain ⟨h1, h⟩ := h
  refine r_iload_n x_230_19 rfl ?_
  refine r_ic_ge x_230_20 (t := 52) (by decide +kernel) h1 hv2 (fun hc => ?_) (fun hc => ?_)
  · replace h := h.2 hc
    refine r_iconst x_230_52 ?_
    exact r_retZ x_230_53 rfl (Or.inr rfl) h
  · replace h := h.1 hc
    refine r_aload_n x_230_23 rfl ?_
    obtain ⟨hO2, h⟩ := h
    obtain ⟨b3, hb4, h⟩ := h
    refine r_getR x_230_24 rfl (ci := 12) (k := 0) (ns := 0) (by decide +kernel) (by decide) rfl (kz := 0) rfl hO2 hb4 ?_
    refine r_iload_n x_230_27 rfl ?_
    refine r_iload x_230_28 rfl ?_
    refine r_iadd x_230_30 ?_
    obtain ⟨h5, h⟩ := h
    obtain ⟨n6, hA7, h⟩ := h
    obtain ⟨h8, h⟩ := h
    refine r_bald x_230_31 (Or.inl rfl) hA7 h5 h8.1 h8.2 ?_
    refine r_aload_n x_230_32 rfl ?_
    obtain ⟨b9, hb10, h⟩ := h
    refine r_getR x_230_33 rfl (ci := 12) (k := 0) (ns := 0) (by decide +kernel) (by decide) rfl (kz := 0) rfl hO2 hb10 ?_
    refine r_iload_n x_230_36 rfl ?_
    refine r_iload x_230_37 rfl ?_
    refine r_iadd x_230_39 ?_
    obtain ⟨h11, h⟩ := h
    obtain ⟨n12, hA13, h⟩ := h
    obtain ⟨h14, h⟩ := h
    refine r_bald x_230_40 (Or.inl rfl) hA13 h11 h14.1 h14.2 ?_
    refine r_ic_eq x_230_41 (t := 46) (by decide +kernel) (hok.1 _ _) (hok.1 _ _) (fun hc => ?_) (fun hc => ?_)
    · replace h := h.1 hc
      obtain ⟨h15, h⟩ := h
      refine r_iinc x_230_46 (by decide +kernel) rfl rfl (lv1 := [(0, .ref a0), (1, g_n v1), (2, g_n v2), (3, g_n v3), (4, g_n v4), (5, g_n (v5 + 1))]) rfl ?_
      refine r_goto x_230_49 (t := 15) (by decide +kernel) ?_
      exact h
    · replace h := h.2 hc
      refine r_iconst x_230_44 ?_
      exact r_retZ x_230_45 rfl (Or.inl rfl) h
theorem m_X12_is {d : Nat} {M : g_M} {Q : Int → g_M → Prop} {a0 : Nat} {v1 : Int} (hv1 : g_InR v1) {v2 : Int} (hv2 : g_InR v2) {j3 : Nat} (hj3 : j3 < q_nS) (h : g_ok M → g_InR (v2 - v1) ∧ g_Call d 433 [.ref (4 * j3 + 1)] M (g_qI fun r5 M2 => g_ext M M2 → g_ok M2 → g_InR r5 → ((v2 - v1 = r5 → g_Run d 231 15 [(0, .ref a0), (1, g_n v1), (2, g_n v2), (3, .ref (4 * j3 + 1)), (4, g_n 0)] [] M2 (g_qI Q)) ∧ (¬ v2 - v1 = r5 → Q 0 M2)))) : g_Call (d + 1) 231 [.ref a0, g_n v1, g_n v2, .ref (4 * j3 + 1)] M (g_qI Q) := by
  refine g_Call.ok fun hok0 => ?_
  replace h := h hok0
  refine r_body rfl (lv := [(0, .ref a0), (1, g_n v1), (2, g_n v2), (3, .ref (4 * j3 + 1))]) rfl ?_
  refine g_Run.ok fun hok => ?_
  refine r_iload_n x_231_0 rfl ?_
  refine r_iload_n x_231_1 rfl ?_
  refine r_isub x_231_2 ?_
  obtain ⟨h1, h⟩ := h
  refine r_aload_n x_231_3 rfl ?_
  refine r_invT x_231_4 (z := 433) (ns := 0) (by decide +kernel) (as := []) (r := [g_n (v2 - v1)]) rfl rfl hj3 rfl rfl ?_
  refine r_callI h fun r5 M2 hx3 hok4 hr6 h => ?_
  replace h := h hx3 hok4 hr6
  refine r_ic_eq x_231_7 (t := 12) (by decide +kernel) h1 hr6 (fun hc => ?_) (fun hc => ?_)
  · replace h := h.1 hc
    refine r_iconst x_231_12 ?_
    refine r_istore x_231_13 (by decide +kernel) rfl (lv1 := [(0, .ref a0), (1, g_n v1), (2, g_n v2), (3, .ref (4 * j3 + 1)), (4, g_n 0)]) rfl ?_
    exact h
  · replace h := h.2 hc
    refine r_iconst x_231_10 ?_
    exact r_retZ x_231_11 rfl (Or.inl rfl) h
theorem s_X12_is_15 {d : Nat} {M : g_M} {Q : Int → g_M → Prop} {a0 : Nat} {v1 : Int} (hv1 : g_InR v1) {v2 : Int} (hv2 : g_InR v2) {j3 : Nat} (hj3 : j3 < q_nS) {v4 : Int} (hv4 : g_InR v4) (h : g_ok M → g_Call d 433 [.ref (4 * j3 + 1)] M (g_qI fun r4 M1 => g_ext M M1 → g_ok M1 → g_InR r4 → ((v4 < r4 → g_InR (v1 + v4) ∧ g_O M1 a0 12 ∧ g_Call d 226 [.ref a0, g_n (v1 + v4)] M1 (g_qI fun r11 M8 => g_ext M1 M8 → g_ok M8 → g_InR r11 → g_Call d 434 [.ref (4 * j3 + 1), g_n v4] M8 (g_qI fun r16 M13 => g_ext M8 M13 → g_ok M13 → g_InR r16 → ((r11 = r16 → g_InR (v4 + 1) ∧ g_Run d 231 15 [(0, .ref a0), (1, g_n v1), (2, g_n v2), (3, .ref (4 * j3 + 1)), (4, g_n (v4 + 1))] [] M13 (g_qI Q)) ∧ (¬ r11 = r16 → Q 0 M13))))) ∧ (¬ v4 < r4 → Q 1 M1)))) : g_Run d 231 15 [(0, .ref a0), (1, g_n v1), (2, g_n v2), (3, .ref (4 * j3 + 1)), (4, g_n v4)] [] M (g_qI Q) := by
  refine g_Run.ok fun hok => ?_
  replace h := h hok
  refine r_iload x_231_15 rfl ?_
  refine r_aload_n x_231_17 rfl ?_
  refine r_invT x_231_18 (z := 433) (ns := 0) (by decide +kernel) (as := []) (r := [g_n v4]) rfl rfl hj3 rfl rfl ?_
  refine r_callI h fun r4 M1 hx2 hok3 hr5 h => ?_
  replace h := h hx2 hok3 hr5
  refine r_ic_ge x_231_21 (t := 49) (by decide +kernel) hv4 hr5 (fun hc => ?_) (fun hc => ?_)
  · replace h := h.2 hc
    refine r_iconst x_231_49 ?_
    exact r_retZ x_231_50 rfl (Or.inr rfl) h
  · replace h := h.1 hc
    refine r_aload_n x_231_24 rfl ?_
    refine r_iload_n x_231_25 rfl ?_
    refine r_iload x_231_26 rfl ?_
    refine r_iadd x_231_28 ?_
    obtain ⟨h6, h⟩ := h
    obtain ⟨hO7, h⟩ := h
    refine r_invV x_231_29 (z := 226) (ns := 0) (by decide +kernel) (as := [g_n (v1 + v4)]) (r := []) rfl rfl rfl hO7 rfl rfl ?_
    refine r_callI h fun r11 M8 hx9 hok10 hr12 h => ?_
    replace h := h hx9 hok10 hr12
    replace hO7 := hO7.up hx9
    refine r_aload_n x_231_32 rfl ?_
    refine r_iload x_231_33 rfl ?_
    refine r_invT x_231_35 (z := 434) (ns := 0) (by decide +kernel) (as := [g_n v4]) (r := [g_n r11]) rfl rfl hj3 rfl rfl ?_
    refine r_callI h fun r16 M13 hx14 hok15 hr17 h => ?_
    replace h := h hx14 hok15 hr17
    replace hO7 := hO7.up hx14
    refine r_ic_eq x_231_38 (t := 43) (by decide +kernel) hr12 hr17 (fun hc => ?_) (fun hc => ?_)
    · replace h := h.1 hc
      obtain ⟨h18, h⟩ := h
      refine r_iinc x_231_43 (by decide +kernel) rfl rfl (lv1 := [(0, .ref a0), (1, g_n v1), (2, g_n v2), (3, .ref (4 * j3 + 1)), (4, g_n (v4 + 1))]) rfl ?_
      refine r_goto x_231_46 (t := 15) (by decide +kernel) ?_
      exact h
    · replace h := h.2 hc
      refine r_iconst x_231_41 ?_
      exact r_retZ x_231_42 rfl (Or.inl rfl) h
theorem m_X12_nameEnd {d : Nat} {M : g_M} {Q : Int → g_M → Prop} {a0 : Nat} {v1 : Int} (hv1 : g_InR v1) (h : g_ok M → g_InR (v1 + 1) ∧ g_Run d 232 4 [(0, .ref a0), (1, g_n v1), (2, g_n (v1 + 1))] [] M (g_qI Q)) : g_Call (d + 1) 232 [.ref a0, g_n v1] M (g_qI Q) := by
  refine g_Call.ok fun hok0 => ?_
  replace h := h hok0
  refine r_body rfl (lv := [(0, .ref a0), (1, g_n v1)]) rfl ?_
  refine g_Run.ok fun hok => ?_
  refine r_iload_n x_232_0 rfl ?_
  refine r_iconst x_232_1 ?_
  refine r_iadd x_232_2 ?_
  obtain ⟨h1, h⟩ := h
  refine r_istore_n x_232_3 (by decide +kernel) rfl (lv1 := [(0, .ref a0), (1, g_n v1), (2, g_n (v1 + 1))]) rfl ?_
  exact h
theorem s_X12_nameEnd_4 {d : Nat} {M : g_M} {Q : Int → g_M → Prop} {a0 : Nat} {v1 : Int} (hv1 : g_InR v1) {v2 : Int} (hv2 : g_InR v2) (h : g_ok M → g_O M a0 12 ∧ ∃ b2, g_r M a0 0 = some b2 ∧ ∃ n4, g_A M b2 0 n4 ∧ ((0 : Int) ≤ v2 ∧ (v2 : Int) < n4) ∧ ((g_i M b2 v2 = 0 → Q v2 M) ∧ (¬ g_i M b2 v2 = 0 → g_InR (v2 + 1) ∧ g_Run d 232 4 [(0, .ref a0), (1, g_n v1), (2, g_n (v2 + 1))] [] M (g_qI Q)))) : g_Run d 232 4 [(0, .ref a0), (1, g_n v1), (2, g_n v2)] [] M (g_qI Q) := by
  refine g_Run.ok fun hok => ?_
  replace h := h hok
  refine r_aload_n x_232_4 rfl ?_
  obtain ⟨hO1, h⟩ := h
  obtain ⟨b2, hb3, h⟩ := h
  refine r_getR x_232_5 rfl (ci := 12) (k := 0) (ns := 0) (by decide +kernel) (by decide) rfl (kz := 0) rfl hO1 hb3 ?_
  refine r_iload_n x_232_8 rfl ?_
  obtain ⟨n4, hA5, h⟩ := h
  obtain ⟨h6, h⟩ := h
  refine r_bald x_232_9 (Or.inl rfl) hA5 hv2 h6.1 h6.2 ?_
  refine r_if_eq x_232_10 (t := 19) (by decide +kernel) (hok.1 _ _) (fun hc => ?_) (fun hc => ?_)
  · replace h := h.1 hc
    refine r_iload_n x_232_19 rfl ?_
    exact r_retI x_232_20 rfl hv2 h
  · replace h := h.2 hc
    obtain ⟨h7, h⟩ := h
    refine r_iinc x_232_13 (by decide +kernel) rfl rfl (lv1 := [(0, .ref a0), (1, g_n v1), (2, g_n (v2 + 1))]) rfl ?_
    refine r_goto x_232_16 (t := 4) (by decide +kernel) ?_
    exact h
theorem m_X12_value {d : Nat} {M : g_M} {Q : Int → g_M → Prop} {a0 : Nat} {v1 : Int} (hv1 : g_InR v1) (h : g_ok M → g_O M a0 12 ∧ g_Call d 232 [.ref a0, g_n v1] M (g_qI fun r5 M2 => g_ext M M2 → g_ok M2 → g_InR r5 → g_InR (r5 + 1) ∧ Q (r5 + 1) M2)) : g_Call (d + 1) 233 [.ref a0, g_n v1] M (g_qI Q) := by
  refine g_Call.ok fun hok0 => ?_
  replace h := h hok0
  refine r_body rfl (lv := [(0, .ref a0), (1, g_n v1)]) rfl ?_
  refine g_Run.ok fun hok => ?_
  refine r_aload_n x_233_0 rfl ?_
  refine r_iload_n x_233_1 rfl ?_
  obtain ⟨hO1, h⟩ := h
  refine r_invV x_233_2 (z := 232) (ns := 0) (by decide +kernel) (as := [g_n v1]) (r := []) rfl rfl rfl hO1 rfl rfl ?_
  refine r_callI h fun r5 M2 hx3 hok4 hr6 h => ?_
  replace h := h hx3 hok4 hr6
  replace hO1 := hO1.up hx3
  refine r_iconst x_233_5 ?_
  refine r_iadd x_233_6 ?_
  obtain ⟨h7, h⟩ := h
  exact r_retI x_233_7 rfl h7 h
theorem m_X12_lengthOf {d : Nat} {M : g_M} {Q : Int → g_M → Prop} {a0 : Nat} {v1 : Int} (hv1 : g_InR v1) {v2 : Int} (hv2 : g_InR v2) (h : g_ok M → ((v1 = 16 → Q 4 M) ∧ (¬ v1 = 16 → ((v1 = 18 → Q 8 M) ∧ (¬ v1 = 18 → ((v1 = 8 → Q 1 M) ∧ (¬ v1 = 8 → ((v1 = 10 → Q 0 M) ∧ (¬ v1 = 10 → ((v1 = 2 → g_O M a0 12 ∧ g_Call d 227 [.ref a0, g_n v2] M (g_qI fun r11 M8 => g_ext M M8 → g_ok M8 → g_InR r11 → g_InR (4 + r11) ∧ Q (4 + r11) M8)) ∧ (¬ v1 = 2 → g_O M a0 12 ∧ g_Call d 227 [.ref a0, g_n v2] M (g_qI fun r5 M2 => g_ext M M2 → g_ok M2 → g_InR r5 → Q r5 M2)))))))))))) : g_Call (d + 1) 234 [.ref a0, g_n v1, g_n v2] M (g_qI Q) := by
  refine g_Call.ok fun hok0 => ?_
  replace h := h hok0
  refine r_body rfl (lv := [(0, .ref a0), (1, g_n v1), (2, g_n v2)]) rfl ?_
  refine g_Run.ok fun hok => ?_
  refine r_iload_n x_234_0 rfl ?_
  refine r_bipush x_234_1 (x := 16) rfl ?_
  refine r_ic_ne x_234_3 (t := 8) (by decide +kernel) hv1 (g_Rk rfl) (fun hc => ?_) (fun hc => ?_)
  · replace h := h.2 hc
    refine r_iload_n x_234_8 rfl ?_
    refine r_bipush x_234_9 (x := 18) rfl ?_
    refine r_ic_ne x_234_11 (t := 17) (by decide +kernel) hv1 (g_Rk rfl) (fun hc => ?_) (fun hc => ?_)
    · replace h := h.2 hc
      refine r_iload_n x_234_17 rfl ?_
      refine r_bipush x_234_18 (x := 8) rfl ?_
      refine r_ic_ne x_234_20 (t := 25) (by decide +kernel) hv1 (g_Rk rfl) (fun hc => ?_) (fun hc => ?_)
      · replace h := h.2 hc
        refine r_iload_n x_234_25 rfl ?_
        refine r_bipush x_234_26 (x := 10) rfl ?_
        refine r_ic_ne x_234_28 (t := 33) (by decide +kernel) hv1 (g_Rk rfl) (fun hc => ?_) (fun hc => ?_)
        · replace h := h.2 hc
          refine r_iload_n x_234_33 rfl ?_
          refine r_iconst x_234_34 ?_
          refine r_ic_ne x_234_35 (t := 48) (by decide +kernel) hv1 (g_Rk rfl) (fun hc => ?_) (fun hc => ?_)
          · replace h := h.2 hc
            refine r_aload_n x_234_48 rfl ?_
            refine r_iload_n x_234_49 rfl ?_
            obtain ⟨hO1, h⟩ := h
            refine r_invV x_234_50 (z := 227) (ns := 0) (by decide +kernel) (as := [g_n v2]) (r := []) rfl rfl rfl hO1 rfl rfl ?_
            refine r_callI h fun r5 M2 hx3 hok4 hr6 h => ?_
            replace h := h hx3 hok4 hr6
            replace hO1 := hO1.up hx3
            exact r_retI x_234_53 rfl hr6 h
          · replace h := h.1 hc
            refine r_iconst x_234_38 ?_
            refine r_aload_n x_234_39 rfl ?_
            refine r_iload_n x_234_40 rfl ?_
            obtain ⟨hO7, h⟩ := h
            refine r_invV x_234_41 (z := 227) (ns := 0) (by decide +kernel) (as := [g_n v2]) (r := [g_n 4]) rfl rfl rfl hO7 rfl rfl ?_
            refine r_callI h fun r11 M8 hx9 hok10 hr12 h => ?_
            replace h := h hx9 hok10 hr12
            replace hO7 := hO7.up hx9
            refine r_iadd x_234_44 ?_
            obtain ⟨h13, h⟩ := h
            refine r_goto x_234_45 (t := 53) (by decide +kernel) ?_
            exact r_retI x_234_53 rfl h13 h
        · replace h := h.1 hc
          refine r_iconst x_234_31 ?_
          exact r_retI x_234_32 rfl (g_Rk rfl) h
      · replace h := h.1 hc
        refine r_iconst x_234_23 ?_
        exact r_retI x_234_24 rfl (g_Rk rfl) h
    · replace h := h.1 hc
      refine r_bipush x_234_14 (x := 8) rfl ?_
      exact r_retI x_234_16 rfl (g_Rk rfl) h
  · replace h := h.1 hc
    refine r_iconst x_234_6 ?_
    exact r_retI x_234_7 rfl (g_Rk rfl) h
theorem m_X12_behind {d : Nat} {M : g_M} {Q : Int → g_M → Prop} {a0 : Nat} {v1 : Int} (hv1 : g_InR v1) (h : g_ok M → g_O M a0 12 ∧ g_Call d 233 [.ref a0, g_n v1] M (g_qI fun r5 M2 => g_ext M M2 → g_ok M2 → g_InR r5 → ∃ b7, g_r M2 a0 0 = some b7 ∧ ∃ n9, g_A M2 b7 0 n9 ∧ ((0 : Int) ≤ v1 ∧ (v1 : Int) < n9) ∧ g_Call d 234 [.ref a0, g_n (g_i M2 b7 v1), g_n r5] M2 (g_qI fun r15 M12 => g_ext M2 M12 → g_ok M12 → g_InR r15 → g_InR (r5 + r15) ∧ Q (r5 + r15) M12))) : g_Call (d + 1) 235 [.ref a0, g_n v1] M (g_qI Q) := by
  refine g_Call.ok fun hok0 => ?_
  replace h := h hok0
  refine r_body rfl (lv := [(0, .ref a0), (1, g_n v1)]) rfl ?_
  refine g_Run.ok fun hok => ?_
  refine r_aload_n x_235_0 rfl ?_
  refine r_iload_n x_235_1 rfl ?_
  obtain ⟨hO1, h⟩ := h
  refine r_invV x_235_2 (z := 233) (ns := 0) (by decide +kernel) (as := [g_n v1]) (r := []) rfl rfl rfl hO1 rfl rfl ?_
  refine r_callI h fun r5 M2 hx3 hok4 hr6 h => ?_
  replace h := h hx3 hok4 hr6
  replace hO1 := hO1.up hx3
  refine r_istore_n x_235_5 (by decide +kernel) rfl (lv1 := [(0, .ref a0), (1, g_n v1), (2, g_n r5)]) rfl ?_
  refine r_iload_n x_235_6 rfl ?_
  refine r_aload_n x_235_7 rfl ?_
  refine r_aload_n x_235_8 rfl ?_
  obtain ⟨b7, hb8, h⟩ := h
  refine r_getR x_235_9 rfl (ci := 12) (k := 0) (ns := 0) (by decide +kernel) (by decide) rfl (kz := 0) rfl hO1 hb8 ?_
  refine r_iload_n x_235_12 rfl ?_
  obtain ⟨n9, hA10, h⟩ := h
  obtain ⟨h11, h⟩ := h
  refine r_bald x_235_13 (Or.inl rfl) hA10 hv1 h11.1 h11.2 ?_
  refine r_iload_n x_235_14 rfl ?_
  refine r_invV x_235_15 (z := 234) (ns := 0) (by decide +kernel) (as := [g_n (g_i M2 b7 v1), g_n r5]) (r := [g_n r5]) rfl rfl rfl hO1 rfl rfl ?_
  refine r_callI h fun r15 M12 hx13 hok14 hr16 h => ?_
  replace h := h hx13 hok14 hr16
  replace hO1 := hO1.up hx13
  replace hA10 := hA10.up hx13
  refine r_iadd x_235_18 ?_
  obtain ⟨h17, h⟩ := h
  exact r_retI x_235_19 rfl h17 h
theorem m_X12_isName {d : Nat} {M : g_M} {Q : Int → g_M → Prop} {a0 : Nat} {v1 : Int} (hv1 : g_InR v1) {j2 : Nat} (hj2 : j2 < q_nS) (h : g_ok M → g_InR (v1 + 1) ∧ g_O M a0 12 ∧ g_Call d 232 [.ref a0, g_n v1] M (g_qI fun r6 M3 => g_ext M M3 → g_ok M3 → g_InR r6 → g_Call d 231 [.ref a0, g_n (v1 + 1), g_n r6, .ref (4 * j2 + 1)] M3 (g_qI fun r11 M8 => g_ext M3 M8 → g_ok M8 → g_InR r11 → (r11 = 0 ∨ r11 = 1) ∧ Q r11 M8))) : g_Call (d + 1) 236 [.ref a0, g_n v1, .ref (4 * j2 + 1)] M (g_qI Q) := by
  refine g_Call.ok fun hok0 => ?_
  replace h := h hok0
  refine r_body rfl (lv := [(0, .ref a0), (1, g_n v1), (2, .ref (4 * j2 + 1))]) rfl ?_
  refine g_Run.ok fun hok => ?_
  refine r_aload_n x_236_0 rfl ?_
  refine r_iload_n x_236_1 rfl ?_
  refine r_iconst x_236_2 ?_
  refine r_iadd x_236_3 ?_
  obtain ⟨h1, h⟩ := h
  refine r_aload_n x_236_4 rfl ?_
  refine r_iload_n x_236_5 rfl ?_
  obtain ⟨hO2, h⟩ := h
  refine r_invV x_236_6 (z := 232) (ns := 0) (by decide +kernel) (as := [g_n v1]) (r := [g_n (v1 + 1), .ref a0]) rfl rfl rfl hO2 rfl rfl ?_
  refine r_callI h fun r6 M3 hx4 hok5 hr7 h => ?_
  replace h := h hx4 hok5 hr7
  replace hO2 := hO2.up hx4
  refine r_aload_n x_236_9 rfl ?_
  refine r_invV x_236_10 (z := 231) (ns := 0) (by decide +kernel) (as := [g_n (v1 + 1), g_n r6, .ref (4 * j2 + 1)]) (r := []) rfl rfl rfl hO2 rfl rfl ?_
  refine r_callI h fun r11 M8 hx9 hok10 hr12 h => ?_
  replace h := h hx9 hok10 hr12
  replace hO2 := hO2.up hx9
  obtain ⟨hz, h⟩ := h
  exact r_retZ x_236_13 rfl hz h
theorem m_X12_first {d : Nat} {M : g_M} {Q : Int → g_M → Prop} {v0 : Int} (hv0 : g_InR v0) (h : g_ok M → g_InR (v0 + 4) ∧ Q (v0 + 4) M) : g_Call (d + 1) 237 [g_n v0] M (g_qI Q) := by
  refine g_Call.ok fun hok0 => ?_
  replace h := h hok0
  refine r_body rfl (lv := [(0, g_n v0)]) rfl ?_
  refine g_Run.ok fun hok => ?_
  refine r_iload_n x_237_0 rfl ?_
  refine r_iconst x_237_1 ?_
  refine r_iadd x_237_2 ?_
  obtain ⟨h1, h⟩ := h
  exact r_retI x_237_3 rfl h1 h
theorem m_X12_last {d : Nat} {M : g_M} {Q : Int → g_M → Prop} {a0 : Nat} {v1 : Int} (hv1 : g_InR v1) (h : g_ok M → g_O M a0 12 ∧ g_Call d 227 [.ref a0, g_n v1] M (g_qI fun r5 M2 => g_ext M M2 → g_ok M2 → g_InR r5 → g_InR (v1 + r5) ∧ g_InR ((v1 + r5) - 1) ∧ Q ((v1 + r5) - 1) M2)) : g_Call (d + 1) 238 [.ref a0, g_n v1] M (g_qI Q) := by
  refine g_Call.ok fun hok0 => ?_
  replace h := h hok0
  refine r_body rfl (lv := [(0, .ref a0), (1, g_n v1)]) rfl ?_
  refine g_Run.ok fun hok => ?_
  refine r_iload_n x_238_0 rfl ?_
  refine r_aload_n x_238_1 rfl ?_
  refine r_iload_n x_238_2 rfl ?_
  obtain ⟨hO1, h⟩ := h
  refine r_invV x_238_3 (z := 227) (ns := 0) (by decide +kernel) (as := [g_n v1]) (r := [g_n v1]) rfl rfl rfl hO1 rfl rfl ?_
  refine r_callI h fun r5 M2 hx3 hok4 hr6 h => ?_
  replace h := h hx3 hok4 hr6
  replace hO1 := hO1.up hx3
  refine r_iadd x_238_6 ?_
  obtain ⟨h7, h⟩ := h
  refine r_iconst x_238_7 ?_
  refine r_isub x_238_8 ?_
  obtain ⟨h8, h⟩ := h
  exact r_retI x_238_9 rfl h8 h
theorem m_X12_count {d : Nat} {M : g_M} {Q : Int → g_M → Prop} {a0 : Nat} {v1 : Int} (hv1 : g_InR v1) (h : g_ok M → g_Call d 237 [g_n v1] M (g_qI fun r4 M1 => g_ext M M1 → g_ok M1 → g_InR r4 → g_Run d 239 7 [(0, .ref a0), (1, g_n v1), (2, g_n 0), (3, g_n r4)] [] M1 (g_qI Q))) : g_Call (d + 1) 239 [.ref a0, g_n v1] M (g_qI Q) := by
  refine g_Call.ok fun hok0 => ?_
  replace h := h hok0
  refine r_body rfl (lv := [(0, .ref a0), (1, g_n v1)]) rfl ?_
  refine g_Run.ok fun hok => ?_
  refine r_iconst x_239_0 ?_
  refine r_istore_n x_239_1 (by decide +kernel) rfl (lv1 := [(0, .ref a0), (1, g_n v1), (2, g_n 0)]) rfl ?_
  refine r_iload_n x_239_2 rfl ?_
  refine r_invS x_239_3 (z := 237) (ns := 0) (by decide +kernel) (as := [g_n v1]) (r := []) rfl rfl rfl ?_
  refine r_callI h fun r4 M1 hx2 hok3 hr5 h => ?_
  replace h := h hx2 hok3 hr5
  refine r_istore_n x_239_6 (by decide +kernel) rfl (lv1 := [(0, .ref a0), (1, g_n v1), (2, g_n 0), (3, g_n r4)]) rfl ?_
  exact h
theorem s_X12_count_7 {d : Nat} {M : g_M} {Q : Int → g_M → Prop} {a0 : Nat} {v1 : Int} (hv1 : g_InR v1) {v2 : Int} (hv2 : g_InR v2) {v3 : Int} (hv3 : g_InR v3) (h : g_ok M → g_O M a0 12 ∧ g_Call d 238 [.ref a0, g_n v1] M (g_qI fun r5 M2 => g_ext M M2 → g_ok M2 → g_InR r5 → ((v3 < r5 → g_InR (v2 + 1) ∧ g_Call d 235 [.ref a0, g_n v3] M2 (g_qI fun r11 M8 => g_ext M2 M8 → g_ok M8 → g_InR r11 → g_Run d 239 7 [(0, .ref a0), (1, g_n v1), (2, g_n (v2 + 1)), (3, g_n r11)] [] M8 (g_qI Q))) ∧ (¬ v3 < r5 → Q v2 M2)))) : g_Run d 239 7 [(0, .ref a0), (1, g_n v1), (2, g_n v2), (3, g_n v3)] [] M (g_qI Q) := by
  refine g_Run.ok fun hok => ?_
  replace h := h hok
  refine r_iload_n x_239_7 rfl ?_
  refine r_aload_n x_239_8 rfl ?_
  refine r_iload_n x_239_9 rfl ?_
  obtain ⟨hO1, h⟩ := h
  refine r_invV x_239_10 (z := 238) (ns := 0) (by decide +kernel) (as := [g_n v1]) (r := [g_n v3]) rfl rfl rfl hO1 rfl rfl ?_
  refine r_callI h fun r5 M2 hx3 hok4 hr6 h => ?_
  replace h := h hx3 hok4 hr6
  replace hO1 := hO1.up hx3
  refine r_ic_ge x_239_13 (t := 28) (by decide +kernel) hv3 hr6 (fun hc => ?_) (fun hc => ?_)
  · replace h := h.2 hc
    refine r_iload_n x_239_28 rfl ?_
    exact r_retI x_239_29 rfl hv2 h
  · replace h := h.1 hc
    obtain ⟨h7, h⟩ := h
    refine r_iinc x_239_16 (by decide +kernel) rfl rfl (lv1 := [(0, .ref a0), (1, g_n v1), (2, g_n (v2 + 1)), (3, g_n v3)]) rfl ?_
    refine r_aload_n x_239_19 rfl ?_
    refine r_iload_n x_239_20 rfl ?_
    refine r_invV x_239_21 (z := 235) (ns := 0) (by decide +kernel) (as := [g_n v3]) (r := []) rfl rfl rfl hO1 rfl rfl ?_
    refine r_callI h fun r11 M8 hx9 hok10 hr12 h => ?_
    replace h := h hx9 hok10 hr12
    replace hO1 := hO1.up hx9
    refine r_istore_n x_239_24 (by decide +kernel) rfl (lv1 := [(0, .ref a0), (1, g_n v1), (2, g_n (v2 + 1)), (3, g_n r11)]) rfl ?_
    refine r_goto x_239_25 (t := 7) (by decide +kernel) ?_
    exact h
theorem m_X12_find {d : Nat} {M : g_M} {Q : Int → g_M → Prop} {a0 : Nat} {v1 : Int} (hv1 : g_InR v1) {v2 : Int} (hv2 : g_InR v2) {v3 : Int} (hv3 : g_InR v3) (h : g_ok M → g_Call d 237 [g_n v1] M (g_qI fun r4 M1 => g_ext M M1 → g_ok M1 → g_InR r4 → g_Run d 240 6 [(0, .ref a0), (1, g_n v1), (2, g_n v2), (3, g_n v3), (4, g_n r4)] [] M1 (g_qI Q))) : g_Call (d + 1) 240 [.ref a0, g_n v1, g_n v2, g_n v3] M (g_qI Q) := by
  refine g_Call.ok fun hok0 => ?_
  replace h := h hok0
  refine r_body rfl (lv := [(0, .ref a0), (1, g_n v1), (2, g_n v2), (3, g_n v3)]) rfl ?_
  refine g_Run.ok fun hok => ?_
  refine r_iload_n x_240_0 rfl ?_
  refine r_invS x_240_1 (z := 237) (ns := 0) (by decide +kernel) (as := [g_n v1]) (r := []) rfl rfl rfl ?_
  refine r_callI h fun r4 M1 hx2 hok3 hr5 h => ?_
  replace h := h hx2 hok3 hr5
  refine r_istore x_240_4 (by decide +kernel) rfl (lv1 := [(0, .ref a0), (1, g_n v1), (2, g_n v2), (3, g_n v3), (4, g_n r4)]) rfl ?_
  exact h
theorem s_X12_find_6 {d : Nat} {M : g_M} {Q : Int → g_M → Prop} {a0 : Nat} {v1 : Int} (hv1 : g_InR v1) {v2 : Int} (hv2 : g_InR v2) {v3 : Int} (hv3 : g_InR v3) {v4 : Int} (hv4 : g_InR v4) (h : g_ok M → g_O M a0 12 ∧ g_Call d 238 [.ref a0, g_n v1] M (g_qI fun r5 M2 => g_ext M M2 → g_ok M2 → g_InR r5 → ((v4 < r5 → g_InR (v4 + 1) ∧ g_Call d 232 [.ref a0, g_n v4] M2 (g_qI fun r11 M8 => g_ext M2 M8 → g_ok M8 → g_InR r11 → g_Call d 230 [.ref a0, g_n (v4 + 1), g_n r11, g_n v2, g_n v3] M8 (g_qI fun r16 M13 => g_ext M8 M13 → g_ok M13 → g_InR r16 → ((r16 = 0 → g_Call d 235 [.ref a0, g_n v4] M13 (g_qI fun r21 M18 => g_ext M13 M18 → g_ok M18 → g_InR r21 → g_Run d 240 6 [(0, .ref a0), (1, g_n v1), (2, g_n v2), (3, g_n v3), (4, g_n r21)] [] M18 (g_qI Q))) ∧ (¬ r16 = 0 → Q v4 M13))))) ∧ (¬ v4 < r5 → Q ((-1)) M2)))) : g_Run d 240 6 [(0, .ref a0), (1, g_n v1), (2, g_n v2), (3, g_n v3), (4, g_n v4)] [] M (g_qI Q) := by
  refine g_Run.ok fun hok => ?_
  replace h := h hok
  refine r_iload x_240_6 rfl ?_
  refine r_aload_n x_240_8 rfl ?_
  refine r_iload_n x_240_9 rfl ?_
  obtain ⟨hO1, h⟩ := h
  refine r_invV x_240_10 (z := 238) (ns := 0) (by decide +kernel) (as := [g_n v1]) (r := [g_n v4]) rfl rfl rfl hO1 rfl rfl ?_
  refine r_callI h fun r5 M2 hx3 hok4 hr6 h => ?_
  replace h := h hx3 hok4 hr6
  replace hO1 := hO1.up hx3
  refine r_ic_ge x_240_13 (t := 49) (by decide +kernel) hv4 hr6 (fun hc => ?_) (fun hc => ?_)
  · replace h := h.2 hc
    refine r_iconst x_240_49 ?_
    exact r_retI x_240_50 rfl (g_Rk rfl) h
  · replace h := h.1 hc
    refine r_aload_n x_240_16 rfl ?_
    refine r_iload x_240_17 rfl ?_
    refine r_iconst x_240_19 ?_
    refine r_iadd x_240_20 ?_
    obtain ⟨h7, h⟩ := h
    refine r_aload_n x_240_21 rfl ?_
    refine r_iload x_240_22 rfl ?_
    refine r_invV x_240_24 (z := 232) (ns := 0) (by decide +kernel) (as := [g_n v4]) (r := [g_n (v4 + 1), .ref a0]) rfl rfl rfl hO1 rfl rfl ?_
    refine r_callI h fun r11 M8 hx9 hok10 hr12 h => ?_
    replace h := h hx9 hok10 hr12
    replace hO1 := hO1.up hx9
    refine r_iload_n x_240_27 rfl ?_
    refine r_iload_n x_240_28 rfl ?_
    refine r_invV x_240_29 (z := 230) (ns := 0) (by decide +kernel) (as := [g_n (v4 + 1), g_n r11, g_n v2, g_n v3]) (r := []) rfl rfl rfl hO1 rfl rfl ?_
    refine r_callI h fun r16 M13 hx14 hok15 hr17 h => ?_
    replace h := h hx14 hok15 hr17
    replace hO1 := hO1.up hx14
    refine r_if_eq x_240_32 (t := 38) (by decide +kernel) hr17 (fun hc => ?_) (fun hc => ?_)
    · replace h := h.1 hc
      refine r_aload_n x_240_38 rfl ?_
      refine r_iload x_240_39 rfl ?_
      refine r_invV x_240_41 (z := 235) (ns := 0) (by decide +kernel) (as := [g_n v4]) (r := []) rfl rfl rfl hO1 rfl rfl ?_
      refine r_callI h fun r21 M18 hx19 hok20 hr22 h => ?_
      replace h := h hx19 hok20 hr22
      replace hO1 := hO1.up hx19
      refine r_istore x_240_44 (by decide +kernel) rfl (lv1 := [(0, .ref a0), (1, g_n v1), (2, g_n v2), (3, g_n v3), (4, g_n r21)]) rfl ?_
      refine r_goto x_240_46 (t := 6) (by decide +kernel) ?_
      exact h
    · replace h := h.2 hc
      refine r_iload x_240_35 rfl ?_
      exact r_retI x_240_37 rfl hv4 h
theorem m_X12_item {d : Nat} {M : g_M} {Q : Int → g_M → Prop} {a0 : Nat} {v1 : Int} (hv1 : g_InR v1) {v2 : Int} (hv2 : g_InR v2) (h : g_ok M → g_Call d 237 [g_n v1] M (g_qI fun r4 M1 => g_ext M M1 → g_ok M1 → g_InR r4 → g_Run d 241 8 [(0, .ref a0), (1, g_n v1), (2, g_n v2), (3, g_n r4), (4, g_n 0)] [] M1 (g_qI Q))) : g_Call (d + 1) 241 [.ref a0, g_n v1, g_n v2] M (g_qI Q) := by
  refine g_Call.ok fun hok0 => ?_
  replace h := h hok0
  refine r_body rfl (lv := [(0, .ref a0), (1, g_n v1), (2, g_n v2)]) rfl ?_
  refine g_Run.ok fun hok => ?_
  refine r_iload_n x_241_0 rfl ?_
  refine r_invS x_241_1 (z := 237) (ns := 0) (by decide +kernel) (as := [g_n v1]) (r := []) rfl rfl rfl ?_
  refine r_callI h fun r4 M1 hx2 hok3 hr5 h => ?_
  replace h := h hx2 hok3 hr5
  refine r_istore_n x_241_4 (by decide +kernel) rfl (lv1 := [(0, .ref a0), (1, g_n v1), (2, g_n v2), (3, g_n r4)]) rfl ?_
  refine r_iconst x_241_5 ?_
  refine r_istore x_241_6 (by decide +kernel) rfl (lv1 := [(0, .ref a0), (1, g_n v1), (2, g_n v2), (3, g_n r4), (4, g_n 0)]) rfl ?_
  exact h
theorem s_X12_item_8 {d : Nat} {M : g_M} {Q : Int → g_M → Prop} {a0 : Nat} {v1 : Int} (hv1 : g_InR v1) {v2 : Int} (hv2 : g_InR v2) {v3 : Int} (hv3 : g_InR v3) {v4 : Int} (hv4 : g_InR v4) (h : g_ok M → ((v4 < v2 → g_O M a0 12 ∧ g_Call d 238 [.ref a0, g_n v1] M (g_qI fun r11 M8 => g_ext M M8 → g_ok M8 → g_InR r11 → ((v3 < r11 → g_Call d 235 [.ref a0, g_n v3] M8 (g_qI fun r21 M18 => g_ext M8 M18 → g_ok M18 → g_InR r21 → g_InR (v4 + 1) ∧ g_Run d 241 8 [(0, .ref a0), (1, g_n v1), (2, g_n v2), (3, g_n r21), (4, g_n (v4 + 1))] [] M18 (g_qI Q))) ∧ (¬ v3 < r11 → g_Call d 238 [.ref a0, g_n v1] M8 (g_qI fun r16 M13 => g_ext M8 M13 → g_ok M13 → g_InR r16 → ((v3 < r16 → Q v3 M13) ∧ (¬ v3 < r16 → Q ((-1)) M13))))))) ∧ (¬ v4 < v2 → g_O M a0 12 ∧ g_Call d 238 [.ref a0, g_n v1] M (g_qI fun r5 M2 => g_ext M M2 → g_ok M2 → g_InR r5 → ((v3 < r5 → Q v3 M2) ∧ (¬ v3 < r5 → Q ((-1)) M2)))))) : g_Run d 241 8 [(0, .ref a0), (1, g_n v1), (2, g_n v2), (3, g_n v3), (4, g_n v4)] [] M (g_qI Q) := by
  refine g_Run.ok fun hok => ?_
  replace h := h hok
  refine r_iload x_241_8 rfl ?_
  refine r_iload_n x_241_10 rfl ?_
  refine r_ic_ge x_241_11 (t := 35) (by decide +kernel) hv4 hv2 (fun hc => ?_) (fun hc => ?_)
  · replace h := h.2 hc
    refine r_iload_n x_241_35 rfl ?_
    refine r_aload_n x_241_36 rfl ?_
    refine r_iload_n x_241_37 rfl ?_
    obtain ⟨hO1, h⟩ := h
    refine r_invV x_241_38 (z := 238) (ns := 0) (by decide +kernel) (as := [g_n v1]) (r := [g_n v3]) rfl rfl rfl hO1 rfl rfl ?_
    refine r_callI h fun r5 M2 hx3 hok4 hr6 h => ?_
    replace h := h hx3 hok4 hr6
    replace hO1 := hO1.up hx3
    refine r_ic_ge x_241_41 (t := 48) (by decide +kernel) hv3 hr6 (fun hc => ?_) (fun hc => ?_)
    · replace h := h.2 hc
      refine r_iconst x_241_48 ?_
      exact r_retI x_241_49 rfl (g_Rk rfl) h
    · replace h := h.1 hc
      refine r_iload_n x_241_44 rfl ?_
      refine r_goto x_241_45 (t := 49) (by decide +kernel) ?_
      exact r_retI x_241_49 rfl hv3 h
  · replace h := h.1 hc
    refine r_iload_n x_241_14 rfl ?_
    refine r_aload_n x_241_15 rfl ?_
    refine r_iload_n x_241_16 rfl ?_
    obtain ⟨hO7, h⟩ := h
    refine r_invV x_241_17 (z := 238) (ns := 0) (by decide +kernel) (as := [g_n v1]) (r := [g_n v3]) rfl rfl rfl hO7 rfl rfl ?_
    refine r_callI h fun r11 M8 hx9 hok10 hr12 h => ?_
    replace h := h hx9 hok10 hr12
    replace hO7 := hO7.up hx9
    refine r_ic_ge x_241_20 (t := 35) (by decide +kernel) hv3 hr12 (fun hc => ?_) (fun hc => ?_)
    · replace h := h.2 hc
      refine r_iload_n x_241_35 rfl ?_
      refine r_aload_n x_241_36 rfl ?_
      refine r_iload_n x_241_37 rfl ?_
      refine r_invV x_241_38 (z := 238) (ns := 0) (by decide +kernel) (as := [g_n v1]) (r := [g_n v3]) rfl rfl rfl hO7 rfl rfl ?_
      refine r_callI h fun r16 M13 hx14 hok15 hr17 h => ?_
      replace h := h hx14 hok15 hr17
      replace hO7 := hO7.up hx14
      refine r_ic_ge x_241_41 (t := 48) (by decide +kernel) hv3 hr17 (fun hc => ?_) (fun hc => ?_)
      · replace h := h.2 hc
        refine r_iconst x_241_48 ?_
        exact r_retI x_241_49 rfl (g_Rk rfl) h
      · replace h := h.1 hc
        refine r_iload_n x_241_44 rfl ?_
        refine r_goto x_241_45 (t := 49) (by decide +kernel) ?_
        exact r_retI x_241_49 rfl hv3 h
    · replace h := h.1 hc
      refine r_aload_n x_241_23 rfl ?_
      refine r_iload_n x_241_24 rfl ?_
      refine r_invV x_241_25 (z := 235) (ns := 0) (by decide +kernel) (as := [g_n v3]) (r := []) rfl rfl rfl hO7 rfl rfl ?_
      refine r_callI h fun r21 M18 hx19 hok20 hr22 h => ?_
      replace h := h hx19 hok20 hr22
      replace hO7 := hO7.up hx19
      refine r_istore_n x_241_28 (by decide +kernel) rfl (lv1 := [(0, .ref a0), (1, g_n v1), (2, g_n v2), (3, g_n r21), (4, g_n v4)]) rfl ?_
      obtain ⟨h23, h⟩ := h
      refine r_iinc x_241_29 (by decide +kernel) rfl rfl (lv1 := [(0, .ref a0), (1, g_n v1), (2, g_n v2), (3, g_n r21), (4, g_n (v4 + 1))]) rfl ?_
      refine r_goto x_241_32 (t := 8) (by decide +kernel) ?_
      exact h
theorem m_X12_isNumber {d : Nat} {M : g_M} {Q : Int → g_M → Prop} {a0 : Nat} {v1 : Int} (hv1 : g_InR v1) (h : g_ok M → ((v1 = (-1) → Q 0 M) ∧ (¬ v1 = (-1) → g_O M a0 12 ∧ ∃ b2, g_r M a0 0 = some b2 ∧ ∃ n4, g_A M b2 0 n4 ∧ ((0 : Int) ≤ v1 ∧ (v1 : Int) < n4) ∧ ((g_i M b2 v1 = 16 → Q 1 M) ∧ (¬ g_i M b2 v1 = 16 → ∃ b7, g_r M a0 0 = some b7 ∧ ∃ n9, g_A M b7 0 n9 ∧ ((0 : Int) ≤ v1 ∧ (v1 : Int) < n9) ∧ ((g_i M b7 v1 = 18 → Q 1 M) ∧ (¬ g_i M b7 v1 = 18 → Q 0 M))))))) : g_Call (d + 1) 242 [.ref a0, g_n v1] M (g_qI Q) := by
  refine g_Call.ok fun hok0 => ?_
  replace h := h hok0
  refine r_body rfl (lv := [(0, .ref a0), (1, g_n v1)]) rfl ?_
  refine g_Run.ok fun hok => ?_
  refine r_iload_n x_242_0 rfl ?_
  refine r_iconst x_242_1 ?_
  refine r_ic_eq x_242_2 (t := 31) (by decide +kernel) hv1 (g_Rk rfl) (fun hc => ?_) (fun hc => ?_)
  · replace h := h.1 hc
    refine r_iconst x_242_31 ?_
    exact r_retZ x_242_32 rfl (Or.inl rfl) h
  · replace h := h.2 hc
    refine r_aload_n x_242_5 rfl ?_
    obtain ⟨hO1, h⟩ := h
    obtain ⟨b2, hb3, h⟩ := h
    refine r_getR x_242_6 rfl (ci := 12) (k := 0) (ns := 0) (by decide +kernel) (by decide) rfl (kz := 0) rfl hO1 hb3 ?_
    refine r_iload_n x_242_9 rfl ?_
    obtain ⟨n4, hA5, h⟩ := h
    obtain ⟨h6, h⟩ := h
    refine r_bald x_242_10 (Or.inl rfl) hA5 hv1 h6.1 h6.2 ?_
    refine r_bipush x_242_11 (x := 16) rfl ?_
    refine r_ic_eq x_242_13 (t := 27) (by decide +kernel) (hok.1 _ _) (g_Rk rfl) (fun hc => ?_) (fun hc => ?_)
    · replace h := h.1 hc
      refine r_iconst x_242_27 ?_
      refine r_goto x_242_28 (t := 32) (by decide +kernel) ?_
      exact r_retZ x_242_32 rfl (Or.inr rfl) h
    · replace h := h.2 hc
      refine r_aload_n x_242_16 rfl ?_
      obtain ⟨b7, hb8, h⟩ := h
      refine r_getR x_242_17 rfl (ci := 12) (k := 0) (ns := 0) (by decide +kernel) (by decide) rfl (kz := 0) rfl hO1 hb8 ?_
      refine r_iload_n x_242_20 rfl ?_
      obtain ⟨n9, hA10, h⟩ := h
      obtain ⟨h11, h⟩ := h
      refine r_bald x_242_21 (Or.inl rfl) hA10 hv1 h11.1 h11.2 ?_
      refine r_bipush x_242_22 (x := 18) rfl ?_
      refine r_ic_ne x_242_24 (t := 31) (by decide +kernel) (hok.1 _ _) (g_Rk rfl) (fun hc => ?_) (fun hc => ?_)
      · replace h := h.2 hc
        refine r_iconst x_242_31 ?_
        exact r_retZ x_242_32 rfl (Or.inl rfl) h
      · replace h := h.1 hc
        refine r_iconst x_242_27 ?_
        refine r_goto x_242_28 (t := 32) (by decide +kernel) ?_
        exact r_retZ x_242_32 rfl (Or.inr rfl) h
theorem m_X12_number {d : Nat} {M : g_M} {Q : Int64 → g_M → Prop} {a0 : Nat} {v1 : Int} (hv1 : g_InR v1) (h : g_ok M → g_O M a0 12 ∧ ∃ b2, g_r M a0 0 = some b2 ∧ ∃ n4, g_A M b2 0 n4 ∧ ((0 : Int) ≤ v1 ∧ (v1 : Int) < n4) ∧ ((g_i M b2 v1 = 16 → g_Call d 233 [.ref a0, g_n v1] M (g_qI fun r19 M16 => g_ext M M16 → g_ok M16 → g_InR r19 → g_Call d 227 [.ref a0, g_n r19] M16 (g_qI fun r24 M21 => g_ext M16 M21 → g_ok M21 → g_InR r24 → Q (Int64.ofInt r24) M21))) ∧ (¬ g_i M b2 v1 = 16 → g_Call d 233 [.ref a0, g_n v1] M (g_qI fun r10 M7 => g_ext M M7 → g_ok M7 → g_InR r10 → g_Call d 228 [.ref a0, g_n r10] M7 (g_qL fun R15 M12 => g_ext M7 M12 → g_ok M12 → Q R15 M12))))) : g_Call (d + 1) 243 [.ref a0, g_n v1] M (g_qL Q) := by
  refine g_Call.ok fun hok0 => ?_
  replace h := h hok0
  refine r_body rfl (lv := [(0, .ref a0), (1, g_n v1)]) rfl ?_
  refine g_Run.ok fun hok => ?_
  refine r_aload_n x_243_0 rfl ?_
  obtain ⟨hO1, h⟩ := h
  obtain ⟨b2, hb3, h⟩ := h
  refine r_getR x_243_1 rfl (ci := 12) (k := 0) (ns := 0) (by decide +kernel) (by decide) rfl (kz := 0) rfl hO1 hb3 ?_
  refine r_iload_n x_243_4 rfl ?_
  obtain ⟨n4, hA5, h⟩ := h
  obtain ⟨h6, h⟩ := h
  refine r_bald x_243_5 (Or.inl rfl) hA5 hv1 h6.1 h6.2 ?_
  refine r_bipush x_243_6 (x := 16) rfl ?_
  refine r_ic_ne x_243_8 (t := 24) (by decide +kernel) (hok.1 _ _) (g_Rk rfl) (fun hc => ?_) (fun hc => ?_)
  · replace h := h.2 hc
    refine r_aload_n x_243_24 rfl ?_
    refine r_aload_n x_243_25 rfl ?_
    refine r_iload_n x_243_26 rfl ?_
    refine r_invV x_243_27 (z := 233) (ns := 0) (by decide +kernel) (as := [g_n v1]) (r := [.ref a0]) rfl rfl rfl hO1 rfl rfl ?_
    refine r_callI h fun r10 M7 hx8 hok9 hr11 h => ?_
    replace h := h hx8 hok9 hr11
    replace hO1 := hO1.up hx8
    replace hA5 := hA5.up hx8
    refine r_invV x_243_30 (z := 228) (ns := 0) (by decide +kernel) (as := [g_n r10]) (r := []) rfl rfl rfl hO1 rfl rfl ?_
    refine r_callL h fun R15 M12 hx13 hok14 h => ?_
    replace h := h hx13 hok14
    replace hO1 := hO1.up hx13
    replace hA5 := hA5.up hx13
    exact r_retL x_243_33 rfl h
  · replace h := h.1 hc
    refine r_aload_n x_243_11 rfl ?_
    refine r_aload_n x_243_12 rfl ?_
    refine r_iload_n x_243_13 rfl ?_
    refine r_invV x_243_14 (z := 233) (ns := 0) (by decide +kernel) (as := [g_n v1]) (r := [.ref a0]) rfl rfl rfl hO1 rfl rfl ?_
    refine r_callI h fun r19 M16 hx17 hok18 hr20 h => ?_
    replace h := h hx17 hok18 hr20
    replace hO1 := hO1.up hx17
    replace hA5 := hA5.up hx17
    refine r_invV x_243_17 (z := 227) (ns := 0) (by decide +kernel) (as := [g_n r19]) (r := []) rfl rfl rfl hO1 rfl rfl ?_
    refine r_callI h fun r24 M21 hx22 hok23 hr25 h => ?_
    replace h := h hx22 hok23 hr25
    replace hO1 := hO1.up hx22
    replace hA5 := hA5.up hx22
    refine r_i2l x_243_20 hr25 ?_
    refine r_goto x_243_21 (t := 33) (by decide +kernel) ?_
    exact r_retL x_243_33 rfl h
theorem m_X12_depth {d : Nat} {M : g_M} {Q : Int → g_M → Prop} {a0 : Nat} {v1 : Int} (hv1 : g_InR v1) (h : g_ok M → g_Call d 237 [g_n v1] M (g_qI fun r4 M1 => g_ext M M1 → g_ok M1 → g_InR r4 → g_Run d 244 7 [(0, .ref a0), (1, g_n v1), (2, g_n 0), (3, g_n r4)] [] M1 (g_qI Q))) : g_Call (d + 1) 244 [.ref a0, g_n v1] M (g_qI Q) := by
  refine g_Call.ok fun hok0 => ?_
  replace h := h hok0
  refine r_body rfl (lv := [(0, .ref a0), (1, g_n v1)]) rfl ?_
  refine g_Run.ok fun hok => ?_
  refine r_iconst x_244_0 ?_
  refine r_istore_n x_244_1 (by decide +kernel) rfl (lv1 := [(0, .ref a0), (1, g_n v1), (2, g_n 0)]) rfl ?_
  refine r_iload_n x_244_2 rfl ?_
  refine r_invS x_244_3 (z := 237) (ns := 0) (by decide +kernel) (as := [g_n v1]) (r := []) rfl rfl rfl ?_
  refine r_callI h fun r4 M1 hx2 hok3 hr5 h => ?_
  replace h := h hx2 hok3 hr5
  refine r_istore_n x_244_6 (by decide +kernel) rfl (lv1 := [(0, .ref a0), (1, g_n v1), (2, g_n 0), (3, g_n r4)]) rfl ?_
  exact h
theorem s_X12_depth_7 {d : Nat} {M : g_M} {Q : Int → g_M → Prop} {a0 : Nat} {v1 : Int} (hv1 : g_InR v1) {v2 : Int} (hv2 : g_InR v2) {v3 : Int} (hv3 : g_InR v3) (h : g_ok M → g_O M a0 12 ∧ g_Call d 238 [.ref a0, g_n v1] M (g_qI fun r5 M2 => g_ext M M2 → g_ok M2 → g_InR r5 → ((v3 < r5 → ∃ b8, g_r M2 a0 0 = some b8 ∧ ∃ n10, g_A M2 b8 0 n10 ∧ ((0 : Int) ≤ v3 ∧ (v3 : Int) < n10) ∧ ((g_i M2 b8 v3 = 3 → g_Run d 244 39 [(0, .ref a0), (1, g_n v1), (2, g_n v2), (3, g_n v3)] [] M2 (g_qI Q)) ∧ (¬ g_i M2 b8 v3 = 3 → ∃ b13, g_r M2 a0 0 = some b13 ∧ ∃ n15, g_A M2 b13 0 n15 ∧ ((0 : Int) ≤ v3 ∧ (v3 : Int) < n15) ∧ ((g_i M2 b13 v3 = 4 → g_Run d 244 39 [(0, .ref a0), (1, g_n v1), (2, g_n v2), (3, g_n v3)] [] M2 (g_qI Q)) ∧ (¬ g_i M2 b13 v3 = 4 → g_Call d 235 [.ref a0, g_n v3] M2 (g_qI fun r21 M18 => g_ext M2 M18 → g_ok M18 → g_InR r21 → g_Run d 244 7 [(0, .ref a0), (1, g_n v1), (2, g_n v2), (3, g_n r21)] [] M18 (g_qI Q))))))) ∧ (¬ v3 < r5 → g_InR (v2 + 1) ∧ Q (v2 + 1) M2)))) : g_Run d 244 7 [(0, .ref a0), (1, g_n v1), (2, g_n v2), (3, g_n v3)] [] M (g_qI Q) := by
  refine g_Run.ok fun hok => ?_
  replace h := h hok
  refine r_iload_n x_244_7 rfl ?_
  refine r_aload_n x_244_8 rfl ?_
  refine r_iload_n x_244_9 rfl ?_
  obtain ⟨hO1, h⟩ := h
  refine r_invV x_244_10 (z := 238) (ns := 0) (by decide +kernel) (as := [g_n v1]) (r := [g_n v3]) rfl rfl rfl hO1 rfl rfl ?_
  refine r_callI h fun r5 M2 hx3 hok4 hr6 h => ?_
  replace h := h hx3 hok4 hr6
  replace hO1 := hO1.up hx3
  refine r_ic_ge x_244_13 (t := 72) (by decide +kernel) hv3 hr6 (fun hc => ?_) (fun hc => ?_)
  · replace h := h.2 hc
    refine r_iload_n x_244_72 rfl ?_
    refine r_iconst x_244_73 ?_
    refine r_iadd x_244_74 ?_
    obtain ⟨h7, h⟩ := h
    exact r_retI x_244_75 rfl h7 h
  · replace h := h.1 hc
    refine r_aload_n x_244_16 rfl ?_
    obtain ⟨b8, hb9, h⟩ := h
    refine r_getR x_244_17 rfl (ci := 12) (k := 0) (ns := 0) (by decide +kernel) (by decide) rfl (kz := 0) rfl hO1 hb9 ?_
    refine r_iload_n x_244_20 rfl ?_
    obtain ⟨n10, hA11, h⟩ := h
    obtain ⟨h12, h⟩ := h
    refine r_bald x_244_21 (Or.inl rfl) hA11 hv3 h12.1 h12.2 ?_
    refine r_iconst x_244_22 ?_
    refine r_ic_eq x_244_23 (t := 39) (by decide +kernel) (hok4.1 _ _) (g_Rk rfl) (fun hc => ?_) (fun hc => ?_)
    · replace h := h.1 hc
      exact h
    · replace h := h.2 hc
      refine r_aload_n x_244_26 rfl ?_
      obtain ⟨b13, hb14, h⟩ := h
      refine r_getR x_244_27 rfl (ci := 12) (k := 0) (ns := 0) (by decide +kernel) (by decide) rfl (kz := 0) rfl hO1 hb14 ?_
      refine r_iload_n x_244_30 rfl ?_
      obtain ⟨n15, hA16, h⟩ := h
      obtain ⟨h17, h⟩ := h
      refine r_bald x_244_31 (Or.inl rfl) hA16 hv3 h17.1 h17.2 ?_
      refine r_iconst x_244_32 ?_
      refine r_ic_eq x_244_33 (t := 39) (by decide +kernel) (hok4.1 _ _) (g_Rk rfl) (fun hc => ?_) (fun hc => ?_)
      · replace h := h.1 hc
        exact h
      · replace h := h.2 hc
        refine r_goto x_244_36 (t := 63) (by decide +kernel) ?_
        refine r_aload_n x_244_63 rfl ?_
        refine r_iload_n x_244_64 rfl ?_
        refine r_invV x_244_65 (z := 235) (ns := 0) (by decide +kernel) (as := [g_n v3]) (r := []) rfl rfl rfl hO1 rfl rfl ?_
        refine r_callI h fun r21 M18 hx19 hok20 hr22 h => ?_
        replace h := h hx19 hok20 hr22
        replace hO1 := hO1.up hx19
        replace hA11 := hA11.up hx19
        replace hA16 := hA16.up hx19
        refine r_istore_n x_244_68 (by decide +kernel) rfl (lv1 := [(0, .ref a0), (1, g_n v1), (2, g_n v2), (3, g_n r21)]) rfl ?_
        refine r_goto x_244_69 (t := 7) (by decide +kernel) ?_
        exact h
theorem s_X12_depth_39 {d : Nat} {M : g_M} {Q : Int → g_M → Prop} {a0 : Nat} {v1 : Int} (hv1 : g_InR v1) {v2 : Int} (hv2 : g_InR v2) {v3 : Int} (hv3 : g_InR v3) (h : g_ok M → g_O M a0 12 ∧ g_Call d 233 [.ref a0, g_n v3] M (g_qI fun r5 M2 => g_ext M M2 → g_ok M2 → g_InR r5 → g_Call d 244 [.ref a0, g_n r5] M2 (g_qI fun r10 M7 => g_ext M2 M7 → g_ok M7 → g_InR r10 → ((v2 < r10 → g_Call d 235 [.ref a0, g_n v3] M7 (g_qI fun r20 M17 => g_ext M7 M17 → g_ok M17 → g_InR r20 → g_Run d 244 7 [(0, .ref a0), (1, g_n v1), (2, g_n r10), (3, g_n r20)] [] M17 (g_qI Q))) ∧ (¬ v2 < r10 → g_Call d 235 [.ref a0, g_n v3] M7 (g_qI fun r15 M12 => g_ext M7 M12 → g_ok M12 → g_InR r15 → g_Run d 244 7 [(0, .ref a0), (1, g_n v1), (2, g_n v2), (3, g_n r15)] [] M12 (g_qI Q))))))) : g_Run d 244 39 [(0, .ref a0), (1, g_n v1), (2, g_n v2), (3, g_n v3)] [] M (g_qI Q) := by
  refine g_Run.ok fun hok => ?_
  replace h := h hok
  refine r_aload_n x_244_39 rfl ?_
  refine r_aload_n x_244_40 rfl ?_
  refine r_iload_n x_244_41 rfl ?_
  obtain ⟨hO1, h⟩ := h
  refine r_invV x_244_42 (z := 233) (ns := 0) (by decide +kernel) (as := [g_n v3]) (r := [.ref a0]) rfl rfl rfl hO1 rfl rfl ?_
  refine r_callI h fun r5 M2 hx3 hok4 hr6 h => ?_
  replace h := h hx3 hok4 hr6
  replace hO1 := hO1.up hx3
  refine r_invV x_244_45 (z := 244) (ns := 0) (by decide +kernel) (as := [g_n r5]) (r := []) rfl rfl rfl hO1 rfl rfl ?_
  refine r_callI h fun r10 M7 hx8 hok9 hr11 h => ?_
  replace h := h hx8 hok9 hr11
  replace hO1 := hO1.up hx8
  refine r_istore x_244_48 (by decide +kernel) rfl (lv1 := [(0, .ref a0), (1, g_n v1), (2, g_n v2), (3, g_n v3), (4, g_n r10)]) rfl ?_
  refine r_iload x_244_50 rfl ?_
  refine r_iload_n x_244_52 rfl ?_
  refine r_ic_le x_244_53 (t := 61) (by decide +kernel) hr11 hv2 (fun hc => ?_) (fun hc => ?_)
  · replace h := h.2 hc
    refine r_iload_n x_244_61 rfl ?_
    refine r_istore_n x_244_62 (by decide +kernel) rfl (lv1 := [(0, .ref a0), (1, g_n v1), (2, g_n v2), (3, g_n v3), (4, g_n r10)]) rfl ?_
    refine r_aload_n x_244_63 rfl ?_
    refine r_iload_n x_244_64 rfl ?_
    refine r_invV x_244_65 (z := 235) (ns := 0) (by decide +kernel) (as := [g_n v3]) (r := []) rfl rfl rfl hO1 rfl rfl ?_
    refine r_callI h fun r15 M12 hx13 hok14 hr16 h => ?_
    replace h := h hx13 hok14 hr16
    replace hO1 := hO1.up hx13
    refine r_istore_n x_244_68 (by decide +kernel) rfl (lv1 := [(0, .ref a0), (1, g_n v1), (2, g_n v2), (3, g_n r15), (4, g_n r10)]) rfl ?_
    refine r_goto x_244_69 (t := 7) (by decide +kernel) ?_
    refine g_drop [0, 1, 2, 3] (lv1 := [(0, .ref a0), (1, g_n v1), (2, g_n v2), (3, g_n r15)]) rfl ?_
    exact h
  · replace h := h.1 hc
    refine r_iload x_244_56 rfl ?_
    refine r_goto x_244_58 (t := 62) (by decide +kernel) ?_
    refine r_istore_n x_244_62 (by decide +kernel) rfl (lv1 := [(0, .ref a0), (1, g_n v1), (2, g_n r10), (3, g_n v3), (4, g_n r10)]) rfl ?_
    refine r_aload_n x_244_63 rfl ?_
    refine r_iload_n x_244_64 rfl ?_
    refine r_invV x_244_65 (z := 235) (ns := 0) (by decide +kernel) (as := [g_n v3]) (r := []) rfl rfl rfl hO1 rfl rfl ?_
    refine r_callI h fun r20 M17 hx18 hok19 hr21 h => ?_
    replace h := h hx18 hok19 hr21
    replace hO1 := hO1.up hx18
    refine r_istore_n x_244_68 (by decide +kernel) rfl (lv1 := [(0, .ref a0), (1, g_n v1), (2, g_n r10), (3, g_n r20), (4, g_n r10)]) rfl ?_
    refine r_goto x_244_69 (t := 7) (by decide +kernel) ?_
    refine g_drop [0, 1, 2, 3] (lv1 := [(0, .ref a0), (1, g_n v1), (2, g_n r10), (3, g_n r20)]) rfl ?_
    exact h
theorem m_X12_write {d : Nat} {M : g_M} {Q : g_M → Prop} {a0 : Nat} {v1 : Int} (hv1 : g_InR v1) {v2 : Int} (hv2 : g_InR v2) (h : g_ok M → g_O M a0 12 ∧ (∀ M2, M2 = g_wi M a0 4 v1 → g_ok M2 → (∀ M6, M6 = g_wi M2 a0 5 v2 → g_ok M6 → (∀ M10, M10 = g_wi M6 a0 6 0 → g_ok M10 → Q M10)))) : g_Call (d + 1) 245 [.ref a0, g_n v1, g_n v2] M (g_qV Q) := by
  refine g_Call.ok fun hok0 => ?_
  replace h := h hok0
  refine r_body rfl (lv := [(0, .ref a0), (1, g_n v1), (2, g_n v2)]) rfl ?_
  refine g_Run.ok fun hok => ?_
  refine r_aload_n x_245_0 rfl ?_
  refine r_iload_n x_245_1 rfl ?_
  obtain ⟨hO1, h⟩ := h
  refine r_putI x_245_2 (ci := 12) (k := 4) (ns := 0) (by decide +kernel) (by decide) (g_f0 (by decide +kernel)) rfl hv1 trivial (kz := 4) rfl hO1 ?_
  obtain ⟨M2, hM3⟩ : ∃ Mz, Mz = g_wi M a0 4 v1 := ⟨_, rfl⟩
  rw [← hM3]
  refine g_Run.ok fun hok4 => ?_
  replace h := h M2 hM3 hok4
  have hx5 := g_extW hM3
  replace hO1 := hO1.up hx5
  refine r_aload_n x_245_5 rfl ?_
  refine r_iload_n x_245_6 rfl ?_
  refine r_putI x_245_7 (ci := 12) (k := 5) (ns := 0) (by decide +kernel) (by decide) (g_f0 (by decide +kernel)) rfl hv2 trivial (kz := 5) rfl hO1 ?_
  obtain ⟨M6, hM7⟩ : ∃ Mz, Mz = g_wi M2 a0 5 v2 := ⟨_, rfl⟩
  rw [← hM7]
  refine g_Run.ok fun hok8 => ?_
  replace h := h M6 hM7 hok8
  have hx9 := g_extW hM7
  replace hO1 := hO1.up hx9
  refine r_aload_n x_245_10 rfl ?_
  refine r_iconst x_245_11 ?_
  refine r_putI x_245_12 (ci := 12) (k := 6) (ns := 0) (by decide +kernel) (by decide) (g_fZ (Or.inl rfl) (by decide +kernel)) rfl (g_Rk rfl) (g_zx (Or.inl rfl) rfl).2 (kz := 6) rfl hO1 ?_
  obtain ⟨M10, hM11⟩ : ∃ Mz, Mz = g_wi M6 a0 6 0 := ⟨_, rfl⟩
  rw [← hM11]
  refine g_Run.ok fun hok12 => ?_
  replace h := h M10 hM11 hok12
  have hx13 := g_extW hM11
  replace hO1 := hO1.up hx13
  exact r_retV x_245_15 rfl h
theorem m_X12_put {d : Nat} {M : g_M} {Q : g_M → Prop} {a0 : Nat} {v1 : Int} (hv1 : g_InR v1) (h : g_ok M → g_O M a0 12 ∧ ((g_i M a0 4 < g_i M a0 5 → ∃ b6, g_r M a0 0 = some b6 ∧ ∃ n8, g_A M b6 0 n8 ∧ ((0 : Int) ≤ g_i M a0 4 ∧ (g_i M a0 4 : Int) < n8) ∧ (∀ M11, M11 = g_wi M b6 (g_i M a0 4) (g_w8 (g_w8 v1)) → g_ok M11 → g_InR ((g_i M11 a0 4) + 1) ∧ (∀ M16, M16 = g_wi M11 a0 4 ((g_i M11 a0 4) + 1) → g_ok M16 → Q M16))) ∧ (¬ g_i M a0 4 < g_i M a0 5 → (∀ M2, M2 = g_wi M a0 6 1 → g_ok M2 → Q M2)))) : g_Call (d + 1) 246 [.ref a0, g_n v1] M (g_qV Q) := by
  refine g_Call.ok fun hok0 => ?_
  replace h := h hok0
  refine r_body rfl (lv := [(0, .ref a0), (1, g_n v1)]) rfl ?_
  refine g_Run.ok fun hok => ?_
  refine r_aload_n x_246_0 rfl ?_
  obtain ⟨hO1, h⟩ := h
  refine r_getI x_246_1 rfl (ci := 12) (k := 4) (ns := 0) (by decide +kernel) (by decide) rfl (kz := 4) rfl hO1 ?_
  refine r_aload_n x_246_4 rfl ?_
  refine r_getI x_246_5 rfl (ci := 12) (k := 5) (ns := 0) (by decide +kernel) (by decide) rfl (kz := 5) rfl hO1 ?_
  refine r_ic_ge x_246_8 (t := 35) (by decide +kernel) (hok.1 _ _) (hok.1 _ _) (fun hc => ?_) (fun hc => ?_)
  · replace h := h.2 hc
    refine r_aload_n x_246_35 rfl ?_
    refine r_iconst x_246_36 ?_
    refine r_putI x_246_37 (ci := 12) (k := 6) (ns := 0) (by decide +kernel) (by decide) (g_fZ (Or.inr rfl) (by decide +kernel)) rfl (g_Rk rfl) (g_zx (Or.inr rfl) rfl).2 (kz := 6) rfl hO1 ?_
    obtain ⟨M2, hM3⟩ : ∃ Mz, Mz = g_wi M a0 6 1 := ⟨_, rfl⟩
    rw [← hM3]
    refine g_Run.ok fun hok4 => ?_
    replace h := h M2 hM3 hok4
    have hx5 := g_extW hM3
    replace hO1 := hO1.up hx5
    exact r_retV x_246_40 rfl h
  · replace h := h.1 hc
    refine r_aload_n x_246_11 rfl ?_
    obtain ⟨b6, hb7, h⟩ := h
    refine r_getR x_246_12 rfl (ci := 12) (k := 0) (ns := 0) (by decide +kernel) (by decide) rfl (kz := 0) rfl hO1 hb7 ?_
    refine r_aload_n x_246_15 rfl ?_
    refine r_getI x_246_16 rfl (ci := 12) (k := 4) (ns := 0) (by decide +kernel) (by decide) rfl (kz := 4) rfl hO1 ?_
    refine r_iload_n x_246_19 rfl ?_
    refine r_i2b x_246_20 ?_
    obtain ⟨n8, hA9, h⟩ := h
    obtain ⟨h10, h⟩ := h
    refine r_bast0 x_246_21 hA9 (hok.1 _ _) h10.1 h10.2 ?_
    obtain ⟨M11, hM12⟩ : ∃ Mz, Mz = g_wi M b6 (g_i M a0 4) (g_w8 (g_w8 v1)) := ⟨_, rfl⟩
    rw [← hM12]
    refine g_Run.ok fun hok13 => ?_
    replace h := h M11 hM12 hok13
    have hx14 := g_extW hM12
    replace hO1 := hO1.up hx14
    replace hA9 := hA9.up hx14
    refine r_aload_n x_246_22 rfl ?_
    refine r_dup x_246_23 rfl ?_
    refine r_getI x_246_24 rfl (ci := 12) (k := 4) (ns := 0) (by decide +kernel) (by decide) rfl (kz := 4) rfl hO1 ?_
    refine r_iconst x_246_27 ?_
    refine r_iadd x_246_28 ?_
    obtain ⟨h15, h⟩ := h
    refine r_putI x_246_29 (ci := 12) (k := 4) (ns := 0) (by decide +kernel) (by decide) (g_f0 (by decide +kernel)) rfl h15 trivial (kz := 4) rfl hO1 ?_
    obtain ⟨M16, hM17⟩ : ∃ Mz, Mz = g_wi M11 a0 4 ((g_i M11 a0 4) + 1) := ⟨_, rfl⟩
    rw [← hM17]
    refine g_Run.ok fun hok18 => ?_
    replace h := h M16 hM17 hok18
    have hx19 := g_extW hM17
    replace hO1 := hO1.up hx19
    replace hA9 := hA9.up hx19
    refine r_goto x_246_32 (t := 40) (by decide +kernel) ?_
    exact r_retV x_246_40 rfl h
theorem m_X12_putInt {d : Nat} {M : g_M} {Q : g_M → Prop} {a0 : Nat} {v1 : Int} (hv1 : g_InR v1) (h : g_ok M → g_Run d 247 2 [(0, .ref a0), (1, g_n v1), (2, g_n 0)] [] M (g_qV Q)) : g_Call (d + 1) 247 [.ref a0, g_n v1] M (g_qV Q) := by
  refine g_Call.ok fun hok0 => ?_
  replace h := h hok0
  refine r_body rfl (lv := [(0, .ref a0), (1, g_n v1)]) rfl ?_
  refine g_Run.ok fun hok => ?_
  refine r_iconst x_247_0 ?_
  refine r_istore_n x_247_1 (by decide +kernel) rfl (lv1 := [(0, .ref a0), (1, g_n v1), (2, g_n 0)]) rfl ?_
  exact h
theorem s_X12_putInt_2 {d : Nat} {M : g_M} {Q : g_M → Prop} {a0 : Nat} {v1 : Int} (hv1 : g_InR v1) {v2 : Int} (hv2 : g_InR v2) (h : g_ok M → ((v2 < 4 → g_InR (8 * v2) ∧ g_O M a0 12 ∧ g_Call d 246 [.ref a0, g_n (g_shr v1 (8 * v2))] M (g_qV fun M3 => g_ext M M3 → g_ok M3 → g_InR (v2 + 1) ∧ g_Run d 247 2 [(0, .ref a0), (1, g_n v1), (2, g_n (v2 + 1))] [] M3 (g_qV Q))) ∧ (¬ v2 < 4 → Q M))) : g_Run d 247 2 [(0, .ref a0), (1, g_n v1), (2, g_n v2)] [] M (g_qV Q) := by
  refine g_Run.ok fun hok => ?_
  replace h := h hok
  refine r_iload_n x_247_2 rfl ?_
  refine r_iconst x_247_3 ?_
  refine r_ic_ge x_247_4 (t := 23) (by decide +kernel) hv2 (g_Rk rfl) (fun hc => ?_) (fun hc => ?_)
  · replace h := h.2 hc
    exact r_retV x_247_23 rfl h
  · replace h := h.1 hc
    refine r_aload_n x_247_7 rfl ?_
    refine r_iload_n x_247_8 rfl ?_
    refine r_bipush x_247_9 (x := 8) rfl ?_
    refine r_iload_n x_247_11 rfl ?_
    refine r_imul x_247_12 ?_
    obtain ⟨h1, h⟩ := h
    refine r_ishr x_247_13 ?_
    obtain ⟨hO2, h⟩ := h
    refine r_invV x_247_14 (z := 246) (ns := 0) (by decide +kernel) (as := [g_n (g_shr v1 (8 * v2))]) (r := []) rfl rfl rfl hO2 rfl rfl ?_
    refine r_callV h fun M3 hx4 hok5 h => ?_
    replace h := h hx4 hok5
    replace hO2 := hO2.up hx4
    obtain ⟨h6, h⟩ := h
    refine r_iinc x_247_17 (by decide +kernel) rfl rfl (lv1 := [(0, .ref a0), (1, g_n v1), (2, g_n (v2 + 1))]) rfl ?_
    refine r_goto x_247_20 (t := 2) (by decide +kernel) ?_
    exact h
theorem m_X12_putBytes {d : Nat} {M : g_M} {Q : g_M → Prop} {a0 : Nat} {v1 : Int} (hv1 : g_InR v1) {v2 : Int} (hv2 : g_InR v2) (h : g_ok M → g_Run d 248 2 [(0, .ref a0), (1, g_n v1), (2, g_n v2), (3, g_n v1)] [] M (g_qV Q)) : g_Call (d + 1) 248 [.ref a0, g_n v1, g_n v2] M (g_qV Q) := by
  refine g_Call.ok fun hok0 => ?_
  replace h := h hok0
  refine r_body rfl (lv := [(0, .ref a0), (1, g_n v1), (2, g_n v2)]) rfl ?_
  refine g_Run.ok fun hok => ?_
  refine r_iload_n x_248_0 rfl ?_
  refine r_istore_n x_248_1 (by decide +kernel) rfl (lv1 := [(0, .ref a0), (1, g_n v1), (2, g_n v2), (3, g_n v1)]) rfl ?_
  exact h
theorem s_X12_putBytes_2 {d : Nat} {M : g_M} {Q : g_M → Prop} {a0 : Nat} {v1 : Int} (hv1 : g_InR v1) {v2 : Int} (hv2 : g_InR v2) {v3 : Int} (hv3 : g_InR v3) (h : g_ok M → ((v3 < v2 → g_O M a0 12 ∧ ∃ b2, g_r M a0 0 = some b2 ∧ ∃ n4, g_A M b2 0 n4 ∧ ((0 : Int) ≤ v3 ∧ (v3 : Int) < n4) ∧ g_Call d 246 [.ref a0, g_n (g_i M b2 v3)] M (g_qV fun M7 => g_ext M M7 → g_ok M7 → g_InR (v3 + 1) ∧ g_Run d 248 2 [(0, .ref a0), (1, g_n v1), (2, g_n v2), (3, g_n (v3 + 1))] [] M7 (g_qV Q))) ∧ (¬ v3 < v2 → Q M))) : g_Run d 248 2 [(0, .ref a0), (1, g_n v1), (2, g_n v2), (3, g_n v3)] [] M (g_qV Q) := by
  refine g_Run.ok fun hok => ?_
  replace h := h hok
  refine r_iload_n x_248_2 rfl ?_
  refine r_iload_n x_248_3 rfl ?_
  refine r_ic_ge x_248_4 (t := 23) (by decide +kernel) hv3 hv2 (fun hc => ?_) (fun hc => ?_)
  · replace h := h.2 hc
    exact r_retV x_248_23 rfl h
  · replace h := h.1 hc
    refine r_aload_n x_248_7 rfl ?_
    refine r_aload_n x_248_8 rfl ?_
    obtain ⟨hO1, h⟩ := h
    obtain ⟨b2, hb3, h⟩ := h
    refine r_getR x_248_9 rfl (ci := 12) (k := 0) (ns := 0) (by decide +kernel) (by decide) rfl (kz := 0) rfl hO1 hb3 ?_
    refine r_iload_n x_248_12 rfl ?_
    obtain ⟨n4, hA5, h⟩ := h
    obtain ⟨h6, h⟩ := h
    refine r_bald x_248_13 (Or.inl rfl) hA5 hv3 h6.1 h6.2 ?_
    refine r_invV x_248_14 (z := 246) (ns := 0) (by decide +kernel) (as := [g_n (g_i M b2 v3)]) (r := []) rfl rfl rfl hO1 rfl rfl ?_
    refine r_callV h fun M7 hx8 hok9 h => ?_
    replace h := h hx8 hok9
    replace hO1 := hO1.up hx8
    replace hA5 := hA5.up hx8
    obtain ⟨h10, h⟩ := h
    refine r_iinc x_248_17 (by decide +kernel) rfl rfl (lv1 := [(0, .ref a0), (1, g_n v1), (2, g_n v2), (3, g_n (v3 + 1))]) rfl ?_
    refine r_goto x_248_20 (t := 2) (by decide +kernel) ?_
    exact h
theorem m_X12_putWord {d : Nat} {M : g_M} {Q : g_M → Prop} {a0 : Nat} {j1 : Nat} (hj1 : j1 < q_nS) (h : g_ok M → g_Run d 249 2 [(0, .ref a0), (1, .ref (4 * j1 + 1)), (2, g_n 0)] [] M (g_qV Q)) : g_Call (d + 1) 249 [.ref a0, .ref (4 * j1 + 1)] M (g_qV Q) := by
  refine g_Call.ok fun hok0 => ?_
  replace h := h hok0
  refine r_body rfl (lv := [(0, .ref a0), (1, .ref (4 * j1 + 1))]) rfl ?_
  refine g_Run.ok fun hok => ?_
  refine r_iconst x_249_0 ?_
  refine r_istore_n x_249_1 (by decide +kernel) rfl (lv1 := [(0, .ref a0), (1, .ref (4 * j1 + 1)), (2, g_n 0)]) rfl ?_
  exact h
theorem s_X12_putWord_2 {d : Nat} {M : g_M} {Q : g_M → Prop} {a0 : Nat} {j1 : Nat} (hj1 : j1 < q_nS) {v2 : Int} (hv2 : g_InR v2) (h : g_ok M → g_Call d 433 [.ref (4 * j1 + 1)] M (g_qI fun r4 M1 => g_ext M M1 → g_ok M1 → g_InR r4 → ((v2 < r4 → g_Call d 434 [.ref (4 * j1 + 1), g_n v2] M1 (g_qI fun r13 M10 => g_ext M1 M10 → g_ok M10 → g_InR r13 → g_O M10 a0 12 ∧ g_Call d 246 [.ref a0, g_n r13] M10 (g_qV fun M16 => g_ext M10 M16 → g_ok M16 → g_InR (v2 + 1) ∧ g_Run d 249 2 [(0, .ref a0), (1, .ref (4 * j1 + 1)), (2, g_n (v2 + 1))] [] M16 (g_qV Q)))) ∧ (¬ v2 < r4 → g_O M1 a0 12 ∧ g_Call d 246 [.ref a0, g_n 0] M1 (g_qV fun M7 => g_ext M1 M7 → g_ok M7 → Q M7))))) : g_Run d 249 2 [(0, .ref a0), (1, .ref (4 * j1 + 1)), (2, g_n v2)] [] M (g_qV Q) := by
  refine g_Run.ok fun hok => ?_
  replace h := h hok
  refine r_iload_n x_249_2 rfl ?_
  refine r_aload_n x_249_3 rfl ?_
  refine r_invT x_249_4 (z := 433) (ns := 0) (by decide +kernel) (as := []) (r := [g_n v2]) rfl rfl hj1 rfl rfl ?_
  refine r_callI h fun r4 M1 hx2 hok3 hr5 h => ?_
  replace h := h hx2 hok3 hr5
  refine r_ic_ge x_249_7 (t := 25) (by decide +kernel) hv2 hr5 (fun hc => ?_) (fun hc => ?_)
  · replace h := h.2 hc
    refine r_aload_n x_249_25 rfl ?_
    refine r_iconst x_249_26 ?_
    obtain ⟨hO6, h⟩ := h
    refine r_invV x_249_27 (z := 246) (ns := 0) (by decide +kernel) (as := [g_n 0]) (r := []) rfl rfl rfl hO6 rfl rfl ?_
    refine r_callV h fun M7 hx8 hok9 h => ?_
    replace h := h hx8 hok9
    replace hO6 := hO6.up hx8
    exact r_retV x_249_30 rfl h
  · replace h := h.1 hc
    refine r_aload_n x_249_10 rfl ?_
    refine r_aload_n x_249_11 rfl ?_
    refine r_iload_n x_249_12 rfl ?_
    refine r_invT x_249_13 (z := 434) (ns := 0) (by decide +kernel) (as := [g_n v2]) (r := [.ref a0]) rfl rfl hj1 rfl rfl ?_
    refine r_callI h fun r13 M10 hx11 hok12 hr14 h => ?_
    replace h := h hx11 hok12 hr14
    obtain ⟨hO15, h⟩ := h
    refine r_invV x_249_16 (z := 246) (ns := 0) (by decide +kernel) (as := [g_n r13]) (r := []) rfl rfl rfl hO15 rfl rfl ?_
    refine r_callV h fun M16 hx17 hok18 h => ?_
    replace h := h hx17 hok18
    replace hO15 := hO15.up hx17
    obtain ⟨h19, h⟩ := h
    refine r_iinc x_249_19 (by decide +kernel) rfl rfl (lv1 := [(0, .ref a0), (1, .ref (4 * j1 + 1)), (2, g_n (v2 + 1))]) rfl ?_
    refine r_goto x_249_22 (t := 2) (by decide +kernel) ?_
    exact h
theorem m_X12_putDigits {d : Nat} {M : g_M} {Q : g_M → Prop} {a0 : Nat} {v1 : Int} (hv1 : g_InR v1) (h : g_ok M → g_Run d 250 2 [(0, .ref a0), (1, g_n v1), (2, g_n 1)] [] M (g_qV Q)) : g_Call (d + 1) 250 [.ref a0, g_n v1] M (g_qV Q) := by
  refine g_Call.ok fun hok0 => ?_
  replace h := h hok0
  refine r_body rfl (lv := [(0, .ref a0), (1, g_n v1)]) rfl ?_
  refine g_Run.ok fun hok => ?_
  refine r_iconst x_250_0 ?_
  refine r_istore_n x_250_1 (by decide +kernel) rfl (lv1 := [(0, .ref a0), (1, g_n v1), (2, g_n 1)]) rfl ?_
  exact h
theorem s_X12_putDigits_2 {d : Nat} {M : g_M} {Q : g_M → Prop} {a0 : Nat} {v1 : Int} (hv1 : g_InR v1) {v2 : Int} (hv2 : g_InR v2) (h : g_ok M → (0 : Int) < v2 ∧ ((9 < v1.tdiv v2 → g_InR (v2 * 10) ∧ g_Run d 250 2 [(0, .ref a0), (1, g_n v1), (2, g_n (v2 * 10))] [] M (g_qV Q)) ∧ (¬ 9 < v1.tdiv v2 → g_Run d 250 18 [(0, .ref a0), (1, g_n v1), (2, g_n v2)] [] M (g_qV Q)))) : g_Run d 250 2 [(0, .ref a0), (1, g_n v1), (2, g_n v2)] [] M (g_qV Q) := by
  refine g_Run.ok fun hok => ?_
  replace h := h hok
  refine r_iload_n x_250_2 rfl ?_
  refine r_iload_n x_250_3 rfl ?_
  obtain ⟨h1, h⟩ := h
  refine r_idiv x_250_4 hv1 hv2 h1 ?_
  refine r_bipush x_250_5 (x := 9) rfl ?_
  refine r_ic_le x_250_7 (t := 18) (by decide +kernel) (g_tdiv_R hv1 h1) (g_Rk rfl) (fun hc => ?_) (fun hc => ?_)
  · replace h := h.2 hc
    exact h
  · replace h := h.1 hc
    refine r_iload_n x_250_10 rfl ?_
    refine r_bipush x_250_11 (x := 10) rfl ?_
    refine r_imul x_250_13 ?_
    obtain ⟨h2, h⟩ := h
    refine r_istore_n x_250_14 (by decide +kernel) rfl (lv1 := [(0, .ref a0), (1, g_n v1), (2, g_n (v2 * 10))]) rfl ?_
    refine r_goto x_250_15 (t := 2) (by decide +kernel) ?_
    exact h
theorem s_X12_putDigits_18 {d : Nat} {M : g_M} {Q : g_M → Prop} {a0 : Nat} {v1 : Int} (hv1 : g_InR v1) {v2 : Int} (hv2 : g_InR v2) (h : g_ok M → ((0 < v2 → (0 : Int) < v2 ∧ g_InR (48 + ((v1.tdiv v2).tmod 10)) ∧ g_O M a0 12 ∧ g_Call d 246 [.ref a0, g_n (48 + ((v1.tdiv v2).tmod 10))] M (g_qV fun M8 => g_ext M M8 → g_ok M8 → g_Run d 250 18 [(0, .ref a0), (1, g_n v1), (2, g_n (v2.tdiv 10))] [] M8 (g_qV Q))) ∧ (¬ 0 < v2 → g_O M a0 12 ∧ g_Call d 246 [.ref a0, g_n 0] M (g_qV fun M2 => g_ext M M2 → g_ok M2 → Q M2)))) : g_Run d 250 18 [(0, .ref a0), (1, g_n v1), (2, g_n v2)] [] M (g_qV Q) := by
  refine g_Run.ok fun hok => ?_
  replace h := h hok
  refine r_iload_n x_250_18 rfl ?_
  refine r_if_le x_250_19 (t := 43) (by decide +kernel) hv2 (fun hc => ?_) (fun hc => ?_)
  · replace h := h.2 hc
    refine r_aload_n x_250_43 rfl ?_
    refine r_iconst x_250_44 ?_
    obtain ⟨hO1, h⟩ := h
    refine r_invV x_250_45 (z := 246) (ns := 0) (by decide +kernel) (as := [g_n 0]) (r := []) rfl rfl rfl hO1 rfl rfl ?_
    refine r_callV h fun M2 hx3 hok4 h => ?_
    replace h := h hx3 hok4
    replace hO1 := hO1.up hx3
    exact r_retV x_250_48 rfl h
  · replace h := h.1 hc
    refine r_aload_n x_250_22 rfl ?_
    refine r_bipush x_250_23 (x := 48) rfl ?_
    refine r_iload_n x_250_25 rfl ?_
    refine r_iload_n x_250_26 rfl ?_
    obtain ⟨h5, h⟩ := h
    refine r_idiv x_250_27 hv1 hv2 h5 ?_
    refine r_bipush x_250_28 (x := 10) rfl ?_
    refine r_irem x_250_30 (g_tdiv_R hv1 h5) (g_Rk rfl) (by decide) ?_
    refine r_iadd x_250_31 ?_
    obtain ⟨h6, h⟩ := h
    obtain ⟨hO7, h⟩ := h
    refine r_invV x_250_32 (z := 246) (ns := 0) (by decide +kernel) (as := [g_n (48 + ((v1.tdiv v2).tmod 10))]) (r := []) rfl rfl rfl hO7 rfl rfl ?_
    refine r_callV h fun M8 hx9 hok10 h => ?_
    replace h := h hx9 hok10
    replace hO7 := hO7.up hx9
    refine r_iload_n x_250_35 rfl ?_
    refine r_bipush x_250_36 (x := 10) rfl ?_
    refine r_idiv x_250_38 hv2 (g_Rk rfl) (by decide) ?_
    refine r_istore_n x_250_39 (by decide +kernel) rfl (lv1 := [(0, .ref a0), (1, g_n v1), (2, g_n (v2.tdiv 10))]) rfl ?_
    refine r_goto x_250_40 (t := 18) (by decide +kernel) ?_
    exact h
theorem m_X12_open {d : Nat} {M : g_M} {Q : Int → g_M → Prop} {a0 : Nat} (h : g_ok M → g_O M a0 12 ∧ g_Call d 247 [.ref a0, g_n 0] M (g_qV fun M2 => g_ext M M2 → g_ok M2 → Q (g_i M a0 4) M2)) : g_Call (d + 1) 251 [.ref a0] M (g_qI Q) := by
  refine g_Call.ok fun hok0 => ?_
  replace h := h hok0
  refine r_body rfl (lv := [(0, .ref a0)]) rfl ?_
  refine g_Run.ok fun hok => ?_
  refine r_aload_n x_251_0 rfl ?_
  obtain ⟨hO1, h⟩ := h
  refine r_getI x_251_1 rfl (ci := 12) (k := 4) (ns := 0) (by decide +kernel) (by decide) rfl (kz := 4) rfl hO1 ?_
  refine r_istore_n x_251_4 (by decide +kernel) rfl (lv1 := [(0, .ref a0), (1, g_n (g_i M a0 4))]) rfl ?_
  refine r_aload_n x_251_5 rfl ?_
  refine r_iconst x_251_6 ?_
  refine r_invV x_251_7 (z := 247) (ns := 0) (by decide +kernel) (as := [g_n 0]) (r := []) rfl rfl rfl hO1 rfl rfl ?_
  refine r_callV h fun M2 hx3 hok4 h => ?_
  replace h := h hx3 hok4
  replace hO1 := hO1.up hx3
  refine r_iload_n x_251_10 rfl ?_
  exact r_retI x_251_11 rfl (hok.1 _ _) h
theorem m_X12_close {d : Nat} {M : g_M} {Q : g_M → Prop} {a0 : Nat} {v1 : Int} (hv1 : g_InR v1) (h : g_ok M → g_O M a0 12 ∧ g_Call d 246 [.ref a0, g_n 0] M (g_qV fun M2 => g_ext M M2 → g_ok M2 → ((g_i M2 a0 6 = 0 → g_InR ((g_i M2 a0 4) - v1) ∧ g_Call d 229 [.ref a0, g_n v1, g_n ((g_i M2 a0 4) - v1)] M2 (g_qV fun M6 => g_ext M2 M6 → g_ok M6 → Q M6)) ∧ (¬ g_i M2 a0 6 = 0 → Q M2)))) : g_Call (d + 1) 252 [.ref a0, g_n v1] M (g_qV Q) := by
  refine g_Call.ok fun hok0 => ?_
  replace h := h hok0
  refine r_body rfl (lv := [(0, .ref a0), (1, g_n v1)]) rfl ?_
  refine g_Run.ok fun hok => ?_
  refine r_aload_n x_252_0 rfl ?_
  refine r_iconst x_252_1 ?_
  obtain ⟨hO1, h⟩ := h
  refine r_invV x_252_2 (z := 246) (ns := 0) (by decide +kernel) (as := [g_n 0]) (r := []) rfl rfl rfl hO1 rfl rfl ?_
  refine r_callV h fun M2 hx3 hok4 h => ?_
  replace h := h hx3 hok4
  replace hO1 := hO1.up hx3
  refine r_aload_n x_252_5 rfl ?_
  refine r_getI x_252_6 rfl (ci := 12) (k := 6) (ns := 0) (by decide +kernel) (by decide) rfl (kz := 6) rfl hO1 ?_
  refine r_if_ne x_252_9 (t := 23) (by decide +kernel) (hok4.1 _ _) (fun hc => ?_) (fun hc => ?_)
  · replace h := h.2 hc
    exact r_retV x_252_23 rfl h
  · replace h := h.1 hc
    refine r_aload_n x_252_12 rfl ?_
    refine r_iload_n x_252_13 rfl ?_
    refine r_aload_n x_252_14 rfl ?_
    refine r_getI x_252_15 rfl (ci := 12) (k := 4) (ns := 0) (by decide +kernel) (by decide) rfl (kz := 4) rfl hO1 ?_
    refine r_iload_n x_252_18 rfl ?_
    refine r_isub x_252_19 ?_
    obtain ⟨h5, h⟩ := h
    refine r_invV x_252_20 (z := 229) (ns := 0) (by decide +kernel) (as := [g_n v1, g_n ((g_i M2 a0 4) - v1)]) (r := []) rfl rfl rfl hO1 rfl rfl ?_
    refine r_callV h fun M6 hx7 hok8 h => ?_
    replace h := h hx7 hok8
    replace hO1 := hO1.up hx7
    exact r_retV x_252_23 rfl h
theorem m_X12_putValue {d : Nat} {M : g_M} {Q : g_M → Prop} {a0 : Nat} {v1 : Int} (hv1 : g_InR v1) (h : g_ok M → g_O M a0 12 ∧ g_Call d 233 [.ref a0, g_n v1] M (g_qI fun r5 M2 => g_ext M M2 → g_ok M2 → g_InR r5 → ∃ b7, g_r M2 a0 0 = some b7 ∧ ∃ n9, g_A M2 b7 0 n9 ∧ ((0 : Int) ≤ v1 ∧ (v1 : Int) < n9) ∧ g_Call d 234 [.ref a0, g_n (g_i M2 b7 v1), g_n r5] M2 (g_qI fun r15 M12 => g_ext M2 M12 → g_ok M12 → g_InR r15 → g_InR (r5 + r15) ∧ g_Call d 248 [.ref a0, g_n r5, g_n (r5 + r15)] M12 (g_qV fun M18 => g_ext M12 M18 → g_ok M18 → Q M18)))) : g_Call (d + 1) 253 [.ref a0, g_n v1] M (g_qV Q) := by
  refine g_Call.ok fun hok0 => ?_
  replace h := h hok0
  refine r_body rfl (lv := [(0, .ref a0), (1, g_n v1)]) rfl ?_
  refine g_Run.ok fun hok => ?_
  refine r_aload_n x_253_0 rfl ?_
  refine r_iload_n x_253_1 rfl ?_
  obtain ⟨hO1, h⟩ := h
  refine r_invV x_253_2 (z := 233) (ns := 0) (by decide +kernel) (as := [g_n v1]) (r := []) rfl rfl rfl hO1 rfl rfl ?_
  refine r_callI h fun r5 M2 hx3 hok4 hr6 h => ?_
  replace h := h hx3 hok4 hr6
  replace hO1 := hO1.up hx3
  refine r_istore_n x_253_5 (by decide +kernel) rfl (lv1 := [(0, .ref a0), (1, g_n v1), (2, g_n r5)]) rfl ?_
  refine r_aload_n x_253_6 rfl ?_
  refine r_iload_n x_253_7 rfl ?_
  refine r_iload_n x_253_8 rfl ?_
  refine r_aload_n x_253_9 rfl ?_
  refine r_aload_n x_253_10 rfl ?_
  obtain ⟨b7, hb8, h⟩ := h
  refine r_getR x_253_11 rfl (ci := 12) (k := 0) (ns := 0) (by decide +kernel) (by decide) rfl (kz := 0) rfl hO1 hb8 ?_
  refine r_iload_n x_253_14 rfl ?_
  obtain ⟨n9, hA10, h⟩ := h
  obtain ⟨h11, h⟩ := h
  refine r_bald x_253_15 (Or.inl rfl) hA10 hv1 h11.1 h11.2 ?_
  refine r_iload_n x_253_16 rfl ?_
  refine r_invV x_253_17 (z := 234) (ns := 0) (by decide +kernel) (as := [g_n (g_i M2 b7 v1), g_n r5]) (r := [g_n r5, g_n r5, .ref a0]) rfl rfl rfl hO1 rfl rfl ?_
  refine r_callI h fun r15 M12 hx13 hok14 hr16 h => ?_
  replace h := h hx13 hok14 hr16
  replace hO1 := hO1.up hx13
  replace hA10 := hA10.up hx13
  refine r_iadd x_253_20 ?_
  obtain ⟨h17, h⟩ := h
  refine r_invV x_253_21 (z := 248) (ns := 0) (by decide +kernel) (as := [g_n r5, g_n (r5 + r15)]) (r := []) rfl rfl rfl hO1 rfl rfl ?_
  refine r_callV h fun M18 hx19 hok20 h => ?_
  replace h := h hx19 hok20
  replace hO1 := hO1.up hx19
  replace hA10 := hA10.up hx19
  exact r_retV x_253_24 rfl h
theorem m_X12_putAs {d : Nat} {M : g_M} {Q : g_M → Prop} {a0 : Nat} {v1 : Int} (hv1 : g_InR v1) {v2 : Int} (hv2 : g_InR v2) {v3 : Int} (hv3 : g_InR v3) (h : g_ok M → g_O M a0 12 ∧ ∃ b2, g_r M a0 0 = some b2 ∧ ∃ n4, g_A M b2 0 n4 ∧ ((0 : Int) ≤ v3 ∧ (v3 : Int) < n4) ∧ g_Call d 246 [.ref a0, g_n (g_i M b2 v3)] M (g_qV fun M7 => g_ext M M7 → g_ok M7 → g_Call d 248 [.ref a0, g_n v1, g_n v2] M7 (g_qV fun M10 => g_ext M7 M10 → g_ok M10 → g_Call d 246 [.ref a0, g_n 0] M10 (g_qV fun M13 => g_ext M10 M13 → g_ok M13 → g_Call d 253 [.ref a0, g_n v3] M13 (g_qV fun M16 => g_ext M13 M16 → g_ok M16 → Q M16))))) : g_Call (d + 1) 254 [.ref a0, g_n v1, g_n v2, g_n v3] M (g_qV Q) := by
  refine g_Call.ok fun hok0 => ?_
  replace h := h hok0
  refine r_body rfl (lv := [(0, .ref a0), (1, g_n v1), (2, g_n v2), (3, g_n v3)]) rfl ?_
  refine g_Run.ok fun hok => ?_
  refine r_aload_n x_254_0 rfl ?_
  refine r_aload_n x_254_1 rfl ?_
  obtain ⟨hO1, h⟩ := h
  obtain ⟨b2, hb3, h⟩ := h
  refine r_getR x_254_2 rfl (ci := 12) (k := 0) (ns := 0) (by decide +kernel) (by decide) rfl (kz := 0) rfl hO1 hb3 ?_
  refine r_iload_n x_254_5 rfl ?_
  obtain ⟨n4, hA5, h⟩ := h
  obtain ⟨h6, h⟩ := h
  refine r_bald x_254_6 (Or.inl rfl) hA5 hv3 h6.1 h6.2 ?_
  refine r_invV x_254_7 (z := 246) (ns := 0) (by decide +kernel) (as := [g_n (g_i M b2 v3)]) (r := []) rfl rfl rfl hO1 rfl rfl ?_
  refine r_callV h fun M7 hx8 hok9 h => ?_
  replace h := h hx8 hok9
  replace hO1 := hO1.up hx8
  replace hA5 := hA5.up hx8
  refine r_aload_n x_254_10 rfl ?_
  refine r_iload_n x_254_11 rfl ?_
  refine r_iload_n x_254_12 rfl ?_
  refine r_invV x_254_13 (z := 248) (ns := 0) (by decide +kernel) (as := [g_n v1, g_n v2]) (r := []) rfl rfl rfl hO1 rfl rfl ?_
  refine r_callV h fun M10 hx11 hok12 h => ?_
  replace h := h hx11 hok12
  replace hO1 := hO1.up hx11
  replace hA5 := hA5.up hx11
  refine r_aload_n x_254_16 rfl ?_
  refine r_iconst x_254_17 ?_
  refine r_invV x_254_18 (z := 246) (ns := 0) (by decide +kernel) (as := [g_n 0]) (r := []) rfl rfl rfl hO1 rfl rfl ?_
  refine r_callV h fun M13 hx14 hok15 h => ?_
  replace h := h hx14 hok15
  replace hO1 := hO1.up hx14
  replace hA5 := hA5.up hx14
  refine r_aload_n x_254_21 rfl ?_
  refine r_iload_n x_254_22 rfl ?_
  refine r_invV x_254_23 (z := 253) (ns := 0) (by decide +kernel) (as := [g_n v3]) (r := []) rfl rfl rfl hO1 rfl rfl ?_
  refine r_callV h fun M16 hx17 hok18 h => ?_
  replace h := h hx17 hok18
  replace hO1 := hO1.up hx17
  replace hA5 := hA5.up hx17
  exact r_retV x_254_26 rfl h
theorem m_X12_putNumber {d : Nat} {M : g_M} {Q : g_M → Prop} {a0 : Nat} {j1 : Nat} (hj1 : j1 < q_nS) {v2 : Int} (hv2 : g_InR v2) (h : g_ok M → g_O M a0 12 ∧ g_Call d 246 [.ref a0, g_n 16] M (g_qV fun M2 => g_ext M M2 → g_ok M2 → g_Call d 249 [.ref a0, .ref (4 * j1 + 1)] M2 (g_qV fun M5 => g_ext M2 M5 → g_ok M5 → g_Call d 247 [.ref a0, g_n v2] M5 (g_qV fun M8 => g_ext M5 M8 → g_ok M8 → Q M8)))) : g_Call (d + 1) 255 [.ref a0, .ref (4 * j1 + 1), g_n v2] M (g_qV Q) := by
  refine g_Call.ok fun hok0 => ?_
  replace h := h hok0
  refine r_body rfl (lv := [(0, .ref a0), (1, .ref (4 * j1 + 1)), (2, g_n v2)]) rfl ?_
  refine g_Run.ok fun hok => ?_
  refine r_aload_n x_255_0 rfl ?_
  refine r_bipush x_255_1 (x := 16) rfl ?_
  obtain ⟨hO1, h⟩ := h
  refine r_invV x_255_3 (z := 246) (ns := 0) (by decide +kernel) (as := [g_n 16]) (r := []) rfl rfl rfl hO1 rfl rfl ?_
  refine r_callV h fun M2 hx3 hok4 h => ?_
  replace h := h hx3 hok4
  replace hO1 := hO1.up hx3
  refine r_aload_n x_255_6 rfl ?_
  refine r_aload_n x_255_7 rfl ?_
  refine r_invV x_255_8 (z := 249) (ns := 0) (by decide +kernel) (as := [.ref (4 * j1 + 1)]) (r := []) rfl rfl rfl hO1 rfl rfl ?_
  refine r_callV h fun M5 hx6 hok7 h => ?_
  replace h := h hx6 hok7
  replace hO1 := hO1.up hx6
  refine r_aload_n x_255_11 rfl ?_
  refine r_iload_n x_255_12 rfl ?_
  refine r_invV x_255_13 (z := 247) (ns := 0) (by decide +kernel) (as := [g_n v2]) (r := []) rfl rfl rfl hO1 rfl rfl ?_
  refine r_callV h fun M8 hx9 hok10 h => ?_
  replace h := h hx9 hok10
  replace hO1 := hO1.up hx9
  exact r_retV x_255_16 rfl h
theorem m_X12_putTruth {d : Nat} {M : g_M} {Q : g_M → Prop} {a0 : Nat} {j1 : Nat} (hj1 : j1 < q_nS) {v2 : Int} (hv2 : g_InR v2) (h : g_ok M → g_O M a0 12 ∧ g_Call d 246 [.ref a0, g_n 8] M (g_qV fun M2 => g_ext M M2 → g_ok M2 → g_Call d 249 [.ref a0, .ref (4 * j1 + 1)] M2 (g_qV fun M5 => g_ext M2 M5 → g_ok M5 → ((v2 = 0 → g_Call d 246 [.ref a0, g_n 0] M5 (g_qV fun M8 => g_ext M5 M8 → g_ok M8 → Q M8)) ∧ (¬ v2 = 0 → g_Call d 246 [.ref a0, g_n 1] M5 (g_qV fun M11 => g_ext M5 M11 → g_ok M11 → Q M11)))))) : g_Call (d + 1) 256 [.ref a0, .ref (4 * j1 + 1), g_n v2] M (g_qV Q) := by
  refine g_Call.ok fun hok0 => ?_
  replace h := h hok0
  refine r_body rfl (lv := [(0, .ref a0), (1, .ref (4 * j1 + 1)), (2, g_n v2)]) rfl ?_
  refine g_Run.ok fun hok => ?_
  refine r_aload_n x_256_0 rfl ?_
  refine r_bipush x_256_1 (x := 8) rfl ?_
  obtain ⟨hO1, h⟩ := h
  refine r_invV x_256_3 (z := 246) (ns := 0) (by decide +kernel) (as := [g_n 8]) (r := []) rfl rfl rfl hO1 rfl rfl ?_
  refine r_callV h fun M2 hx3 hok4 h => ?_
  replace h := h hx3 hok4
  replace hO1 := hO1.up hx3
  refine r_aload_n x_256_6 rfl ?_
  refine r_aload_n x_256_7 rfl ?_
  refine r_invV x_256_8 (z := 249) (ns := 0) (by decide +kernel) (as := [.ref (4 * j1 + 1)]) (r := []) rfl rfl rfl hO1 rfl rfl ?_
  refine r_callV h fun M5 hx6 hok7 h => ?_
  replace h := h hx6 hok7
  replace hO1 := hO1.up hx6
  refine r_aload_n x_256_11 rfl ?_
  refine r_iload_n x_256_12 rfl ?_
  refine r_if_eq x_256_13 (t := 20) (by decide +kernel) hv2 (fun hc => ?_) (fun hc => ?_)
  · replace h := h.1 hc
    refine r_iconst x_256_20 ?_
    refine r_invV x_256_21 (z := 246) (ns := 0) (by decide +kernel) (as := [g_n 0]) (r := []) rfl rfl rfl hO1 rfl rfl ?_
    refine r_callV h fun M8 hx9 hok10 h => ?_
    replace h := h hx9 hok10
    replace hO1 := hO1.up hx9
    exact r_retV x_256_24 rfl h
  · replace h := h.2 hc
    refine r_iconst x_256_16 ?_
    refine r_goto x_256_17 (t := 21) (by decide +kernel) ?_
    refine r_invV x_256_21 (z := 246) (ns := 0) (by decide +kernel) (as := [g_n 1]) (r := []) rfl rfl rfl hO1 rfl rfl ?_
    refine r_callV h fun M11 hx12 hok13 h => ?_
    replace h := h hx12 hok13
    replace hO1 := hO1.up hx12
    exact r_retV x_256_24 rfl h
theorem m_X12_fails {d : Nat} {M : g_M} {Q : Int → g_M → Prop} {a0 : Nat} {v1 : Int} (hv1 : g_InR v1) {v2 : Int} (hv2 : g_InR v2) (h : g_ok M → g_O M a0 12 ∧ (∀ M2, M2 = g_wi M a0 7 v1 → g_ok M2 → (∀ M6, M6 = g_wi M2 a0 8 v2 → g_ok M6 → Q 0 M6))) : g_Call (d + 1) 257 [.ref a0, g_n v1, g_n v2] M (g_qI Q) := by
  refine g_Call.ok fun hok0 => ?_
  replace h := h hok0
  refine r_body rfl (lv := [(0, .ref a0), (1, g_n v1), (2, g_n v2)]) rfl ?_
  refine g_Run.ok fun hok => ?_
  refine r_aload_n x_257_0 rfl ?_
  refine r_iload_n x_257_1 rfl ?_
  obtain ⟨hO1, h⟩ := h
  refine r_putI x_257_2 (ci := 12) (k := 7) (ns := 0) (by decide +kernel) (by decide) (g_f0 (by decide +kernel)) rfl hv1 trivial (kz := 7) rfl hO1 ?_
  obtain ⟨M2, hM3⟩ : ∃ Mz, Mz = g_wi M a0 7 v1 := ⟨_, rfl⟩
  rw [← hM3]
  refine g_Run.ok fun hok4 => ?_
  replace h := h M2 hM3 hok4
  have hx5 := g_extW hM3
  replace hO1 := hO1.up hx5
  refine r_aload_n x_257_5 rfl ?_
  refine r_iload_n x_257_6 rfl ?_
  refine r_putI x_257_7 (ci := 12) (k := 8) (ns := 0) (by decide +kernel) (by decide) (g_f0 (by decide +kernel)) rfl hv2 trivial (kz := 8) rfl hO1 ?_
  obtain ⟨M6, hM7⟩ : ∃ Mz, Mz = g_wi M2 a0 8 v2 := ⟨_, rfl⟩
  rw [← hM7]
  refine g_Run.ok fun hok8 => ?_
  replace h := h M6 hM7 hok8
  have hx9 := g_extW hM7
  replace hO1 := hO1.up hx9
  refine r_iconst x_257_10 ?_
  exact r_retZ x_257_11 rfl (Or.inl rfl) h
theorem m_X12_character {d : Nat} {M : g_M} {Q : Int → g_M → Prop} {a0 : Nat} {v1 : Int} (hv1 : g_InR v1) {v2 : Int} (hv2 : g_InR v2) (h : g_ok M → g_O M a0 12 ∧ g_Call d 226 [.ref a0, g_n v1] M (g_qI fun r5 M2 => g_ext M M2 → g_ok M2 → g_InR r5 → ((r5 < 128 → g_Run d 258 62 [(0, .ref a0), (1, g_n v1), (2, g_n v2), (3, g_n r5)] [g_n 1] M2 (g_qI Q)) ∧ (¬ r5 < 128 → ((r5 < 194 → g_Run d 258 62 [(0, .ref a0), (1, g_n v1), (2, g_n v2), (3, g_n r5)] [g_n 0] M2 (g_qI Q)) ∧ (¬ r5 < 194 → ((r5 < 224 → g_Run d 258 62 [(0, .ref a0), (1, g_n v1), (2, g_n v2), (3, g_n r5)] [g_n 2] M2 (g_qI Q)) ∧ (¬ r5 < 224 → ((r5 < 240 → g_Run d 258 62 [(0, .ref a0), (1, g_n v1), (2, g_n v2), (3, g_n r5)] [g_n 3] M2 (g_qI Q)) ∧ (¬ r5 < 240 → ((r5 < 245 → g_Run d 258 62 [(0, .ref a0), (1, g_n v1), (2, g_n v2), (3, g_n r5)] [g_n 4] M2 (g_qI Q)) ∧ (¬ r5 < 245 → g_Run d 258 62 [(0, .ref a0), (1, g_n v1), (2, g_n v2), (3, g_n r5)] [g_n 0] M2 (g_qI Q))))))))))))) : g_Call (d + 1) 258 [.ref a0, g_n v1, g_n v2] M (g_qI Q) := by
  refine g_Call.ok fun hok0 => ?_
  replace h := h hok0
  refine r_body rfl (lv := [(0, .ref a0), (1, g_n v1), (2, g_n v2)]) rfl ?_
  refine g_Run.ok fun hok => ?_
  refine r_aload_n x_258_0 rfl ?_
  refine r_iload_n x_258_1 rfl ?_
  obtain ⟨hO1, h⟩ := h
  refine r_invV x_258_2 (z := 226) (ns := 0) (by decide +kernel) (as := [g_n v1]) (r := []) rfl rfl rfl hO1 rfl rfl ?_
  refine r_callI h fun r5 M2 hx3 hok4 hr6 h => ?_
  replace h := h hx3 hok4 hr6
  replace hO1 := hO1.up hx3
  refine r_istore_n x_258_5 (by decide +kernel) rfl (lv1 := [(0, .ref a0), (1, g_n v1), (2, g_n v2), (3, g_n r5)]) rfl ?_
  refine r_iload_n x_258_6 rfl ?_
  refine r_sipush x_258_7 (x := 128) rfl ?_
  refine r_ic_ge x_258_10 (t := 17) (by decide +kernel) hr6 (g_Rk rfl) (fun hc => ?_) (fun hc => ?_)
  · replace h := h.2 hc
    refine r_iload_n x_258_17 rfl ?_
    refine r_sipush x_258_18 (x := 194) rfl ?_
    refine r_ic_ge x_258_21 (t := 28) (by decide +kernel) hr6 (g_Rk rfl) (fun hc => ?_) (fun hc => ?_)
    · replace h := h.2 hc
      refine r_iload_n x_258_28 rfl ?_
      refine r_sipush x_258_29 (x := 224) rfl ?_
      refine r_ic_ge x_258_32 (t := 39) (by decide +kernel) hr6 (g_Rk rfl) (fun hc => ?_) (fun hc => ?_)
      · replace h := h.2 hc
        refine r_iload_n x_258_39 rfl ?_
        refine r_sipush x_258_40 (x := 240) rfl ?_
        refine r_ic_ge x_258_43 (t := 50) (by decide +kernel) hr6 (g_Rk rfl) (fun hc => ?_) (fun hc => ?_)
        · replace h := h.2 hc
          refine r_iload_n x_258_50 rfl ?_
          refine r_sipush x_258_51 (x := 245) rfl ?_
          refine r_ic_ge x_258_54 (t := 61) (by decide +kernel) hr6 (g_Rk rfl) (fun hc => ?_) (fun hc => ?_)
          · replace h := h.2 hc
            refine r_iconst x_258_61 ?_
            exact h
          · replace h := h.1 hc
            refine r_iconst x_258_57 ?_
            refine r_goto x_258_58 (t := 62) (by decide +kernel) ?_
            exact h
        · replace h := h.1 hc
          refine r_iconst x_258_46 ?_
          refine r_goto x_258_47 (t := 62) (by decide +kernel) ?_
          exact h
      · replace h := h.1 hc
        refine r_iconst x_258_35 ?_
        refine r_goto x_258_36 (t := 62) (by decide +kernel) ?_
        exact h
    · replace h := h.1 hc
      refine r_iconst x_258_24 ?_
      refine r_goto x_258_25 (t := 62) (by decide +kernel) ?_
      exact h
  · replace h := h.1 hc
    refine r_iconst x_258_13 ?_
    refine r_goto x_258_14 (t := 62) (by decide +kernel) ?_
    exact h
theorem s_X12_character_62 {d : Nat} {M : g_M} {Q : Int → g_M → Prop} {a0 : Nat} {v1 : Int} (hv1 : g_InR v1) {v2 : Int} (hv2 : g_InR v2) {v3 : Int} (hv3 : g_InR v3) {w0 : Int} (hw0 : g_InR w0) (h : g_ok M → ((w0 = 0 → Q 0 M) ∧ (¬ w0 = 0 → g_InR (v1 + w0) ∧ ((v2 < v1 + w0 → Q 0 M) ∧ (¬ v2 < v1 + w0 → ((w0 = 1 → g_Run d 258 124 [(0, .ref a0), (1, g_n v1), (2, g_n v2), (3, g_n v3), (4, g_n w0), (5, g_n v3), (6, g_n 1)] [] M (g_qI Q)) ∧ (¬ w0 = 1 → ((w0 = 2 → g_Run d 258 124 [(0, .ref a0), (1, g_n v1), (2, g_n v2), (3, g_n v3), (4, g_n w0), (5, g_n (g_and v3 31)), (6, g_n 1)] [] M (g_qI Q)) ∧ (¬ w0 = 2 → ((w0 = 3 → g_Run d 258 124 [(0, .ref a0), (1, g_n v1), (2, g_n v2), (3, g_n v3), (4, g_n w0), (5, g_n (g_and v3 15)), (6, g_n 1)] [] M (g_qI Q)) ∧ (¬ w0 = 3 → g_Run d 258 124 [(0, .ref a0), (1, g_n v1), (2, g_n v2), (3, g_n v3), (4, g_n w0), (5, g_n (g_and v3 7)), (6, g_n 1)] [] M (g_qI Q)))))))))))) : g_Run d 258 62 [(0, .ref a0), (1, g_n v1), (2, g_n v2), (3, g_n v3)] [g_n w0] M (g_qI Q) := by
  refine g_Run.ok fun hok => ?_
  replace h := h hok
  refine r_istore x_258_62 (by decide +kernel) rfl (lv1 := [(0, .ref a0), (1, g_n v1), (2, g_n v2), (3, g_n v3), (4, g_n w0)]) rfl ?_
  refine r_iload x_258_64 rfl ?_
  refine r_if_eq x_258_66 (t := 77) (by decide +kernel) hw0 (fun hc => ?_) (fun hc => ?_)
  · replace h := h.1 hc
    refine r_iconst x_258_77 ?_
    exact r_retI x_258_78 rfl (g_Rk rfl) h
  · replace h := h.2 hc
    refine r_iload_n x_258_69 rfl ?_
    refine r_iload x_258_70 rfl ?_
    refine r_iadd x_258_72 ?_
    obtain ⟨h1, h⟩ := h
    refine r_iload_n x_258_73 rfl ?_
    refine r_ic_le x_258_74 (t := 79) (by decide +kernel) h1 hv2 (fun hc => ?_) (fun hc => ?_)
    · replace h := h.2 hc
      refine r_iload x_258_79 rfl ?_
      refine r_iconst x_258_81 ?_
      refine r_ic_ne x_258_82 (t := 89) (by decide +kernel) hw0 (g_Rk rfl) (fun hc => ?_) (fun hc => ?_)
      · replace h := h.2 hc
        refine r_iload x_258_89 rfl ?_
        refine r_iconst x_258_91 ?_
        refine r_ic_ne x_258_92 (t := 102) (by decide +kernel) hw0 (g_Rk rfl) (fun hc => ?_) (fun hc => ?_)
        · replace h := h.2 hc
          refine r_iload x_258_102 rfl ?_
          refine r_iconst x_258_104 ?_
          refine r_ic_ne x_258_105 (t := 115) (by decide +kernel) hw0 (g_Rk rfl) (fun hc => ?_) (fun hc => ?_)
          · replace h := h.2 hc
            refine r_iload_n x_258_115 rfl ?_
            refine r_bipush x_258_116 (x := 7) rfl ?_
            refine r_iand x_258_118 ?_
            refine r_istore x_258_119 (by decide +kernel) rfl (lv1 := [(0, .ref a0), (1, g_n v1), (2, g_n v2), (3, g_n v3), (4, g_n w0), (5, g_n (g_and v3 7))]) rfl ?_
            refine r_iconst x_258_121 ?_
            refine r_istore x_258_122 (by decide +kernel) rfl (lv1 := [(0, .ref a0), (1, g_n v1), (2, g_n v2), (3, g_n v3), (4, g_n w0), (5, g_n (g_and v3 7)), (6, g_n 1)]) rfl ?_
            exact h
          · replace h := h.1 hc
            refine r_iload_n x_258_108 rfl ?_
            refine r_bipush x_258_109 (x := 15) rfl ?_
            refine r_iand x_258_111 ?_
            refine r_goto x_258_112 (t := 119) (by decide +kernel) ?_
            refine r_istore x_258_119 (by decide +kernel) rfl (lv1 := [(0, .ref a0), (1, g_n v1), (2, g_n v2), (3, g_n v3), (4, g_n w0), (5, g_n (g_and v3 15))]) rfl ?_
            refine r_iconst x_258_121 ?_
            refine r_istore x_258_122 (by decide +kernel) rfl (lv1 := [(0, .ref a0), (1, g_n v1), (2, g_n v2), (3, g_n v3), (4, g_n w0), (5, g_n (g_and v3 15)), (6, g_n 1)]) rfl ?_
            exact h
        · replace h := h.1 hc
          refine r_iload_n x_258_95 rfl ?_
          refine r_bipush x_258_96 (x := 31) rfl ?_
          refine r_iand x_258_98 ?_
          refine r_goto x_258_99 (t := 119) (by decide +kernel) ?_
          refine r_istore x_258_119 (by decide +kernel) rfl (lv1 := [(0, .ref a0), (1, g_n v1), (2, g_n v2), (3, g_n v3), (4, g_n w0), (5, g_n (g_and v3 31))]) rfl ?_
          refine r_iconst x_258_121 ?_
          refine r_istore x_258_122 (by decide +kernel) rfl (lv1 := [(0, .ref a0), (1, g_n v1), (2, g_n v2), (3, g_n v3), (4, g_n w0), (5, g_n (g_and v3 31)), (6, g_n 1)]) rfl ?_
          exact h
      · replace h := h.1 hc
        refine r_iload_n x_258_85 rfl ?_
        refine r_goto x_258_86 (t := 119) (by decide +kernel) ?_
        refine r_istore x_258_119 (by decide +kernel) rfl (lv1 := [(0, .ref a0), (1, g_n v1), (2, g_n v2), (3, g_n v3), (4, g_n w0), (5, g_n v3)]) rfl ?_
        refine r_iconst x_258_121 ?_
        refine r_istore x_258_122 (by decide +kernel) rfl (lv1 := [(0, .ref a0), (1, g_n v1), (2, g_n v2), (3, g_n v3), (4, g_n w0), (5, g_n v3), (6, g_n 1)]) rfl ?_
        exact h
    · replace h := h.1 hc
      refine r_iconst x_258_77 ?_
      exact r_retI x_258_78 rfl (g_Rk rfl) h
theorem s_X12_character_124 {d : Nat} {M : g_M} {Q : Int → g_M → Prop} {a0 : Nat} {v1 : Int} (hv1 : g_InR v1) {v2 : Int} (hv2 : g_InR v2) {v3 : Int} (hv3 : g_InR v3) {v4 : Int} (hv4 : g_InR v4) {v5 : Int} (hv5 : g_InR v5) {v6 : Int} (hv6 : g_InR v6) (h : g_ok M → ((v6 < v4 → g_InR (v1 + v6) ∧ g_O M a0 12 ∧ g_Call d 226 [.ref a0, g_n (v1 + v6)] M (g_qI fun r6 M3 => g_ext M M3 → g_ok M3 → g_InR r6 → ((g_and r6 192 = 128 → g_InR (v1 + v6) ∧ g_Call d 226 [.ref a0, g_n (v1 + v6)] M3 (g_qI fun r12 M9 => g_ext M3 M9 → g_ok M9 → g_InR r12 → g_InR (v6 + 1) ∧ g_Run d 258 124 [(0, .ref a0), (1, g_n v1), (2, g_n v2), (3, g_n v3), (4, g_n v4), (5, g_n (g_or (g_shl v5 6) (g_and r12 63))), (6, g_n (v6 + 1))] [] M9 (g_qI Q))) ∧ (¬ g_and r6 192 = 128 → Q 0 M3)))) ∧ (¬ v6 < v4 → ((v4 < 3 → g_Run d 258 211 [(0, .ref a0), (1, g_n v1), (2, g_n v2), (3, g_n v3), (4, g_n v4), (5, g_n v5), (6, g_n v6)] [g_n 1] M (g_qI Q)) ∧ (¬ v4 < 3 → ((v4 = 3 → ((v5 < 2048 → g_Run d 258 211 [(0, .ref a0), (1, g_n v1), (2, g_n v2), (3, g_n v3), (4, g_n v4), (5, g_n v5), (6, g_n v6)] [g_n 0] M (g_qI Q)) ∧ (¬ v5 < 2048 → g_Run d 258 211 [(0, .ref a0), (1, g_n v1), (2, g_n v2), (3, g_n v3), (4, g_n v4), (5, g_n v5), (6, g_n v6)] [g_n 1] M (g_qI Q)))) ∧ (¬ v4 = 3 → ((v5 < 65536 → g_Run d 258 211 [(0, .ref a0), (1, g_n v1), (2, g_n v2), (3, g_n v3), (4, g_n v4), (5, g_n v5), (6, g_n v6)] [g_n 0] M (g_qI Q)) ∧ (¬ v5 < 65536 → g_Run d 258 211 [(0, .ref a0), (1, g_n v1), (2, g_n v2), (3, g_n v3), (4, g_n v4), (5, g_n v5), (6, g_n v6)] [g_n 1] M (g_qI Q)))))))))) : g_Run d 258 124 [(0, .ref a0), (1, g_n v1), (2, g_n v2), (3, g_n v3), (4, g_n v4), (5, g_n v5), (6, g_n v6)] [] M (g_qI Q) := by
  refine g_Run.ok fun hok => ?_
  replace h := h hok
  refine r_iload x_258_124 rfl ?_
  refine r_iload x_258_126 rfl ?_
  refine r_ic_ge x_258_128 (t := 176) (by decide +kernel) hv6 hv4 (fun hc => ?_) (fun hc => ?_)
  · replace h := h.2 hc
    refine r_iload x_258_176 rfl ?_
    refine r_iconst x_258_178 ?_
    refine r_ic_lt x_258_179 (t := 206) (by decide +kernel) hv4 (g_Rk rfl) (fun hc => ?_) (fun hc => ?_)
    · replace h := h.1 hc
      refine r_iconst x_258_206 ?_
      refine r_goto x_258_207 (t := 211) (by decide +kernel) ?_
      exact h
    · replace h := h.2 hc
      refine r_iload x_258_182 rfl ?_
      refine r_iconst x_258_184 ?_
      refine r_ic_ne x_258_185 (t := 199) (by decide +kernel) hv4 (g_Rk rfl) (fun hc => ?_) (fun hc => ?_)
      · replace h := h.2 hc
        refine r_iload x_258_199 rfl ?_
        refine r_ldc x_258_201 (v := g_n 65536) rfl ?_
        refine r_ic_lt x_258_203 (t := 210) (by decide +kernel) hv5 (g_Rk rfl) (fun hc => ?_) (fun hc => ?_)
        · replace h := h.1 hc
          refine r_iconst x_258_210 ?_
          exact h
        · replace h := h.2 hc
          refine r_iconst x_258_206 ?_
          refine r_goto x_258_207 (t := 211) (by decide +kernel) ?_
          exact h
      · replace h := h.1 hc
        refine r_iload x_258_188 rfl ?_
        refine r_sipush x_258_190 (x := 2048) rfl ?_
        refine r_ic_lt x_258_193 (t := 210) (by decide +kernel) hv5 (g_Rk rfl) (fun hc => ?_) (fun hc => ?_)
        · replace h := h.1 hc
          refine r_iconst x_258_210 ?_
          exact h
        · replace h := h.2 hc
          refine r_goto x_258_196 (t := 206) (by decide +kernel) ?_
          refine r_iconst x_258_206 ?_
          refine r_goto x_258_207 (t := 211) (by decide +kernel) ?_
          exact h
  · replace h := h.1 hc
    refine r_aload_n x_258_131 rfl ?_
    refine r_iload_n x_258_132 rfl ?_
    refine r_iload x_258_133 rfl ?_
    refine r_iadd x_258_135 ?_
    obtain ⟨h1, h⟩ := h
    obtain ⟨hO2, h⟩ := h
    refine r_invV x_258_136 (z := 226) (ns := 0) (by decide +kernel) (as := [g_n (v1 + v6)]) (r := []) rfl rfl rfl hO2 rfl rfl ?_
    refine r_callI h fun r6 M3 hx4 hok5 hr7 h => ?_
    replace h := h hx4 hok5 hr7
    replace hO2 := hO2.up hx4
    refine r_sipush x_258_139 (x := 192) rfl ?_
    refine r_iand x_258_142 ?_
    refine r_sipush x_258_143 (x := 128) rfl ?_
    refine r_ic_eq x_258_146 (t := 151) (by decide +kernel) (g_InR_toInt _) (g_Rk rfl) (fun hc => ?_) (fun hc => ?_)
    · replace h := h.1 hc
      refine r_iload x_258_151 rfl ?_
      refine r_bipush x_258_153 (x := 6) rfl ?_
      refine r_ishl x_258_155 ?_
      refine r_aload_n x_258_156 rfl ?_
      refine r_iload_n x_258_157 rfl ?_
      refine r_iload x_258_158 rfl ?_
      refine r_iadd x_258_160 ?_
      obtain ⟨h8, h⟩ := h
      refine r_invV x_258_161 (z := 226) (ns := 0) (by decide +kernel) (as := [g_n (v1 + v6)]) (r := [g_n (g_shl v5 6)]) rfl rfl rfl hO2 rfl rfl ?_
      refine r_callI h fun r12 M9 hx10 hok11 hr13 h => ?_
      replace h := h hx10 hok11 hr13
      replace hO2 := hO2.up hx10
      refine r_bipush x_258_164 (x := 63) rfl ?_
      refine r_iand x_258_166 ?_
      refine r_ior x_258_167 ?_
      refine r_istore x_258_168 (by decide +kernel) rfl (lv1 := [(0, .ref a0), (1, g_n v1), (2, g_n v2), (3, g_n v3), (4, g_n v4), (5, g_n (g_or (g_shl v5 6) (g_and r12 63))), (6, g_n v6)]) rfl ?_
      obtain ⟨h14, h⟩ := h
      refine r_iinc x_258_170 (by decide +kernel) rfl rfl (lv1 := [(0, .ref a0), (1, g_n v1), (2, g_n v2), (3, g_n v3), (4, g_n v4), (5, g_n (g_or (g_shl v5 6) (g_and r12 63))), (6, g_n (v6 + 1))]) rfl ?_
      refine r_goto x_258_173 (t := 124) (by decide +kernel) ?_
      exact h
    · replace h := h.2 hc
      refine r_iconst x_258_149 ?_
      exact r_retI x_258_150 rfl (g_Rk rfl) h
theorem s_X12_character_211 {d : Nat} {M : g_M} {Q : Int → g_M → Prop} {a0 : Nat} {v1 : Int} (hv1 : g_InR v1) {v2 : Int} (hv2 : g_InR v2) {v3 : Int} (hv3 : g_InR v3) {v4 : Int} (hv4 : g_InR v4) {v5 : Int} (hv5 : g_InR v5) {v6 : Int} (hv6 : g_InR v6) {w0 : Int} (hw0 : g_InR w0) (h : g_ok M → ((w0 = 0 → Q 0 M) ∧ (¬ w0 = 0 → ((1114111 < v5 → Q 0 M) ∧ (¬ 1114111 < v5 → ((v5 < 55296 → Q v4 M) ∧ (¬ v5 < 55296 → ((57343 < v5 → Q v4 M) ∧ (¬ 57343 < v5 → Q 0 M))))))))) : g_Run d 258 211 [(0, .ref a0), (1, g_n v1), (2, g_n v2), (3, g_n v3), (4, g_n v4), (5, g_n v5), (6, g_n v6)] [g_n w0] M (g_qI Q) := by
  refine g_Run.ok fun hok => ?_
  replace h := h hok
  refine r_istore x_258_211 (by decide +kernel) rfl (lv1 := [(0, .ref a0), (1, g_n v1), (2, g_n v2), (3, g_n v3), (4, g_n v4), (5, g_n v5), (6, g_n w0)]) rfl ?_
  refine r_iload x_258_213 rfl ?_
  refine r_if_eq x_258_215 (t := 244) (by decide +kernel) hw0 (fun hc => ?_) (fun hc => ?_)
  · replace h := h.1 hc
    refine r_iconst x_258_244 ?_
    exact r_retI x_258_245 rfl (g_Rk rfl) h
  · replace h := h.2 hc
    refine r_iload x_258_218 rfl ?_
    refine r_ldc x_258_220 (v := g_n 1114111) rfl ?_
    refine r_ic_gt x_258_222 (t := 244) (by decide +kernel) hv5 (g_Rk rfl) (fun hc => ?_) (fun hc => ?_)
    · replace h := h.1 hc
      refine r_iconst x_258_244 ?_
      exact r_retI x_258_245 rfl (g_Rk rfl) h
    · replace h := h.2 hc
      refine r_iload x_258_225 rfl ?_
      refine r_ldc x_258_227 (v := g_n 55296) rfl ?_
      refine r_ic_lt x_258_229 (t := 239) (by decide +kernel) hv5 (g_Rk rfl) (fun hc => ?_) (fun hc => ?_)
      · replace h := h.1 hc
        refine r_iload x_258_239 rfl ?_
        refine r_goto x_258_241 (t := 245) (by decide +kernel) ?_
        exact r_retI x_258_245 rfl hv4 h
      · replace h := h.2 hc
        refine r_iload x_258_232 rfl ?_
        refine r_ldc x_258_234 (v := g_n 57343) rfl ?_
        refine r_ic_le x_258_236 (t := 244) (by decide +kernel) hv5 (g_Rk rfl) (fun hc => ?_) (fun hc => ?_)
        · replace h := h.2 hc
          refine r_iconst x_258_244 ?_
          exact r_retI x_258_245 rfl (g_Rk rfl) h
        · replace h := h.1 hc
          refine r_iload x_258_239 rfl ?_
          refine r_goto x_258_241 (t := 245) (by decide +kernel) ?_
          exact r_retI x_258_245 rfl hv4 h
theorem m_X12_isRight {d : Nat} {M : g_M} {Q : Int → g_M → Prop} {a0 : Nat} {v1 : Int} (hv1 : g_InR v1) {v2 : Int} (hv2 : g_InR v2) (h : g_ok M → g_Run d 259 2 [(0, .ref a0), (1, g_n v1), (2, g_n v2), (3, g_n v1)] [] M (g_qI Q)) : g_Call (d + 1) 259 [.ref a0, g_n v1, g_n v2] M (g_qI Q) := by
  refine g_Call.ok fun hok0 => ?_
  replace h := h hok0
  refine r_body rfl (lv := [(0, .ref a0), (1, g_n v1), (2, g_n v2)]) rfl ?_
  refine g_Run.ok fun hok => ?_
  refine r_iload_n x_259_0 rfl ?_
  refine r_istore_n x_259_1 (by decide +kernel) rfl (lv1 := [(0, .ref a0), (1, g_n v1), (2, g_n v2), (3, g_n v1)]) rfl ?_
  exact h
theorem s_X12_isRight_2 {d : Nat} {M : g_M} {Q : Int → g_M → Prop} {a0 : Nat} {v1 : Int} (hv1 : g_InR v1) {v2 : Int} (hv2 : g_InR v2) {v3 : Int} (hv3 : g_InR v3) (h : g_ok M → ((v3 < v2 → g_O M a0 12 ∧ g_Call d 258 [.ref a0, g_n v3, g_n v2] M (g_qI fun r5 M2 => g_ext M M2 → g_ok M2 → g_InR r5 → ((r5 = 0 → g_Call d 257 [.ref a0, g_n 4, g_n v3] M2 (g_qI fun r11 M8 => g_ext M2 M8 → g_ok M8 → g_InR r11 → (r11 = 0 ∨ r11 = 1) ∧ Q r11 M8)) ∧ (¬ r5 = 0 → g_InR (v3 + r5) ∧ g_Run d 259 2 [(0, .ref a0), (1, g_n v1), (2, g_n v2), (3, g_n (v3 + r5))] [] M2 (g_qI Q))))) ∧ (¬ v3 < v2 → Q 1 M))) : g_Run d 259 2 [(0, .ref a0), (1, g_n v1), (2, g_n v2), (3, g_n v3)] [] M (g_qI Q) := by
  refine g_Run.ok fun hok => ?_
  replace h := h hok
  refine r_iload_n x_259_2 rfl ?_
  refine r_iload_n x_259_3 rfl ?_
  refine r_ic_ge x_259_4 (t := 35) (by decide +kernel) hv3 hv2 (fun hc => ?_) (fun hc => ?_)
  · replace h := h.2 hc
    refine r_iconst x_259_35 ?_
    exact r_retZ x_259_36 rfl (Or.inr rfl) h
  · replace h := h.1 hc
    refine r_aload_n x_259_7 rfl ?_
    refine r_iload_n x_259_8 rfl ?_
    refine r_iload_n x_259_9 rfl ?_
    obtain ⟨hO1, h⟩ := h
    refine r_invV x_259_10 (z := 258) (ns := 0) (by decide +kernel) (as := [g_n v3, g_n v2]) (r := []) rfl rfl rfl hO1 rfl rfl ?_
    refine r_callI h fun r5 M2 hx3 hok4 hr6 h => ?_
    replace h := h hx3 hok4 hr6
    replace hO1 := hO1.up hx3
    refine r_istore x_259_13 (by decide +kernel) rfl (lv1 := [(0, .ref a0), (1, g_n v1), (2, g_n v2), (3, g_n v3), (4, g_n r5)]) rfl ?_
    refine r_iload x_259_15 rfl ?_
    refine r_if_ne x_259_17 (t := 27) (by decide +kernel) hr6 (fun hc => ?_) (fun hc => ?_)
    · replace h := h.2 hc
      refine r_iload_n x_259_27 rfl ?_
      refine r_iload x_259_28 rfl ?_
      refine r_iadd x_259_30 ?_
      obtain ⟨h7, h⟩ := h
      refine r_istore_n x_259_31 (by decide +kernel) rfl (lv1 := [(0, .ref a0), (1, g_n v1), (2, g_n v2), (3, g_n (v3 + r5)), (4, g_n r5)]) rfl ?_
      refine r_goto x_259_32 (t := 2) (by decide +kernel) ?_
      refine g_drop [0, 1, 2, 3] (lv1 := [(0, .ref a0), (1, g_n v1), (2, g_n v2), (3, g_n (v3 + r5))]) rfl ?_
      exact h
    · replace h := h.1 hc
      refine r_aload_n x_259_20 rfl ?_
      refine r_iconst x_259_21 ?_
      refine r_iload_n x_259_22 rfl ?_
      refine r_invV x_259_23 (z := 257) (ns := 0) (by decide +kernel) (as := [g_n 4, g_n v3]) (r := []) rfl rfl rfl hO1 rfl rfl ?_
      refine r_callI h fun r11 M8 hx9 hok10 hr12 h => ?_
      replace h := h hx9 hok10 hr12
      replace hO1 := hO1.up hx9
      obtain ⟨hz, h⟩ := h
      exact r_retZ x_259_26 rfl hz h
theorem m_X12_readAll {d : Nat} {M : g_M} {Q : Int → g_M → Prop} {a0 : Nat} {v1 : Int} (hv1 : g_InR v1) (h : g_ok M → ((v1 < 4 → g_O M a0 12 ∧ g_Call d 257 [.ref a0, g_n 1, g_n 0] M (g_qI fun r31 M28 => g_ext M M28 → g_ok M28 → g_InR r31 → (r31 = 0 ∨ r31 = 1) ∧ Q r31 M28)) ∧ (¬ v1 < 4 → g_O M a0 12 ∧ g_Call d 227 [.ref a0, g_n 0] M (g_qI fun r5 M2 => g_ext M M2 → g_ok M2 → g_InR r5 → ((g_lc ((Int64.ofInt r5) &&& 4294967295) 5 < 0 → g_Call d 257 [.ref a0, g_n 2, g_n 0] M2 (g_qI fun r10 M7 => g_ext M2 M7 → g_ok M7 → g_InR r10 → (r10 = 0 ∨ r10 = 1) ∧ Q r10 M7)) ∧ (¬ g_lc ((Int64.ofInt r5) &&& 4294967295) 5 < 0 → ((g_lc ((Int64.ofInt r5) &&& 4294967295) (Int64.ofInt v1) < 0 → g_Call d 257 [.ref a0, g_n 2, g_n 0] M2 (g_qI fun r25 M22 => g_ext M2 M22 → g_ok M22 → g_InR r25 → (r25 = 0 ∨ r25 = 1) ∧ Q r25 M22)) ∧ (¬ g_lc ((Int64.ofInt r5) &&& 4294967295) (Int64.ofInt v1) < 0 → ((0 < g_lc ((Int64.ofInt r5) &&& 4294967295) (Int64.ofInt v1) → g_Call d 257 [.ref a0, g_n 1, g_n 0] M2 (g_qI fun r20 M17 => g_ext M2 M17 → g_ok M17 → g_InR r20 → (r20 = 0 ∨ r20 = 1) ∧ Q r20 M17)) ∧ (¬ 0 < g_lc ((Int64.ofInt r5) &&& 4294967295) (Int64.ofInt v1) → g_Call d 262 [.ref a0, g_n 0, g_n 0, g_n 1] M2 (g_qI fun r15 M12 => g_ext M2 M12 → g_ok M12 → g_InR r15 → (r15 = 0 ∨ r15 = 1) ∧ Q r15 M12))))))))))) : g_Call (d + 1) 260 [.ref a0, g_n v1] M (g_qI Q) := by
  refine g_Call.ok fun hok0 => ?_
  replace h := h hok0
  refine r_body rfl (lv := [(0, .ref a0), (1, g_n v1)]) rfl ?_
  refine g_Run.ok fun hok => ?_
  refine r_iload_n x_260_0 rfl ?_
  refine r_iconst x_260_1 ?_
  refine r_ic_ge x_260_2 (t := 12) (by decide +kernel) hv1 (g_Rk rfl) (fun hc => ?_) (fun hc => ?_)
  · replace h := h.2 hc
    refine r_aload_n x_260_12 rfl ?_
    refine r_iconst x_260_13 ?_
    obtain ⟨hO1, h⟩ := h
    refine r_invV x_260_14 (z := 227) (ns := 0) (by decide +kernel) (as := [g_n 0]) (r := []) rfl rfl rfl hO1 rfl rfl ?_
    refine r_callI h fun r5 M2 hx3 hok4 hr6 h => ?_
    replace h := h hx3 hok4 hr6
    replace hO1 := hO1.up hx3
    refine r_i2l x_260_17 hr6 ?_
    refine r_ldc2 x_260_18 (X := 4294967295) rfl ?_
    refine r_land x_260_21 ?_
    refine r_lstore_n x_260_22 (by decide +kernel) rfl (lv1 := [(0, .ref a0), (1, g_n v1), (2, .long ((Int64.ofInt r5) &&& 4294967295))]) rfl ?_
    refine r_lload_n x_260_23 rfl ?_
    refine r_ldc2 x_260_24 (X := 5) rfl ?_
    refine r_lcmp x_260_27 ?_
    refine r_if_lt x_260_28 (t := 38) (by decide +kernel) (g_InR_toInt _) (fun hc => ?_) (fun hc => ?_)
    · replace h := h.1 hc
      refine r_aload_n x_260_38 rfl ?_
      refine r_iconst x_260_39 ?_
      refine r_iconst x_260_40 ?_
      refine r_invV x_260_41 (z := 257) (ns := 0) (by decide +kernel) (as := [g_n 2, g_n 0]) (r := []) rfl rfl rfl hO1 rfl rfl ?_
      refine r_callI h fun r10 M7 hx8 hok9 hr11 h => ?_
      replace h := h hx8 hok9 hr11
      replace hO1 := hO1.up hx8
      obtain ⟨hz, h⟩ := h
      exact r_retZ x_260_44 rfl hz h
    · replace h := h.2 hc
      refine r_lload_n x_260_31 rfl ?_
      refine r_iload_n x_260_32 rfl ?_
      refine r_i2l x_260_33 hv1 ?_
      refine r_lcmp x_260_34 ?_
      refine r_if_ge x_260_35 (t := 45) (by decide +kernel) (g_InR_toInt _) (fun hc => ?_) (fun hc => ?_)
      · replace h := h.2 hc
        refine r_lload_n x_260_45 rfl ?_
        refine r_iload_n x_260_46 rfl ?_
        refine r_i2l x_260_47 hv1 ?_
        refine r_lcmp x_260_48 ?_
        refine r_if_le x_260_49 (t := 59) (by decide +kernel) (g_InR_toInt _) (fun hc => ?_) (fun hc => ?_)
        · replace h := h.2 hc
          refine r_aload_n x_260_59 rfl ?_
          refine r_iconst x_260_60 ?_
          refine r_iconst x_260_61 ?_
          refine r_iconst x_260_62 ?_
          refine r_invV x_260_63 (z := 262) (ns := 0) (by decide +kernel) (as := [g_n 0, g_n 0, g_n 1]) (r := []) rfl rfl rfl hO1 rfl rfl ?_
          refine r_callI h fun r15 M12 hx13 hok14 hr16 h => ?_
          replace h := h hx13 hok14 hr16
          replace hO1 := hO1.up hx13
          obtain ⟨hz, h⟩ := h
          exact r_retZ x_260_66 rfl hz h
        · replace h := h.1 hc
          refine r_aload_n x_260_52 rfl ?_
          refine r_iconst x_260_53 ?_
          refine r_iconst x_260_54 ?_
          refine r_invV x_260_55 (z := 257) (ns := 0) (by decide +kernel) (as := [g_n 1, g_n 0]) (r := []) rfl rfl rfl hO1 rfl rfl ?_
          refine r_callI h fun r20 M17 hx18 hok19 hr21 h => ?_
          replace h := h hx18 hok19 hr21
          replace hO1 := hO1.up hx18
          obtain ⟨hz, h⟩ := h
          exact r_retZ x_260_58 rfl hz h
      · replace h := h.1 hc
        refine r_aload_n x_260_38 rfl ?_
        refine r_iconst x_260_39 ?_
        refine r_iconst x_260_40 ?_
        refine r_invV x_260_41 (z := 257) (ns := 0) (by decide +kernel) (as := [g_n 2, g_n 0]) (r := []) rfl rfl rfl hO1 rfl rfl ?_
        refine r_callI h fun r25 M22 hx23 hok24 hr26 h => ?_
        replace h := h hx23 hok24 hr26
        replace hO1 := hO1.up hx23
        obtain ⟨hz, h⟩ := h
        exact r_retZ x_260_44 rfl hz h
  · replace h := h.1 hc
    refine r_aload_n x_260_5 rfl ?_
    refine r_iconst x_260_6 ?_
    refine r_iconst x_260_7 ?_
    obtain ⟨hO27, h⟩ := h
    refine r_invV x_260_8 (z := 257) (ns := 0) (by decide +kernel) (as := [g_n 1, g_n 0]) (r := []) rfl rfl rfl hO27 rfl rfl ?_
    refine r_callI h fun r31 M28 hx29 hok30 hr32 h => ?_
    replace h := h hx29 hok30 hr32
    replace hO27 := hO27.up hx29
    obtain ⟨hz, h⟩ := h
    exact r_retZ x_260_11 rfl hz h
theorem m_X12_readContainer {d : Nat} {M : g_M} {Q : Int → g_M → Prop} {a0 : Nat} {v1 : Int} (hv1 : g_InR v1) {v2 : Int} (hv2 : g_InR v2) {v3 : Int} (hv3 : g_InR v3) {v4 : Int} (hv4 : g_InR v4) (h : g_ok M → g_InR (v2 - v1) ∧ ((v2 - v1 < 4 → g_O M a0 12 ∧ g_Call d 257 [.ref a0, g_n 1, g_n v1] M (g_qI fun r33 M30 => g_ext M M30 → g_ok M30 → g_InR r33 → (r33 = 0 ∨ r33 = 1) ∧ Q r33 M30)) ∧ (¬ v2 - v1 < 4 → g_O M a0 12 ∧ g_Call d 227 [.ref a0, g_n v1] M (g_qI fun r6 M3 => g_ext M M3 → g_ok M3 → g_InR r6 → ((g_lc ((Int64.ofInt r6) &&& 4294967295) 5 < 0 → g_Call d 257 [.ref a0, g_n 2, g_n v1] M3 (g_qI fun r27 M24 => g_ext M3 M24 → g_ok M24 → g_InR r27 → (r27 = 0 ∨ r27 = 1) ∧ Q r27 M24)) ∧ (¬ g_lc ((Int64.ofInt r6) &&& 4294967295) 5 < 0 → g_InR (v2 - v1) ∧ ((0 < g_lc ((Int64.ofInt r6) &&& 4294967295) (Int64.ofInt (v2 - v1)) → g_Call d 257 [.ref a0, g_n 1, g_n v1] M3 (g_qI fun r22 M19 => g_ext M3 M19 → g_ok M19 → g_InR r22 → (r22 = 0 ∨ r22 = 1) ∧ Q r22 M19)) ∧ (¬ 0 < g_lc ((Int64.ofInt r6) &&& 4294967295) (Int64.ofInt (v2 - v1)) → ((16 < v4 → g_Call d 257 [.ref a0, g_n 8, g_n v1] M3 (g_qI fun r17 M14 => g_ext M3 M14 → g_ok M14 → g_InR r17 → (r17 = 0 ∨ r17 = 1) ∧ Q r17 M14)) ∧ (¬ 16 < v4 → g_Call d 262 [.ref a0, g_n v1, g_n v3, g_n v4] M3 (g_qI fun r12 M9 => g_ext M3 M9 → g_ok M9 → g_InR r12 → (r12 = 0 ∨ r12 = 1) ∧ Q r12 M9))))))))))) : g_Call (d + 1) 261 [.ref a0, g_n v1, g_n v2, g_n v3, g_n v4] M (g_qI Q) := by
  refine g_Call.ok fun hok0 => ?_
  replace h := h hok0
  refine r_body rfl (lv := [(0, .ref a0), (1, g_n v1), (2, g_n v2), (3, g_n v3), (4, g_n v4)]) rfl ?_
  refine g_Run.ok fun hok => ?_
  refine r_iload_n x_261_0 rfl ?_
  refine r_iload_n x_261_1 rfl ?_
  refine r_isub x_261_2 ?_
  obtain ⟨h1, h⟩ := h
  refine r_iconst x_261_3 ?_
  refine r_ic_ge x_261_4 (t := 14) (by decide +kernel) h1 (g_Rk rfl) (fun hc => ?_) (fun hc => ?_)
  · replace h := h.2 hc
    refine r_aload_n x_261_14 rfl ?_
    refine r_iload_n x_261_15 rfl ?_
    obtain ⟨hO2, h⟩ := h
    refine r_invV x_261_16 (z := 227) (ns := 0) (by decide +kernel) (as := [g_n v1]) (r := []) rfl rfl rfl hO2 rfl rfl ?_
    refine r_callI h fun r6 M3 hx4 hok5 hr7 h => ?_
    replace h := h hx4 hok5 hr7
    replace hO2 := hO2.up hx4
    refine r_i2l x_261_19 hr7 ?_
    refine r_ldc2 x_261_20 (X := 4294967295) rfl ?_
    refine r_land x_261_23 ?_
    refine r_lstore x_261_24 (by decide +kernel) rfl (lv1 := [(0, .ref a0), (1, g_n v1), (2, g_n v2), (3, g_n v3), (4, g_n v4), (5, .long ((Int64.ofInt r6) &&& 4294967295))]) rfl ?_
    refine r_lload x_261_26 rfl ?_
    refine r_ldc2 x_261_28 (X := 5) rfl ?_
    refine r_lcmp x_261_31 ?_
    refine r_if_ge x_261_32 (t := 42) (by decide +kernel) (g_InR_toInt _) (fun hc => ?_) (fun hc => ?_)
    · replace h := h.2 hc
      refine r_lload x_261_42 rfl ?_
      refine r_iload_n x_261_44 rfl ?_
      refine r_iload_n x_261_45 rfl ?_
      refine r_isub x_261_46 ?_
      obtain ⟨h8, h⟩ := h
      refine r_i2l x_261_47 h8 ?_
      refine r_lcmp x_261_48 ?_
      refine r_if_le x_261_49 (t := 59) (by decide +kernel) (g_InR_toInt _) (fun hc => ?_) (fun hc => ?_)
      · replace h := h.2 hc
        refine r_iload x_261_59 rfl ?_
        refine r_bipush x_261_61 (x := 16) rfl ?_
        refine r_ic_le x_261_63 (t := 74) (by decide +kernel) hv4 (g_Rk rfl) (fun hc => ?_) (fun hc => ?_)
        · replace h := h.2 hc
          refine r_aload_n x_261_74 rfl ?_
          refine r_iload_n x_261_75 rfl ?_
          refine r_iload_n x_261_76 rfl ?_
          refine r_iload x_261_77 rfl ?_
          refine r_invV x_261_79 (z := 262) (ns := 0) (by decide +kernel) (as := [g_n v1, g_n v3, g_n v4]) (r := []) rfl rfl rfl hO2 rfl rfl ?_
          refine r_callI h fun r12 M9 hx10 hok11 hr13 h => ?_
          replace h := h hx10 hok11 hr13
          replace hO2 := hO2.up hx10
          obtain ⟨hz, h⟩ := h
          exact r_retZ x_261_82 rfl hz h
        · replace h := h.1 hc
          refine r_aload_n x_261_66 rfl ?_
          refine r_bipush x_261_67 (x := 8) rfl ?_
          refine r_iload_n x_261_69 rfl ?_
          refine r_invV x_261_70 (z := 257) (ns := 0) (by decide +kernel) (as := [g_n 8, g_n v1]) (r := []) rfl rfl rfl hO2 rfl rfl ?_
          refine r_callI h fun r17 M14 hx15 hok16 hr18 h => ?_
          replace h := h hx15 hok16 hr18
          replace hO2 := hO2.up hx15
          obtain ⟨hz, h⟩ := h
          exact r_retZ x_261_73 rfl hz h
      · replace h := h.1 hc
        refine r_aload_n x_261_52 rfl ?_
        refine r_iconst x_261_53 ?_
        refine r_iload_n x_261_54 rfl ?_
        refine r_invV x_261_55 (z := 257) (ns := 0) (by decide +kernel) (as := [g_n 1, g_n v1]) (r := []) rfl rfl rfl hO2 rfl rfl ?_
        refine r_callI h fun r22 M19 hx20 hok21 hr23 h => ?_
        replace h := h hx20 hok21 hr23
        replace hO2 := hO2.up hx20
        obtain ⟨hz, h⟩ := h
        exact r_retZ x_261_58 rfl hz h
    · replace h := h.1 hc
      refine r_aload_n x_261_35 rfl ?_
      refine r_iconst x_261_36 ?_
      refine r_iload_n x_261_37 rfl ?_
      refine r_invV x_261_38 (z := 257) (ns := 0) (by decide +kernel) (as := [g_n 2, g_n v1]) (r := []) rfl rfl rfl hO2 rfl rfl ?_
      refine r_callI h fun r27 M24 hx25 hok26 hr28 h => ?_
      replace h := h hx25 hok26 hr28
      replace hO2 := hO2.up hx25
      obtain ⟨hz, h⟩ := h
      exact r_retZ x_261_41 rfl hz h
  · replace h := h.1 hc
    refine r_aload_n x_261_7 rfl ?_
    refine r_iconst x_261_8 ?_
    refine r_iload_n x_261_9 rfl ?_
    obtain ⟨hO29, h⟩ := h
    refine r_invV x_261_10 (z := 257) (ns := 0) (by decide +kernel) (as := [g_n 1, g_n v1]) (r := []) rfl rfl rfl hO29 rfl rfl ?_
    refine r_callI h fun r33 M30 hx31 hok32 hr34 h => ?_
    replace h := h hx31 hok32 hr34
    replace hO29 := hO29.up hx31
    obtain ⟨hz, h⟩ := h
    exact r_retZ x_261_13 rfl hz h
theorem m_X12_readElements {d : Nat} {M : g_M} {Q : Int → g_M → Prop} {a0 : Nat} {v1 : Int} (hv1 : g_InR v1) {v2 : Int} (hv2 : g_InR v2) {v3 : Int} (hv3 : g_InR v3) (h : g_ok M → g_O M a0 12 ∧ g_Call d 238 [.ref a0, g_n v1] M (g_qI fun r5 M2 => g_ext M M2 → g_ok M2 → g_InR r5 → g_Call d 237 [g_n v1] M2 (g_qI fun r10 M7 => g_ext M2 M7 → g_ok M7 → g_InR r10 → g_Run d 262 16 [(0, .ref a0), (1, g_n v1), (2, g_n v2), (3, g_n v3), (4, g_n r5), (5, g_n r10), (6, g_n 0)] [] M7 (g_qI Q)))) : g_Call (d + 1) 262 [.ref a0, g_n v1, g_n v2, g_n v3] M (g_qI Q) := by
  refine g_Call.ok fun hok0 => ?_
  replace h := h hok0
  refine r_body rfl (lv := [(0, .ref a0), (1, g_n v1), (2, g_n v2), (3, g_n v3)]) rfl ?_
  refine g_Run.ok fun hok => ?_
  refine r_aload_n x_262_0 rfl ?_
  refine r_iload_n x_262_1 rfl ?_
  obtain ⟨hO1, h⟩ := h
  refine r_invV x_262_2 (z := 238) (ns := 0) (by decide +kernel) (as := [g_n v1]) (r := []) rfl rfl rfl hO1 rfl rfl ?_
  refine r_callI h fun r5 M2 hx3 hok4 hr6 h => ?_
  replace h := h hx3 hok4 hr6
  replace hO1 := hO1.up hx3
  refine r_istore x_262_5 (by decide +kernel) rfl (lv1 := [(0, .ref a0), (1, g_n v1), (2, g_n v2), (3, g_n v3), (4, g_n r5)]) rfl ?_
  refine r_iload_n x_262_7 rfl ?_
  refine r_invS x_262_8 (z := 237) (ns := 0) (by decide +kernel) (as := [g_n v1]) (r := []) rfl rfl rfl ?_
  refine r_callI h fun r10 M7 hx8 hok9 hr11 h => ?_
  replace h := h hx8 hok9 hr11
  replace hO1 := hO1.up hx8
  refine r_istore x_262_11 (by decide +kernel) rfl (lv1 := [(0, .ref a0), (1, g_n v1), (2, g_n v2), (3, g_n v3), (4, g_n r5), (5, g_n r10)]) rfl ?_
  refine r_iconst x_262_13 ?_
  refine r_istore x_262_14 (by decide +kernel) rfl (lv1 := [(0, .ref a0), (1, g_n v1), (2, g_n v2), (3, g_n v3), (4, g_n r5), (5, g_n r10), (6, g_n 0)]) rfl ?_
  exact h
theorem s_X12_readElements_16 {d : Nat} {M : g_M} {Q : Int → g_M → Prop} {a0 : Nat} {v1 : Int} (hv1 : g_InR v1) {v2 : Int} (hv2 : g_InR v2) {v3 : Int} (hv3 : g_InR v3) {v4 : Int} (hv4 : g_InR v4) {v5 : Int} (hv5 : g_InR v5) {v6 : Int} (hv6 : g_InR v6) (h : g_ok M → ((v5 < v4 → g_O M a0 12 ∧ ∃ b13, g_r M a0 0 = some b13 ∧ ∃ n15, g_A M b13 0 n15 ∧ ((0 : Int) ≤ v5 ∧ (v5 : Int) < n15) ∧ ((g_i M b13 v5 = 0 → g_Call d 257 [.ref a0, g_n 2, g_n v5] M (g_qI fun r37 M34 => g_ext M M34 → g_ok M34 → g_InR r37 → (r37 = 0 ∨ r37 = 1) ∧ Q r37 M34)) ∧ (¬ g_i M b13 v5 = 0 → ∃ b18, g_r M a0 0 = some b18 ∧ ∃ n20, g_A M b18 0 n20 ∧ ((0 : Int) ≤ v5 ∧ (v5 : Int) < n20) ∧ g_Call d 263 [g_n (g_i M b18 v5)] M (g_qI fun r26 M23 => g_ext M M23 → g_ok M23 → g_InR r26 → ((r26 = 0 → g_Call d 257 [.ref a0, g_n 3, g_n v5] M23 (g_qI fun r32 M29 => g_ext M23 M29 → g_ok M29 → g_InR r32 → (r32 = 0 ∨ r32 = 1) ∧ Q r32 M29)) ∧ (¬ r26 = 0 → g_InR (v5 + 1) ∧ g_Run d 262 72 [(0, .ref a0), (1, g_n v1), (2, g_n v2), (3, g_n v3), (4, g_n v4), (5, g_n v5), (6, g_n v6), (7, g_n (v5 + 1)), (8, g_n (v5 + 1))] [] M23 (g_qI Q))))))) ∧ (¬ v5 < v4 → g_O M a0 12 ∧ ∃ b2, g_r M a0 0 = some b2 ∧ ∃ n4, g_A M b2 0 n4 ∧ ((0 : Int) ≤ v4 ∧ (v4 : Int) < n4) ∧ ((g_i M b2 v4 = 0 → Q 1 M) ∧ (¬ g_i M b2 v4 = 0 → g_Call d 257 [.ref a0, g_n 2, g_n v4] M (g_qI fun r10 M7 => g_ext M M7 → g_ok M7 → g_InR r10 → ((r10 = 0 → Q 0 M7) ∧ (¬ r10 = 0 → Q 1 M7)))))))) : g_Run d 262 16 [(0, .ref a0), (1, g_n v1), (2, g_n v2), (3, g_n v3), (4, g_n v4), (5, g_n v5), (6, g_n v6)] [] M (g_qI Q) := by
  refine g_Run.ok fun hok => ?_
  replace h := h hok
  refine r_iload x_262_16 rfl ?_
  refine r_iload x_262_18 rfl ?_
  refine r_ic_ge x_262_20 (t := 217) (by decide +kernel) hv5 hv4 (fun hc => ?_) (fun hc => ?_)
  · replace h := h.2 hc
    refine r_aload_n x_262_217 rfl ?_
    obtain ⟨hO1, h⟩ := h
    obtain ⟨b2, hb3, h⟩ := h
    refine r_getR x_262_218 rfl (ci := 12) (k := 0) (ns := 0) (by decide +kernel) (by decide) rfl (kz := 0) rfl hO1 hb3 ?_
    refine r_iload x_262_221 rfl ?_
    obtain ⟨n4, hA5, h⟩ := h
    obtain ⟨h6, h⟩ := h
    refine r_bald x_262_223 (Or.inl rfl) hA5 hv4 h6.1 h6.2 ?_
    refine r_if_eq x_262_224 (t := 237) (by decide +kernel) (hok.1 _ _) (fun hc => ?_) (fun hc => ?_)
    · replace h := h.1 hc
      refine r_iconst x_262_237 ?_
      refine r_goto x_262_238 (t := 242) (by decide +kernel) ?_
      exact r_retZ x_262_242 rfl (Or.inr rfl) h
    · replace h := h.2 hc
      refine r_aload_n x_262_227 rfl ?_
      refine r_iconst x_262_228 ?_
      refine r_iload x_262_229 rfl ?_
      refine r_invV x_262_231 (z := 257) (ns := 0) (by decide +kernel) (as := [g_n 2, g_n v4]) (r := []) rfl rfl rfl hO1 rfl rfl ?_
      refine r_callI h fun r10 M7 hx8 hok9 hr11 h => ?_
      replace h := h hx8 hok9 hr11
      replace hO1 := hO1.up hx8
      replace hA5 := hA5.up hx8
      refine r_if_eq x_262_234 (t := 241) (by decide +kernel) hr11 (fun hc => ?_) (fun hc => ?_)
      · replace h := h.1 hc
        refine r_iconst x_262_241 ?_
        exact r_retZ x_262_242 rfl (Or.inl rfl) h
      · replace h := h.2 hc
        refine r_iconst x_262_237 ?_
        refine r_goto x_262_238 (t := 242) (by decide +kernel) ?_
        exact r_retZ x_262_242 rfl (Or.inr rfl) h
  · replace h := h.1 hc
    refine r_aload_n x_262_23 rfl ?_
    obtain ⟨hO12, h⟩ := h
    obtain ⟨b13, hb14, h⟩ := h
    refine r_getR x_262_24 rfl (ci := 12) (k := 0) (ns := 0) (by decide +kernel) (by decide) rfl (kz := 0) rfl hO12 hb14 ?_
    refine r_iload x_262_27 rfl ?_
    obtain ⟨n15, hA16, h⟩ := h
    obtain ⟨h17, h⟩ := h
    refine r_bald x_262_29 (Or.inl rfl) hA16 hv5 h17.1 h17.2 ?_
    refine r_if_ne x_262_30 (t := 41) (by decide +kernel) (hok.1 _ _) (fun hc => ?_) (fun hc => ?_)
    · replace h := h.2 hc
      refine r_aload_n x_262_41 rfl ?_
      obtain ⟨b18, hb19, h⟩ := h
      refine r_getR x_262_42 rfl (ci := 12) (k := 0) (ns := 0) (by decide +kernel) (by decide) rfl (kz := 0) rfl hO12 hb19 ?_
      refine r_iload x_262_45 rfl ?_
      obtain ⟨n20, hA21, h⟩ := h
      obtain ⟨h22, h⟩ := h
      refine r_bald x_262_47 (Or.inl rfl) hA21 hv5 h22.1 h22.2 ?_
      refine r_invS x_262_48 (z := 263) (ns := 0) (by decide +kernel) (as := [g_n (g_i M b18 v5)]) (r := []) rfl rfl rfl ?_
      refine r_callI h fun r26 M23 hx24 hok25 hr27 h => ?_
      replace h := h hx24 hok25 hr27
      replace hO12 := hO12.up hx24
      replace hA16 := hA16.up hx24
      replace hA21 := hA21.up hx24
      refine r_if_ne x_262_51 (t := 62) (by decide +kernel) hr27 (fun hc => ?_) (fun hc => ?_)
      · replace h := h.2 hc
        refine r_iload x_262_62 rfl ?_
        refine r_iconst x_262_64 ?_
        refine r_iadd x_262_65 ?_
        obtain ⟨h28, h⟩ := h
        refine r_istore x_262_66 (by decide +kernel) rfl (lv1 := [(0, .ref a0), (1, g_n v1), (2, g_n v2), (3, g_n v3), (4, g_n v4), (5, g_n v5), (6, g_n v6), (7, g_n (v5 + 1))]) rfl ?_
        refine r_iload x_262_68 rfl ?_
        refine r_istore x_262_70 (by decide +kernel) rfl (lv1 := [(0, .ref a0), (1, g_n v1), (2, g_n v2), (3, g_n v3), (4, g_n v4), (5, g_n v5), (6, g_n v6), (7, g_n (v5 + 1)), (8, g_n (v5 + 1))]) rfl ?_
        exact h
      · replace h := h.1 hc
        refine r_aload_n x_262_54 rfl ?_
        refine r_iconst x_262_55 ?_
        refine r_iload x_262_56 rfl ?_
        refine r_invV x_262_58 (z := 257) (ns := 0) (by decide +kernel) (as := [g_n 3, g_n v5]) (r := []) rfl rfl rfl hO12 rfl rfl ?_
        refine r_callI h fun r32 M29 hx30 hok31 hr33 h => ?_
        replace h := h hx30 hok31 hr33
        replace hO12 := hO12.up hx30
        replace hA16 := hA16.up hx30
        replace hA21 := hA21.up hx30
        obtain ⟨hz, h⟩ := h
        exact r_retZ x_262_61 rfl hz h
    · replace h := h.1 hc
      refine r_aload_n x_262_33 rfl ?_
      refine r_iconst x_262_34 ?_
      refine r_iload x_262_35 rfl ?_
      refine r_invV x_262_37 (z := 257) (ns := 0) (by decide +kernel) (as := [g_n 2, g_n v5]) (r := []) rfl rfl rfl hO12 rfl rfl ?_
      refine r_callI h fun r37 M34 hx35 hok36 hr38 h => ?_
      replace h := h hx35 hok36 hr38
      replace hO12 := hO12.up hx35
      replace hA16 := hA16.up hx35
      obtain ⟨hz, h⟩ := h
      exact r_retZ x_262_40 rfl hz h
theorem s_X12_readElements_72 {d : Nat} {M : g_M} {Q : Int → g_M → Prop} {a0 : Nat} {v1 : Int} (hv1 : g_InR v1) {v2 : Int} (hv2 : g_InR v2) {v3 : Int} (hv3 : g_InR v3) {v4 : Int} (hv4 : g_InR v4) {v5 : Int} (hv5 : g_InR v5) {v6 : Int} (hv6 : g_InR v6) {v7 : Int} (hv7 : g_InR v7) {v8 : Int} (hv8 : g_InR v8) (h : g_ok M → ((v8 < v4 → g_O M a0 12 ∧ ∃ b2, g_r M a0 0 = some b2 ∧ ∃ n4, g_A M b2 0 n4 ∧ ((0 : Int) ≤ v8 ∧ (v8 : Int) < n4) ∧ ((g_i M b2 v8 = 0 → g_Run d 262 95 [(0, .ref a0), (1, g_n v1), (2, g_n v2), (3, g_n v3), (4, g_n v4), (5, g_n v5), (6, g_n v6), (7, g_n v7), (8, g_n v8)] [] M (g_qI Q)) ∧ (¬ g_i M b2 v8 = 0 → g_InR (v8 + 1) ∧ g_Run d 262 72 [(0, .ref a0), (1, g_n v1), (2, g_n v2), (3, g_n v3), (4, g_n v4), (5, g_n v5), (6, g_n v6), (7, g_n v7), (8, g_n (v8 + 1))] [] M (g_qI Q)))) ∧ (¬ v8 < v4 → g_Run d 262 95 [(0, .ref a0), (1, g_n v1), (2, g_n v2), (3, g_n v3), (4, g_n v4), (5, g_n v5), (6, g_n v6), (7, g_n v7), (8, g_n v8)] [] M (g_qI Q)))) : g_Run d 262 72 [(0, .ref a0), (1, g_n v1), (2, g_n v2), (3, g_n v3), (4, g_n v4), (5, g_n v5), (6, g_n v6), (7, g_n v7), (8, g_n v8)] [] M (g_qI Q) := by
  refine g_Run.ok fun hok => ?_
  replace h := h hok
  refine r_iload x_262_72 rfl ?_
  refine r_iload x_262_74 rfl ?_
  refine r_ic_ge x_262_76 (t := 95) (by decide +kernel) hv8 hv4 (fun hc => ?_) (fun hc => ?_)
  · replace h := h.2 hc
    exact h
  · replace h := h.1 hc
    refine r_aload_n x_262_79 rfl ?_
    obtain ⟨hO1, h⟩ := h
    obtain ⟨b2, hb3, h⟩ := h
    refine r_getR x_262_80 rfl (ci := 12) (k := 0) (ns := 0) (by decide +kernel) (by decide) rfl (kz := 0) rfl hO1 hb3 ?_
    refine r_iload x_262_83 rfl ?_
    obtain ⟨n4, hA5, h⟩ := h
    obtain ⟨h6, h⟩ := h
    refine r_bald x_262_85 (Or.inl rfl) hA5 hv8 h6.1 h6.2 ?_
    refine r_if_eq x_262_86 (t := 95) (by decide +kernel) (hok.1 _ _) (fun hc => ?_) (fun hc => ?_)
    · replace h := h.1 hc
      exact h
    · replace h := h.2 hc
      obtain ⟨h7, h⟩ := h
      refine r_iinc x_262_89 (by decide +kernel) rfl rfl (lv1 := [(0, .ref a0), (1, g_n v1), (2, g_n v2), (3, g_n v3), (4, g_n v4), (5, g_n v5), (6, g_n v6), (7, g_n v7), (8, g_n (v8 + 1))]) rfl ?_
      refine r_goto x_262_92 (t := 72) (by decide +kernel) ?_
      exact h
theorem s_X12_readElements_95 {d : Nat} {M : g_M} {Q : Int → g_M → Prop} {a0 : Nat} {v1 : Int} (hv1 : g_InR v1) {v2 : Int} (hv2 : g_InR v2) {v3 : Int} (hv3 : g_InR v3) {v4 : Int} (hv4 : g_InR v4) {v5 : Int} (hv5 : g_InR v5) {v6 : Int} (hv6 : g_InR v6) {v7 : Int} (hv7 : g_InR v7) {v8 : Int} (hv8 : g_InR v8) (h : g_ok M → ((v8 < v4 → g_O M a0 12 ∧ g_Call d 259 [.ref a0, g_n v7, g_n v8] M (g_qI fun r5 M2 => g_ext M M2 → g_ok M2 → g_InR r5 → ((r5 = 0 → Q 0 M2) ∧ (¬ r5 = 0 → ((v2 = 0 → g_Call d 265 [.ref a0, g_n v1, g_n v5, g_n v7, g_n v8] M2 (g_qI fun r10 M7 => g_ext M2 M7 → g_ok M7 → g_InR r10 → ((r10 = 0 → g_Run d 262 166 [(0, .ref a0), (1, g_n v1), (2, g_n v2), (3, g_n v3), (4, g_n v4), (5, g_n v5), (6, g_n v6), (7, g_n v7), (8, g_n v8)] [] M7 (g_qI Q)) ∧ (¬ r10 = 0 → g_Call d 257 [.ref a0, g_n 7, g_n v7] M7 (g_qI fun r15 M12 => g_ext M7 M12 → g_ok M12 → g_InR r15 → (r15 = 0 ∨ r15 = 1) ∧ Q r15 M12))))) ∧ (¬ v2 = 0 → g_Call d 264 [.ref a0, g_n v7, g_n v8, g_n v6] M2 (g_qI fun r20 M17 => g_ext M2 M17 → g_ok M17 → g_InR r20 → ((r20 = 0 → g_Call d 257 [.ref a0, g_n 7, g_n v7] M17 (g_qI fun r25 M22 => g_ext M17 M22 → g_ok M22 → g_InR r25 → (r25 = 0 ∨ r25 = 1) ∧ Q r25 M22)) ∧ (¬ r20 = 0 → g_Run d 262 166 [(0, .ref a0), (1, g_n v1), (2, g_n v2), (3, g_n v3), (4, g_n v4), (5, g_n v5), (6, g_n v6), (7, g_n v7), (8, g_n v8)] [] M17 (g_qI Q)))))))))) ∧ (¬ v8 < v4 → g_O M a0 12 ∧ g_Call d 257 [.ref a0, g_n 1, g_n v7] M (g_qI fun r31 M28 => g_ext M M28 → g_ok M28 → g_InR r31 → (r31 = 0 ∨ r31 = 1) ∧ Q r31 M28)))) : g_Run d 262 95 [(0, .ref a0), (1, g_n v1), (2, g_n v2), (3, g_n v3), (4, g_n v4), (5, g_n v5), (6, g_n v6), (7, g_n v7), (8, g_n v8)] [] M (g_qI Q) := by
  refine g_Run.ok fun hok => ?_
  replace h := h hok
  refine r_iload x_262_95 rfl ?_
  refine r_iload x_262_97 rfl ?_
  refine r_ic_lt x_262_99 (t := 110) (by decide +kernel) hv8 hv4 (fun hc => ?_) (fun hc => ?_)
  · replace h := h.1 hc
    refine r_aload_n x_262_110 rfl ?_
    refine r_iload x_262_111 rfl ?_
    refine r_iload x_262_113 rfl ?_
    obtain ⟨hO1, h⟩ := h
    refine r_invV x_262_115 (z := 259) (ns := 0) (by decide +kernel) (as := [g_n v7, g_n v8]) (r := []) rfl rfl rfl hO1 rfl rfl ?_
    refine r_callI h fun r5 M2 hx3 hok4 hr6 h => ?_
    replace h := h hx3 hok4 hr6
    replace hO1 := hO1.up hx3
    refine r_if_ne x_262_118 (t := 123) (by decide +kernel) hr6 (fun hc => ?_) (fun hc => ?_)
    · replace h := h.2 hc
      refine r_iload_n x_262_123 rfl ?_
      refine r_if_eq x_262_124 (t := 143) (by decide +kernel) hv2 (fun hc => ?_) (fun hc => ?_)
      · replace h := h.1 hc
        refine r_aload_n x_262_143 rfl ?_
        refine r_iload_n x_262_144 rfl ?_
        refine r_iload x_262_145 rfl ?_
        refine r_iload x_262_147 rfl ?_
        refine r_iload x_262_149 rfl ?_
        refine r_invV x_262_151 (z := 265) (ns := 0) (by decide +kernel) (as := [g_n v1, g_n v5, g_n v7, g_n v8]) (r := []) rfl rfl rfl hO1 rfl rfl ?_
        refine r_callI h fun r10 M7 hx8 hok9 hr11 h => ?_
        replace h := h hx8 hok9 hr11
        replace hO1 := hO1.up hx8
        refine r_if_eq x_262_154 (t := 166) (by decide +kernel) hr11 (fun hc => ?_) (fun hc => ?_)
        · replace h := h.1 hc
          exact h
        · replace h := h.2 hc
          refine r_aload_n x_262_157 rfl ?_
          refine r_bipush x_262_158 (x := 7) rfl ?_
          refine r_iload x_262_160 rfl ?_
          refine r_invV x_262_162 (z := 257) (ns := 0) (by decide +kernel) (as := [g_n 7, g_n v7]) (r := []) rfl rfl rfl hO1 rfl rfl ?_
          refine r_callI h fun r15 M12 hx13 hok14 hr16 h => ?_
          replace h := h hx13 hok14 hr16
          replace hO1 := hO1.up hx13
          obtain ⟨hz, h⟩ := h
          exact r_retZ x_262_165 rfl hz h
      · replace h := h.2 hc
        refine r_aload_n x_262_127 rfl ?_
        refine r_iload x_262_128 rfl ?_
        refine r_iload x_262_130 rfl ?_
        refine r_iload x_262_132 rfl ?_
        refine r_invV x_262_134 (z := 264) (ns := 0) (by decide +kernel) (as := [g_n v7, g_n v8, g_n v6]) (r := []) rfl rfl rfl hO1 rfl rfl ?_
        refine r_callI h fun r20 M17 hx18 hok19 hr21 h => ?_
        replace h := h hx18 hok19 hr21
        replace hO1 := hO1.up hx18
        refine r_if_ne x_262_137 (t := 166) (by decide +kernel) hr21 (fun hc => ?_) (fun hc => ?_)
        · replace h := h.2 hc
          exact h
        · replace h := h.1 hc
          refine r_goto x_262_140 (t := 157) (by decide +kernel) ?_
          refine r_aload_n x_262_157 rfl ?_
          refine r_bipush x_262_158 (x := 7) rfl ?_
          refine r_iload x_262_160 rfl ?_
          refine r_invV x_262_162 (z := 257) (ns := 0) (by decide +kernel) (as := [g_n 7, g_n v7]) (r := []) rfl rfl rfl hO1 rfl rfl ?_
          refine r_callI h fun r25 M22 hx23 hok24 hr26 h => ?_
          replace h := h hx23 hok24 hr26
          replace hO1 := hO1.up hx23
          obtain ⟨hz, h⟩ := h
          exact r_retZ x_262_165 rfl hz h
    · replace h := h.1 hc
      refine r_iconst x_262_121 ?_
      exact r_retZ x_262_122 rfl (Or.inl rfl) h
  · replace h := h.2 hc
    refine r_aload_n x_262_102 rfl ?_
    refine r_iconst x_262_103 ?_
    refine r_iload x_262_104 rfl ?_
    obtain ⟨hO27, h⟩ := h
    refine r_invV x_262_106 (z := 257) (ns := 0) (by decide +kernel) (as := [g_n 1, g_n v7]) (r := []) rfl rfl rfl hO27 rfl rfl ?_
    refine r_callI h fun r31 M28 hx29 hok30 hr32 h => ?_
    replace h := h hx29 hok30 hr32
    replace hO27 := hO27.up hx29
    obtain ⟨hz, h⟩ := h
    exact r_retZ x_262_109 rfl hz h
theorem s_X12_readElements_166 {d : Nat} {M : g_M} {Q : Int → g_M → Prop} {a0 : Nat} {v1 : Int} (hv1 : g_InR v1) {v2 : Int} (hv2 : g_InR v2) {v3 : Int} (hv3 : g_InR v3) {v4 : Int} (hv4 : g_InR v4) {v5 : Int} (hv5 : g_InR v5) {v6 : Int} (hv6 : g_InR v6) {v7 : Int} (hv7 : g_InR v7) {v8 : Int} (hv8 : g_InR v8) (h : g_ok M → g_O M a0 12 ∧ ∃ b2, g_r M a0 0 = some b2 ∧ ∃ n4, g_A M b2 0 n4 ∧ ((0 : Int) ≤ v5 ∧ (v5 : Int) < n4) ∧ g_InR (v8 + 1) ∧ g_Call d 266 [.ref a0, g_n (g_i M b2 v5), g_n (v8 + 1), g_n v4, g_n v3] M (g_qI fun r11 M8 => g_ext M M8 → g_ok M8 → g_InR r11 → ((r11 = 0 → Q 0 M8) ∧ (¬ r11 = 0 → g_InR (v8 + 1) ∧ ∃ b14, g_r M8 a0 0 = some b14 ∧ ∃ n16, g_A M8 b14 0 n16 ∧ ((0 : Int) ≤ v5 ∧ (v5 : Int) < n16) ∧ g_InR (v8 + 1) ∧ g_Call d 234 [.ref a0, g_n (g_i M8 b14 v5), g_n (v8 + 1)] M8 (g_qI fun r23 M20 => g_ext M8 M20 → g_ok M20 → g_InR r23 → g_InR ((v8 + 1) + r23) ∧ g_InR (v6 + 1) ∧ g_Run d 262 16 [(0, .ref a0), (1, g_n v1), (2, g_n v2), (3, g_n v3), (4, g_n v4), (5, g_n ((v8 + 1) + r23)), (6, g_n (v6 + 1))] [] M20 (g_qI Q)))))) : g_Run d 262 166 [(0, .ref a0), (1, g_n v1), (2, g_n v2), (3, g_n v3), (4, g_n v4), (5, g_n v5), (6, g_n v6), (7, g_n v7), (8, g_n v8)] [] M (g_qI Q) := by
  refine g_Run.ok fun hok => ?_
  replace h := h hok
  refine r_aload_n x_262_166 rfl ?_
  refine r_aload_n x_262_167 rfl ?_
  obtain ⟨hO1, h⟩ := h
  obtain ⟨b2, hb3, h⟩ := h
  refine r_getR x_262_168 rfl (ci := 12) (k := 0) (ns := 0) (by decide +kernel) (by decide) rfl (kz := 0) rfl hO1 hb3 ?_
  refine r_iload x_262_171 rfl ?_
  obtain ⟨n4, hA5, h⟩ := h
  obtain ⟨h6, h⟩ := h
  refine r_bald x_262_173 (Or.inl rfl) hA5 hv5 h6.1 h6.2 ?_
  refine r_iload x_262_174 rfl ?_
  refine r_iconst x_262_176 ?_
  refine r_iadd x_262_177 ?_
  obtain ⟨h7, h⟩ := h
  refine r_iload x_262_178 rfl ?_
  refine r_iload_n x_262_180 rfl ?_
  refine r_invV x_262_181 (z := 266) (ns := 0) (by decide +kernel) (as := [g_n (g_i M b2 v5), g_n (v8 + 1), g_n v4, g_n v3]) (r := []) rfl rfl rfl hO1 rfl rfl ?_
  refine r_callI h fun r11 M8 hx9 hok10 hr12 h => ?_
  replace h := h hx9 hok10 hr12
  replace hO1 := hO1.up hx9
  replace hA5 := hA5.up hx9
  refine r_if_ne x_262_184 (t := 189) (by decide +kernel) hr12 (fun hc => ?_) (fun hc => ?_)
  · replace h := h.2 hc
    refine r_iload x_262_189 rfl ?_
    refine r_iconst x_262_191 ?_
    refine r_iadd x_262_192 ?_
    obtain ⟨h13, h⟩ := h
    refine r_aload_n x_262_193 rfl ?_
    refine r_aload_n x_262_194 rfl ?_
    obtain ⟨b14, hb15, h⟩ := h
    refine r_getR x_262_195 rfl (ci := 12) (k := 0) (ns := 0) (by decide +kernel) (by decide) rfl (kz := 0) rfl hO1 hb15 ?_
    refine r_iload x_262_198 rfl ?_
    obtain ⟨n16, hA17, h⟩ := h
    obtain ⟨h18, h⟩ := h
    refine r_bald x_262_200 (Or.inl rfl) hA17 hv5 h18.1 h18.2 ?_
    refine r_iload x_262_201 rfl ?_
    refine r_iconst x_262_203 ?_
    refine r_iadd x_262_204 ?_
    obtain ⟨h19, h⟩ := h
    refine r_invV x_262_205 (z := 234) (ns := 0) (by decide +kernel) (as := [g_n (g_i M8 b14 v5), g_n (v8 + 1)]) (r := [g_n (v8 + 1)]) rfl rfl rfl hO1 rfl rfl ?_
    refine r_callI h fun r23 M20 hx21 hok22 hr24 h => ?_
    replace h := h hx21 hok22 hr24
    replace hO1 := hO1.up hx21
    replace hA5 := hA5.up hx21
    replace hA17 := hA17.up hx21
    refine r_iadd x_262_208 ?_
    obtain ⟨h25, h⟩ := h
    refine r_istore x_262_209 (by decide +kernel) rfl (lv1 := [(0, .ref a0), (1, g_n v1), (2, g_n v2), (3, g_n v3), (4, g_n v4), (5, g_n ((v8 + 1) + r23)), (6, g_n v6), (7, g_n v7), (8, g_n v8)]) rfl ?_
    obtain ⟨h26, h⟩ := h
    refine r_iinc x_262_211 (by decide +kernel) rfl rfl (lv1 := [(0, .ref a0), (1, g_n v1), (2, g_n v2), (3, g_n v3), (4, g_n v4), (5, g_n ((v8 + 1) + r23)), (6, g_n (v6 + 1)), (7, g_n v7), (8, g_n v8)]) rfl ?_
    refine r_goto x_262_214 (t := 16) (by decide +kernel) ?_
    refine g_drop [0, 1, 2, 3, 4, 5, 6] (lv1 := [(0, .ref a0), (1, g_n v1), (2, g_n v2), (3, g_n v3), (4, g_n v4), (5, g_n ((v8 + 1) + r23)), (6, g_n (v6 + 1))]) rfl ?_
    exact h
  · replace h := h.1 hc
    refine r_iconst x_262_187 ?_
    exact r_retZ x_262_188 rfl (Or.inl rfl) h
theorem m_X12_isKind {d : Nat} {M : g_M} {Q : Int → g_M → Prop} {v0 : Int} (hv0 : g_InR v0) (h : g_ok M → ((v0 = 16 → Q 1 M) ∧ (¬ v0 = 16 → ((v0 = 18 → Q 1 M) ∧ (¬ v0 = 18 → ((v0 = 8 → Q 1 M) ∧ (¬ v0 = 8 → ((v0 = 10 → Q 1 M) ∧ (¬ v0 = 10 → ((v0 = 2 → Q 1 M) ∧ (¬ v0 = 2 → ((v0 = 3 → Q 1 M) ∧ (¬ v0 = 3 → ((v0 = 4 → Q 1 M) ∧ (¬ v0 = 4 → Q 0 M))))))))))))))) : g_Call (d + 1) 263 [g_n v0] M (g_qI Q) := by
  refine g_Call.ok fun hok0 => ?_
  replace h := h hok0
  refine r_body rfl (lv := [(0, g_n v0)]) rfl ?_
  refine g_Run.ok fun hok => ?_
  refine r_iload_n x_263_0 rfl ?_
  refine r_bipush x_263_1 (x := 16) rfl ?_
  refine r_ic_eq x_263_3 (t := 39) (by decide +kernel) hv0 (g_Rk rfl) (fun hc => ?_) (fun hc => ?_)
  · replace h := h.1 hc
    refine r_iconst x_263_39 ?_
    refine r_goto x_263_40 (t := 44) (by decide +kernel) ?_
    exact r_retZ x_263_44 rfl (Or.inr rfl) h
  · replace h := h.2 hc
    refine r_iload_n x_263_6 rfl ?_
    refine r_bipush x_263_7 (x := 18) rfl ?_
    refine r_ic_eq x_263_9 (t := 39) (by decide +kernel) hv0 (g_Rk rfl) (fun hc => ?_) (fun hc => ?_)
    · replace h := h.1 hc
      refine r_iconst x_263_39 ?_
      refine r_goto x_263_40 (t := 44) (by decide +kernel) ?_
      exact r_retZ x_263_44 rfl (Or.inr rfl) h
    · replace h := h.2 hc
      refine r_iload_n x_263_12 rfl ?_
      refine r_bipush x_263_13 (x := 8) rfl ?_
      refine r_ic_eq x_263_15 (t := 39) (by decide +kernel) hv0 (g_Rk rfl) (fun hc => ?_) (fun hc => ?_)
      · replace h := h.1 hc
        refine r_iconst x_263_39 ?_
        refine r_goto x_263_40 (t := 44) (by decide +kernel) ?_
        exact r_retZ x_263_44 rfl (Or.inr rfl) h
      · replace h := h.2 hc
        refine r_iload_n x_263_18 rfl ?_
        refine r_bipush x_263_19 (x := 10) rfl ?_
        refine r_ic_eq x_263_21 (t := 39) (by decide +kernel) hv0 (g_Rk rfl) (fun hc => ?_) (fun hc => ?_)
        · replace h := h.1 hc
          refine r_iconst x_263_39 ?_
          refine r_goto x_263_40 (t := 44) (by decide +kernel) ?_
          exact r_retZ x_263_44 rfl (Or.inr rfl) h
        · replace h := h.2 hc
          refine r_iload_n x_263_24 rfl ?_
          refine r_iconst x_263_25 ?_
          refine r_ic_eq x_263_26 (t := 39) (by decide +kernel) hv0 (g_Rk rfl) (fun hc => ?_) (fun hc => ?_)
          · replace h := h.1 hc
            refine r_iconst x_263_39 ?_
            refine r_goto x_263_40 (t := 44) (by decide +kernel) ?_
            exact r_retZ x_263_44 rfl (Or.inr rfl) h
          · replace h := h.2 hc
            refine r_iload_n x_263_29 rfl ?_
            refine r_iconst x_263_30 ?_
            refine r_ic_eq x_263_31 (t := 39) (by decide +kernel) hv0 (g_Rk rfl) (fun hc => ?_) (fun hc => ?_)
            · replace h := h.1 hc
              refine r_iconst x_263_39 ?_
              refine r_goto x_263_40 (t := 44) (by decide +kernel) ?_
              exact r_retZ x_263_44 rfl (Or.inr rfl) h
            · replace h := h.2 hc
              refine r_iload_n x_263_34 rfl ?_
              refine r_iconst x_263_35 ?_
              refine r_ic_ne x_263_36 (t := 43) (by decide +kernel) hv0 (g_Rk rfl) (fun hc => ?_) (fun hc => ?_)
              · replace h := h.2 hc
                refine r_iconst x_263_43 ?_
                exact r_retZ x_263_44 rfl (Or.inl rfl) h
              · replace h := h.1 hc
                refine r_iconst x_263_39 ?_
                refine r_goto x_263_40 (t := 44) (by decide +kernel) ?_
                exact r_retZ x_263_44 rfl (Or.inr rfl) h
theorem m_X12_isDigits {d : Nat} {M : g_M} {Q : Int → g_M → Prop} {a0 : Nat} {v1 : Int} (hv1 : g_InR v1) {v2 : Int} (hv2 : g_InR v2) {v3 : Int} (hv3 : g_InR v3) (h : g_ok M → g_Run d 264 6 [(0, .ref a0), (1, g_n v1), (2, g_n v2), (3, g_n v3), (4, g_n 1), (5, g_n 1)] [] M (g_qI Q)) : g_Call (d + 1) 264 [.ref a0, g_n v1, g_n v2, g_n v3] M (g_qI Q) := by
  refine g_Call.ok fun hok0 => ?_
  replace h := h hok0
  refine r_body rfl (lv := [(0, .ref a0), (1, g_n v1), (2, g_n v2), (3, g_n v3)]) rfl ?_
  refine g_Run.ok fun hok => ?_
  refine r_iconst x_264_0 ?_
  refine r_istore x_264_1 (by decide +kernel) rfl (lv1 := [(0, .ref a0), (1, g_n v1), (2, g_n v2), (3, g_n v3), (4, g_n 1)]) rfl ?_
  refine r_iconst x_264_3 ?_
  refine r_istore x_264_4 (by decide +kernel) rfl (lv1 := [(0, .ref a0), (1, g_n v1), (2, g_n v2), (3, g_n v3), (4, g_n 1), (5, g_n 1)]) rfl ?_
  exact h
theorem s_X12_isDigits_6 {d : Nat} {M : g_M} {Q : Int → g_M → Prop} {a0 : Nat} {v1 : Int} (hv1 : g_InR v1) {v2 : Int} (hv2 : g_InR v2) {v3 : Int} (hv3 : g_InR v3) {v4 : Int} (hv4 : g_InR v4) {v5 : Int} (hv5 : g_InR v5) (h : g_ok M → (0 : Int) < v4 ∧ ((9 < v3.tdiv v4 → g_InR (v4 * 10) ∧ g_InR (v5 + 1) ∧ g_Run d 264 6 [(0, .ref a0), (1, g_n v1), (2, g_n v2), (3, g_n v3), (4, g_n (v4 * 10)), (5, g_n (v5 + 1))] [] M (g_qI Q)) ∧ (¬ 9 < v3.tdiv v4 → g_InR (v2 - v1) ∧ ((v2 - v1 = v5 → g_Run d 264 41 [(0, .ref a0), (1, g_n v1), (2, g_n v2), (3, g_n v3), (4, g_n v4), (5, g_n v5), (6, g_n v1)] [] M (g_qI Q)) ∧ (¬ v2 - v1 = v5 → Q 0 M))))) : g_Run d 264 6 [(0, .ref a0), (1, g_n v1), (2, g_n v2), (3, g_n v3), (4, g_n v4), (5, g_n v5)] [] M (g_qI Q) := by
  refine g_Run.ok fun hok => ?_
  replace h := h hok
  refine r_iload_n x_264_6 rfl ?_
  refine r_iload x_264_7 rfl ?_
  obtain ⟨h1, h⟩ := h
  refine r_idiv x_264_9 hv3 hv4 h1 ?_
  refine r_bipush x_264_10 (x := 9) rfl ?_
  refine r_ic_le x_264_12 (t := 28) (by decide +kernel) (g_tdiv_R hv3 h1) (g_Rk rfl) (fun hc => ?_) (fun hc => ?_)
  · replace h := h.2 hc
    refine r_iload_n x_264_28 rfl ?_
    refine r_iload_n x_264_29 rfl ?_
    refine r_isub x_264_30 ?_
    obtain ⟨h2, h⟩ := h
    refine r_iload x_264_31 rfl ?_
    refine r_ic_eq x_264_33 (t := 38) (by decide +kernel) h2 hv5 (fun hc => ?_) (fun hc => ?_)
    · replace h := h.1 hc
      refine r_iload_n x_264_38 rfl ?_
      refine r_istore x_264_39 (by decide +kernel) rfl (lv1 := [(0, .ref a0), (1, g_n v1), (2, g_n v2), (3, g_n v3), (4, g_n v4), (5, g_n v5), (6, g_n v1)]) rfl ?_
      exact h
    · replace h := h.2 hc
      refine r_iconst x_264_36 ?_
      exact r_retZ x_264_37 rfl (Or.inl rfl) h
  · replace h := h.1 hc
    refine r_iload x_264_15 rfl ?_
    refine r_bipush x_264_17 (x := 10) rfl ?_
    refine r_imul x_264_19 ?_
    obtain ⟨h3, h⟩ := h
    refine r_istore x_264_20 (by decide +kernel) rfl (lv1 := [(0, .ref a0), (1, g_n v1), (2, g_n v2), (3, g_n v3), (4, g_n (v4 * 10)), (5, g_n v5)]) rfl ?_
    obtain ⟨h4, h⟩ := h
    refine r_iinc x_264_22 (by decide +kernel) rfl rfl (lv1 := [(0, .ref a0), (1, g_n v1), (2, g_n v2), (3, g_n v3), (4, g_n (v4 * 10)), (5, g_n (v5 + 1))]) rfl ?_
    refine r_goto x_264_25 (t := 6) (by decide +kernel) ?_
    exact h
theorem s_X12_isDigits_41 {d : Nat} {M : g_M} {Q : Int → g_M → Prop} {a0 : Nat} {v1 : Int} (hv1 : g_InR v1) {v2 : Int} (hv2 : g_InR v2) {v3 : Int} (hv3 : g_InR v3) {v4 : Int} (hv4 : g_InR v4) {v5 : Int} (hv5 : g_InR v5) {v6 : Int} (hv6 : g_InR v6) (h : g_ok M → ((v6 < v2 → g_O M a0 12 ∧ g_Call d 226 [.ref a0, g_n v6] M (g_qI fun r5 M2 => g_ext M M2 → g_ok M2 → g_InR r5 → (0 : Int) < v4 ∧ g_InR (48 + ((v3.tdiv v4).tmod 10)) ∧ ((r5 = 48 + ((v3.tdiv v4).tmod 10) → g_InR (v6 + 1) ∧ g_Run d 264 41 [(0, .ref a0), (1, g_n v1), (2, g_n v2), (3, g_n v3), (4, g_n (v4.tdiv 10)), (5, g_n v5), (6, g_n (v6 + 1))] [] M2 (g_qI Q)) ∧ (¬ r5 = 48 + ((v3.tdiv v4).tmod 10) → Q 0 M2)))) ∧ (¬ v6 < v2 → Q 1 M))) : g_Run d 264 41 [(0, .ref a0), (1, g_n v1), (2, g_n v2), (3, g_n v3), (4, g_n v4), (5, g_n v5), (6, g_n v6)] [] M (g_qI Q) := by
  refine g_Run.ok fun hok => ?_
  replace h := h hok
  refine r_iload x_264_41 rfl ?_
  refine r_iload_n x_264_43 rfl ?_
  refine r_ic_ge x_264_44 (t := 81) (by decide +kernel) hv6 hv2 (fun hc => ?_) (fun hc => ?_)
  · replace h := h.2 hc
    refine r_iconst x_264_81 ?_
    exact r_retZ x_264_82 rfl (Or.inr rfl) h
  · replace h := h.1 hc
    refine r_aload_n x_264_47 rfl ?_
    refine r_iload x_264_48 rfl ?_
    obtain ⟨hO1, h⟩ := h
    refine r_invV x_264_50 (z := 226) (ns := 0) (by decide +kernel) (as := [g_n v6]) (r := []) rfl rfl rfl hO1 rfl rfl ?_
    refine r_callI h fun r5 M2 hx3 hok4 hr6 h => ?_
    replace h := h hx3 hok4 hr6
    replace hO1 := hO1.up hx3
    refine r_bipush x_264_53 (x := 48) rfl ?_
    refine r_iload_n x_264_55 rfl ?_
    refine r_iload x_264_56 rfl ?_
    obtain ⟨h7, h⟩ := h
    refine r_idiv x_264_58 hv3 hv4 h7 ?_
    refine r_bipush x_264_59 (x := 10) rfl ?_
    refine r_irem x_264_61 (g_tdiv_R hv3 h7) (g_Rk rfl) (by decide) ?_
    refine r_iadd x_264_62 ?_
    obtain ⟨h8, h⟩ := h
    refine r_ic_eq x_264_63 (t := 68) (by decide +kernel) hr6 h8 (fun hc => ?_) (fun hc => ?_)
    · replace h := h.1 hc
      refine r_iload x_264_68 rfl ?_
      refine r_bipush x_264_70 (x := 10) rfl ?_
      refine r_idiv x_264_72 hv4 (g_Rk rfl) (by decide) ?_
      refine r_istore x_264_73 (by decide +kernel) rfl (lv1 := [(0, .ref a0), (1, g_n v1), (2, g_n v2), (3, g_n v3), (4, g_n (v4.tdiv 10)), (5, g_n v5), (6, g_n v6)]) rfl ?_
      obtain ⟨h9, h⟩ := h
      refine r_iinc x_264_75 (by decide +kernel) rfl rfl (lv1 := [(0, .ref a0), (1, g_n v1), (2, g_n v2), (3, g_n v3), (4, g_n (v4.tdiv 10)), (5, g_n v5), (6, g_n (v6 + 1))]) rfl ?_
      refine r_goto x_264_78 (t := 41) (by decide +kernel) ?_
      exact h
    · replace h := h.2 hc
      refine r_iconst x_264_66 ?_
      exact r_retZ x_264_67 rfl (Or.inl rfl) h
theorem m_X12_isThere {d : Nat} {M : g_M} {Q : Int → g_M → Prop} {a0 : Nat} {v1 : Int} (hv1 : g_InR v1) {v2 : Int} (hv2 : g_InR v2) {v3 : Int} (hv3 : g_InR v3) {v4 : Int} (hv4 : g_InR v4) (h : g_ok M → g_Call d 237 [g_n v1] M (g_qI fun r4 M1 => g_ext M M1 → g_ok M1 → g_InR r4 → g_Run d 265 6 [(0, .ref a0), (1, g_n v1), (2, g_n v2), (3, g_n v3), (4, g_n v4), (5, g_n r4)] [] M1 (g_qI Q))) : g_Call (d + 1) 265 [.ref a0, g_n v1, g_n v2, g_n v3, g_n v4] M (g_qI Q) := by
  refine g_Call.ok fun hok0 => ?_
  replace h := h hok0
  refine r_body rfl (lv := [(0, .ref a0), (1, g_n v1), (2, g_n v2), (3, g_n v3), (4, g_n v4)]) rfl ?_
  refine g_Run.ok fun hok => ?_
  refine r_iload_n x_265_0 rfl ?_
  refine r_invS x_265_1 (z := 237) (ns := 0) (by decide +kernel) (as := [g_n v1]) (r := []) rfl rfl rfl ?_
  refine r_callI h fun r4 M1 hx2 hok3 hr5 h => ?_
  replace h := h hx2 hok3 hr5
  refine r_istore x_265_4 (by decide +kernel) rfl (lv1 := [(0, .ref a0), (1, g_n v1), (2, g_n v2), (3, g_n v3), (4, g_n v4), (5, g_n r4)]) rfl ?_
  exact h
theorem s_X12_isThere_6 {d : Nat} {M : g_M} {Q : Int → g_M → Prop} {a0 : Nat} {v1 : Int} (hv1 : g_InR v1) {v2 : Int} (hv2 : g_InR v2) {v3 : Int} (hv3 : g_InR v3) {v4 : Int} (hv4 : g_InR v4) {v5 : Int} (hv5 : g_InR v5) (h : g_ok M → ((v5 < v2 → g_InR (v5 + 1) ∧ g_O M a0 12 ∧ g_Call d 232 [.ref a0, g_n v5] M (g_qI fun r6 M3 => g_ext M M3 → g_ok M3 → g_InR r6 → g_Call d 230 [.ref a0, g_n (v5 + 1), g_n r6, g_n v3, g_n v4] M3 (g_qI fun r11 M8 => g_ext M3 M8 → g_ok M8 → g_InR r11 → ((r11 = 0 → g_Call d 235 [.ref a0, g_n v5] M8 (g_qI fun r16 M13 => g_ext M8 M13 → g_ok M13 → g_InR r16 → g_Run d 265 6 [(0, .ref a0), (1, g_n v1), (2, g_n v2), (3, g_n v3), (4, g_n v4), (5, g_n r16)] [] M13 (g_qI Q))) ∧ (¬ r11 = 0 → Q 1 M8))))) ∧ (¬ v5 < v2 → Q 0 M))) : g_Run d 265 6 [(0, .ref a0), (1, g_n v1), (2, g_n v2), (3, g_n v3), (4, g_n v4), (5, g_n v5)] [] M (g_qI Q) := by
  refine g_Run.ok fun hok => ?_
  replace h := h hok
  refine r_iload x_265_6 rfl ?_
  refine r_iload_n x_265_8 rfl ?_
  refine r_ic_ge x_265_9 (t := 45) (by decide +kernel) hv5 hv2 (fun hc => ?_) (fun hc => ?_)
  · replace h := h.2 hc
    refine r_iconst x_265_45 ?_
    exact r_retZ x_265_46 rfl (Or.inl rfl) h
  · replace h := h.1 hc
    refine r_aload_n x_265_12 rfl ?_
    refine r_iload x_265_13 rfl ?_
    refine r_iconst x_265_15 ?_
    refine r_iadd x_265_16 ?_
    obtain ⟨h1, h⟩ := h
    refine r_aload_n x_265_17 rfl ?_
    refine r_iload x_265_18 rfl ?_
    obtain ⟨hO2, h⟩ := h
    refine r_invV x_265_20 (z := 232) (ns := 0) (by decide +kernel) (as := [g_n v5]) (r := [g_n (v5 + 1), .ref a0]) rfl rfl rfl hO2 rfl rfl ?_
    refine r_callI h fun r6 M3 hx4 hok5 hr7 h => ?_
    replace h := h hx4 hok5 hr7
    replace hO2 := hO2.up hx4
    refine r_iload_n x_265_23 rfl ?_
    refine r_iload x_265_24 rfl ?_
    refine r_invV x_265_26 (z := 230) (ns := 0) (by decide +kernel) (as := [g_n (v5 + 1), g_n r6, g_n v3, g_n v4]) (r := []) rfl rfl rfl hO2 rfl rfl ?_
    refine r_callI h fun r11 M8 hx9 hok10 hr12 h => ?_
    replace h := h hx9 hok10 hr12
    replace hO2 := hO2.up hx9
    refine r_if_eq x_265_29 (t := 34) (by decide +kernel) hr12 (fun hc => ?_) (fun hc => ?_)
    · replace h := h.1 hc
      refine r_aload_n x_265_34 rfl ?_
      refine r_iload x_265_35 rfl ?_
      refine r_invV x_265_37 (z := 235) (ns := 0) (by decide +kernel) (as := [g_n v5]) (r := []) rfl rfl rfl hO2 rfl rfl ?_
      refine r_callI h fun r16 M13 hx14 hok15 hr17 h => ?_
      replace h := h hx14 hok15 hr17
      replace hO2 := hO2.up hx14
      refine r_istore x_265_40 (by decide +kernel) rfl (lv1 := [(0, .ref a0), (1, g_n v1), (2, g_n v2), (3, g_n v3), (4, g_n v4), (5, g_n r16)]) rfl ?_
      refine r_goto x_265_42 (t := 6) (by decide +kernel) ?_
      exact h
    · replace h := h.2 hc
      refine r_iconst x_265_32 ?_
      exact r_retZ x_265_33 rfl (Or.inr rfl) h
theorem m_X12_readValue {d : Nat} {M : g_M} {Q : Int → g_M → Prop} {a0 : Nat} {v1 : Int} (hv1 : g_InR v1) {v2 : Int} (hv2 : g_InR v2) {v3 : Int} (hv3 : g_InR v3) {v4 : Int} (hv4 : g_InR v4) (h : g_ok M → g_InR (v3 - v2) ∧ ((v1 = 3 → g_Run d 266 15 [(0, .ref a0), (1, g_n v1), (2, g_n v2), (3, g_n v3), (4, g_n v4), (5, g_n (v3 - v2))] [] M (g_qI Q)) ∧ (¬ v1 = 3 → ((v1 = 4 → g_Run d 266 15 [(0, .ref a0), (1, g_n v1), (2, g_n v2), (3, g_n v3), (4, g_n v4), (5, g_n (v3 - v2))] [] M (g_qI Q)) ∧ (¬ v1 = 4 → ((v1 = 2 → ((v3 - v2 < 4 → g_O M a0 12 ∧ g_Call d 257 [.ref a0, g_n 1, g_n v2] M (g_qI fun r41 M38 => g_ext M M38 → g_ok M38 → g_InR r41 → (r41 = 0 ∨ r41 = 1) ∧ Q r41 M38)) ∧ (¬ v3 - v2 < 4 → g_O M a0 12 ∧ g_Call d 227 [.ref a0, g_n v2] M (g_qI fun r6 M3 => g_ext M M3 → g_ok M3 → g_InR r6 → ((g_lc ((Int64.ofInt r6) &&& 4294967295) 1 < 0 → g_Call d 257 [.ref a0, g_n 6, g_n v2] M3 (g_qI fun r35 M32 => g_ext M3 M32 → g_ok M32 → g_InR r35 → (r35 = 0 ∨ r35 = 1) ∧ Q r35 M32)) ∧ (¬ g_lc ((Int64.ofInt r6) &&& 4294967295) 1 < 0 → ((g_lc (Int64.ofInt (v3 - v2)) (4 + ((Int64.ofInt r6) &&& 4294967295)) < 0 → g_Call d 257 [.ref a0, g_n 1, g_n v2] M3 (g_qI fun r30 M27 => g_ext M3 M27 → g_ok M27 → g_InR r30 → (r30 = 0 ∨ r30 = 1) ∧ Q r30 M27)) ∧ (¬ g_lc (Int64.ofInt (v3 - v2)) (4 + ((Int64.ofInt r6) &&& 4294967295)) < 0 → g_InR (v2 + 4) ∧ g_InR ((v2 + 4) + (((Int64.ofInt r6) &&& 4294967295).toInt32.toInt)) ∧ g_InR (((v2 + 4) + (((Int64.ofInt r6) &&& 4294967295).toInt32.toInt)) - 1) ∧ ∃ b11, g_r M3 a0 0 = some b11 ∧ ∃ n13, g_A M3 b11 0 n13 ∧ ((0 : Int) ≤ ((v2 + 4) + (((Int64.ofInt r6) &&& 4294967295).toInt32.toInt)) - 1 ∧ (((v2 + 4) + (((Int64.ofInt r6) &&& 4294967295).toInt32.toInt)) - 1 : Int) < n13) ∧ ((g_i M3 b11 (((v2 + 4) + (((Int64.ofInt r6) &&& 4294967295).toInt32.toInt)) - 1) = 0 → g_InR (v2 + 4) ∧ g_Call d 259 [.ref a0, g_n (v2 + 4), g_n (((v2 + 4) + (((Int64.ofInt r6) &&& 4294967295).toInt32.toInt)) - 1)] M3 (g_qI fun r20 M17 => g_ext M3 M17 → g_ok M17 → g_InR r20 → (r20 = 0 ∨ r20 = 1) ∧ Q r20 M17)) ∧ (¬ g_i M3 b11 (((v2 + 4) + (((Int64.ofInt r6) &&& 4294967295).toInt32.toInt)) - 1) = 0 → g_Call d 257 [.ref a0, g_n 6, g_n (((v2 + 4) + (((Int64.ofInt r6) &&& 4294967295).toInt32.toInt)) - 1)] M3 (g_qI fun r25 M22 => g_ext M3 M22 → g_ok M22 → g_InR r25 → (r25 = 0 ∨ r25 = 1) ∧ Q r25 M22))))))))))) ∧ (¬ v1 = 2 → g_O M a0 12 ∧ g_Call d 234 [.ref a0, g_n v1, g_n v2] M (g_qI fun r47 M44 => g_ext M M44 → g_ok M44 → g_InR r47 → ((v3 - v2 < r47 → g_Call d 257 [.ref a0, g_n 1, g_n v2] M44 (g_qI fun r62 M59 => g_ext M44 M59 → g_ok M59 → g_InR r62 → (r62 = 0 ∨ r62 = 1) ∧ Q r62 M59)) ∧ (¬ v3 - v2 < r47 → ((v1 = 8 → g_Call d 226 [.ref a0, g_n v2] M44 (g_qI fun r52 M49 => g_ext M44 M49 → g_ok M49 → g_InR r52 → ((r52 < 2 → Q 1 M49) ∧ (¬ r52 < 2 → g_Call d 257 [.ref a0, g_n 5, g_n v2] M49 (g_qI fun r57 M54 => g_ext M49 M54 → g_ok M54 → g_InR r57 → ((r57 = 0 → Q 0 M54) ∧ (¬ r57 = 0 → Q 1 M54))))))) ∧ (¬ v1 = 8 → Q 1 M44)))))))))))) : g_Call (d + 1) 266 [.ref a0, g_n v1, g_n v2, g_n v3, g_n v4] M (g_qI Q) := by
  refine g_Call.ok fun hok0 => ?_
  replace h := h hok0
  refine r_body rfl (lv := [(0, .ref a0), (1, g_n v1), (2, g_n v2), (3, g_n v3), (4, g_n v4)]) rfl ?_
  refine g_Run.ok fun hok => ?_
  refine r_iload_n x_266_0 rfl ?_
  refine r_iload_n x_266_1 rfl ?_
  refine r_isub x_266_2 ?_
  obtain ⟨h1, h⟩ := h
  refine r_istore x_266_3 (by decide +kernel) rfl (lv1 := [(0, .ref a0), (1, g_n v1), (2, g_n v2), (3, g_n v3), (4, g_n v4), (5, g_n (v3 - v2))]) rfl ?_
  refine r_iload_n x_266_5 rfl ?_
  refine r_iconst x_266_6 ?_
  refine r_ic_eq x_266_7 (t := 15) (by decide +kernel) hv1 (g_Rk rfl) (fun hc => ?_) (fun hc => ?_)
  · replace h := h.1 hc
    exact h
  · replace h := h.2 hc
    refine r_iload_n x_266_10 rfl ?_
    refine r_iconst x_266_11 ?_
    refine r_ic_ne x_266_12 (t := 36) (by decide +kernel) hv1 (g_Rk rfl) (fun hc => ?_) (fun hc => ?_)
    · replace h := h.2 hc
      refine r_iload_n x_266_36 rfl ?_
      refine r_iconst x_266_37 ?_
      refine r_ic_eq x_266_38 (t := 89) (by decide +kernel) hv1 (g_Rk rfl) (fun hc => ?_) (fun hc => ?_)
      · replace h := h.1 hc
        refine r_iload x_266_89 rfl ?_
        refine r_iconst x_266_91 ?_
        refine r_ic_ge x_266_92 (t := 102) (by decide +kernel) h1 (g_Rk rfl) (fun hc => ?_) (fun hc => ?_)
        · replace h := h.2 hc
          refine r_aload_n x_266_102 rfl ?_
          refine r_iload_n x_266_103 rfl ?_
          obtain ⟨hO2, h⟩ := h
          refine r_invV x_266_104 (z := 227) (ns := 0) (by decide +kernel) (as := [g_n v2]) (r := []) rfl rfl rfl hO2 rfl rfl ?_
          refine r_callI h fun r6 M3 hx4 hok5 hr7 h => ?_
          replace h := h hx4 hok5 hr7
          replace hO2 := hO2.up hx4
          refine r_i2l x_266_107 hr7 ?_
          refine r_ldc2 x_266_108 (X := 4294967295) rfl ?_
          refine r_land x_266_111 ?_
          refine r_lstore x_266_112 (by decide +kernel) rfl (lv1 := [(0, .ref a0), (1, g_n v1), (2, g_n v2), (3, g_n v3), (4, g_n v4), (5, g_n (v3 - v2)), (6, .long ((Int64.ofInt r6) &&& 4294967295))]) rfl ?_
          refine r_lload x_266_114 rfl ?_
          refine r_lconst x_266_116 ?_
          show g_Run d 266 117 [(0, .ref a0), (1, g_n v1), (2, g_n v2), (3, g_n v3), (4, g_n v4), (5, g_n (v3 - v2)), (6, .long ((Int64.ofInt r6) &&& 4294967295))] [.long 1, .long ((Int64.ofInt r6) &&& 4294967295)] M3 _
          refine r_lcmp x_266_117 ?_
          refine r_if_ge x_266_118 (t := 129) (by decide +kernel) (g_InR_toInt _) (fun hc => ?_) (fun hc => ?_)
          · replace h := h.2 hc
            refine r_iload x_266_129 rfl ?_
            refine r_i2l x_266_131 h1 ?_
            refine r_ldc2 x_266_132 (X := 4) rfl ?_
            refine r_lload x_266_135 rfl ?_
            refine r_ladd x_266_137 ?_
            refine r_lcmp x_266_138 ?_
            refine r_if_ge x_266_139 (t := 149) (by decide +kernel) (g_InR_toInt _) (fun hc => ?_) (fun hc => ?_)
            · replace h := h.2 hc
              refine r_iload_n x_266_149 rfl ?_
              refine r_iconst x_266_150 ?_
              refine r_iadd x_266_151 ?_
              obtain ⟨h8, h⟩ := h
              refine r_lload x_266_152 rfl ?_
              refine r_l2i x_266_154 ?_
              refine r_iadd x_266_155 ?_
              obtain ⟨h9, h⟩ := h
              refine r_iconst x_266_156 ?_
              refine r_isub x_266_157 ?_
              obtain ⟨h10, h⟩ := h
              refine r_istore x_266_158 (by decide +kernel) rfl (lv1 := [(0, .ref a0), (1, g_n v1), (2, g_n v2), (3, g_n v3), (4, g_n v4), (5, g_n (v3 - v2)), (6, .long ((Int64.ofInt r6) &&& 4294967295)), (8, g_n (((v2 + 4) + (((Int64.ofInt r6) &&& 4294967295).toInt32.toInt)) - 1))]) rfl ?_
              refine r_aload_n x_266_160 rfl ?_
              obtain ⟨b11, hb12, h⟩ := h
              refine r_getR x_266_161 rfl (ci := 12) (k := 0) (ns := 0) (by decide +kernel) (by decide) rfl (kz := 0) rfl hO2 hb12 ?_
              refine r_iload x_266_164 rfl ?_
              obtain ⟨n13, hA14, h⟩ := h
              obtain ⟨h15, h⟩ := h
              refine r_bald x_266_166 (Or.inl rfl) hA14 h10 h15.1 h15.2 ?_
              refine r_if_eq x_266_167 (t := 179) (by decide +kernel) (hok5.1 _ _) (fun hc => ?_) (fun hc => ?_)
              · replace h := h.1 hc
                refine r_aload_n x_266_179 rfl ?_
                refine r_iload_n x_266_180 rfl ?_
                refine r_iconst x_266_181 ?_
                refine r_iadd x_266_182 ?_
                obtain ⟨h16, h⟩ := h
                refine r_iload x_266_183 rfl ?_
                refine r_invV x_266_185 (z := 259) (ns := 0) (by decide +kernel) (as := [g_n (v2 + 4), g_n (((v2 + 4) + (((Int64.ofInt r6) &&& 4294967295).toInt32.toInt)) - 1)]) (r := []) rfl rfl rfl hO2 rfl rfl ?_
                refine r_callI h fun r20 M17 hx18 hok19 hr21 h => ?_
                replace h := h hx18 hok19 hr21
                replace hO2 := hO2.up hx18
                replace hA14 := hA14.up hx18
                obtain ⟨hz, h⟩ := h
                exact r_retZ x_266_188 rfl hz h
              · replace h := h.2 hc
                refine r_aload_n x_266_170 rfl ?_
                refine r_bipush x_266_171 (x := 6) rfl ?_
                refine r_iload x_266_173 rfl ?_
                refine r_invV x_266_175 (z := 257) (ns := 0) (by decide +kernel) (as := [g_n 6, g_n (((v2 + 4) + (((Int64.ofInt r6) &&& 4294967295).toInt32.toInt)) - 1)]) (r := []) rfl rfl rfl hO2 rfl rfl ?_
                refine r_callI h fun r25 M22 hx23 hok24 hr26 h => ?_
                replace h := h hx23 hok24 hr26
                replace hO2 := hO2.up hx23
                replace hA14 := hA14.up hx23
                obtain ⟨hz, h⟩ := h
                exact r_retZ x_266_178 rfl hz h
            · replace h := h.1 hc
              refine r_aload_n x_266_142 rfl ?_
              refine r_iconst x_266_143 ?_
              refine r_iload_n x_266_144 rfl ?_
              refine r_invV x_266_145 (z := 257) (ns := 0) (by decide +kernel) (as := [g_n 1, g_n v2]) (r := []) rfl rfl rfl hO2 rfl rfl ?_
              refine r_callI h fun r30 M27 hx28 hok29 hr31 h => ?_
              replace h := h hx28 hok29 hr31
              replace hO2 := hO2.up hx28
              obtain ⟨hz, h⟩ := h
              exact r_retZ x_266_148 rfl hz h
          · replace h := h.1 hc
            refine r_aload_n x_266_121 rfl ?_
            refine r_bipush x_266_122 (x := 6) rfl ?_
            refine r_iload_n x_266_124 rfl ?_
            refine r_invV x_266_125 (z := 257) (ns := 0) (by decide +kernel) (as := [g_n 6, g_n v2]) (r := []) rfl rfl rfl hO2 rfl rfl ?_
            refine r_callI h fun r35 M32 hx33 hok34 hr36 h => ?_
            replace h := h hx33 hok34 hr36
            replace hO2 := hO2.up hx33
            obtain ⟨hz, h⟩ := h
            exact r_retZ x_266_128 rfl hz h
        · replace h := h.1 hc
          refine r_aload_n x_266_95 rfl ?_
          refine r_iconst x_266_96 ?_
          refine r_iload_n x_266_97 rfl ?_
          obtain ⟨hO37, h⟩ := h
          refine r_invV x_266_98 (z := 257) (ns := 0) (by decide +kernel) (as := [g_n 1, g_n v2]) (r := []) rfl rfl rfl hO37 rfl rfl ?_
          refine r_callI h fun r41 M38 hx39 hok40 hr42 h => ?_
          replace h := h hx39 hok40 hr42
          replace hO37 := hO37.up hx39
          obtain ⟨hz, h⟩ := h
          exact r_retZ x_266_101 rfl hz h
      · replace h := h.2 hc
        refine r_iload x_266_41 rfl ?_
        refine r_aload_n x_266_43 rfl ?_
        refine r_iload_n x_266_44 rfl ?_
        refine r_iload_n x_266_45 rfl ?_
        obtain ⟨hO43, h⟩ := h
        refine r_invV x_266_46 (z := 234) (ns := 0) (by decide +kernel) (as := [g_n v1, g_n v2]) (r := [g_n (v3 - v2)]) rfl rfl rfl hO43 rfl rfl ?_
        refine r_callI h fun r47 M44 hx45 hok46 hr48 h => ?_
        replace h := h hx45 hok46 hr48
        replace hO43 := hO43.up hx45
        refine r_ic_ge x_266_49 (t := 59) (by decide +kernel) h1 hr48 (fun hc => ?_) (fun hc => ?_)
        · replace h := h.2 hc
          refine r_iload_n x_266_59 rfl ?_
          refine r_bipush x_266_60 (x := 8) rfl ?_
          refine r_ic_ne x_266_62 (t := 83) (by decide +kernel) hv1 (g_Rk rfl) (fun hc => ?_) (fun hc => ?_)
          · replace h := h.2 hc
            refine r_iconst x_266_83 ?_
            refine r_goto x_266_84 (t := 88) (by decide +kernel) ?_
            exact r_retZ x_266_88 rfl (Or.inr rfl) h
          · replace h := h.1 hc
            refine r_aload_n x_266_65 rfl ?_
            refine r_iload_n x_266_66 rfl ?_
            refine r_invV x_266_67 (z := 226) (ns := 0) (by decide +kernel) (as := [g_n v2]) (r := []) rfl rfl rfl hO43 rfl rfl ?_
            refine r_callI h fun r52 M49 hx50 hok51 hr53 h => ?_
            replace h := h hx50 hok51 hr53
            replace hO43 := hO43.up hx50
            refine r_iconst x_266_70 ?_
            refine r_ic_lt x_266_71 (t := 83) (by decide +kernel) hr53 (g_Rk rfl) (fun hc => ?_) (fun hc => ?_)
            · replace h := h.1 hc
              refine r_iconst x_266_83 ?_
              refine r_goto x_266_84 (t := 88) (by decide +kernel) ?_
              exact r_retZ x_266_88 rfl (Or.inr rfl) h
            · replace h := h.2 hc
              refine r_aload_n x_266_74 rfl ?_
              refine r_iconst x_266_75 ?_
              refine r_iload_n x_266_76 rfl ?_
              refine r_invV x_266_77 (z := 257) (ns := 0) (by decide +kernel) (as := [g_n 5, g_n v2]) (r := []) rfl rfl rfl hO43 rfl rfl ?_
              refine r_callI h fun r57 M54 hx55 hok56 hr58 h => ?_
              replace h := h hx55 hok56 hr58
              replace hO43 := hO43.up hx55
              refine r_if_eq x_266_80 (t := 87) (by decide +kernel) hr58 (fun hc => ?_) (fun hc => ?_)
              · replace h := h.1 hc
                refine r_iconst x_266_87 ?_
                exact r_retZ x_266_88 rfl (Or.inl rfl) h
              · replace h := h.2 hc
                refine r_iconst x_266_83 ?_
                refine r_goto x_266_84 (t := 88) (by decide +kernel) ?_
                exact r_retZ x_266_88 rfl (Or.inr rfl) h
        · replace h := h.1 hc
          refine r_aload_n x_266_52 rfl ?_
          refine r_iconst x_266_53 ?_
          refine r_iload_n x_266_54 rfl ?_
          refine r_invV x_266_55 (z := 257) (ns := 0) (by decide +kernel) (as := [g_n 1, g_n v2]) (r := []) rfl rfl rfl hO43 rfl rfl ?_
          refine r_callI h fun r62 M59 hx60 hok61 hr63 h => ?_
          replace h := h hx60 hok61 hr63
          replace hO43 := hO43.up hx60
          obtain ⟨hz, h⟩ := h
          exact r_retZ x_266_58 rfl hz h
    · replace h := h.1 hc
      exact h
theorem s_X12_readValue_15 {d : Nat} {M : g_M} {Q : Int → g_M → Prop} {a0 : Nat} {v1 : Int} (hv1 : g_InR v1) {v2 : Int} (hv2 : g_InR v2) {v3 : Int} (hv3 : g_InR v3) {v4 : Int} (hv4 : g_InR v4) {v5 : Int} (hv5 : g_InR v5) (h : g_ok M → ((v1 = 4 → g_InR (v4 + 1) ∧ g_O M a0 12 ∧ g_Call d 261 [.ref a0, g_n v2, g_n v3, g_n 1, g_n (v4 + 1)] M (g_qI fun r13 M10 => g_ext M M10 → g_ok M10 → g_InR r13 → (r13 = 0 ∨ r13 = 1) ∧ Q r13 M10)) ∧ (¬ v1 = 4 → g_InR (v4 + 1) ∧ g_O M a0 12 ∧ g_Call d 261 [.ref a0, g_n v2, g_n v3, g_n 0, g_n (v4 + 1)] M (g_qI fun r6 M3 => g_ext M M3 → g_ok M3 → g_InR r6 → (r6 = 0 ∨ r6 = 1) ∧ Q r6 M3)))) : g_Run d 266 15 [(0, .ref a0), (1, g_n v1), (2, g_n v2), (3, g_n v3), (4, g_n v4), (5, g_n v5)] [] M (g_qI Q) := by
  refine g_Run.ok fun hok => ?_
  replace h := h hok
  refine r_aload_n x_266_15 rfl ?_
  refine r_iload_n x_266_16 rfl ?_
  refine r_iload_n x_266_17 rfl ?_
  refine r_iload_n x_266_18 rfl ?_
  refine r_iconst x_266_19 ?_
  refine r_ic_ne x_266_20 (t := 27) (by decide +kernel) hv1 (g_Rk rfl) (fun hc => ?_) (fun hc => ?_)
  · replace h := h.2 hc
    refine r_iconst x_266_27 ?_
    refine r_iload x_266_28 rfl ?_
    refine r_iconst x_266_30 ?_
    refine r_iadd x_266_31 ?_
    obtain ⟨h1, h⟩ := h
    obtain ⟨hO2, h⟩ := h
    refine r_invV x_266_32 (z := 261) (ns := 0) (by decide +kernel) (as := [g_n v2, g_n v3, g_n 0, g_n (v4 + 1)]) (r := []) rfl rfl rfl hO2 rfl rfl ?_
    refine r_callI h fun r6 M3 hx4 hok5 hr7 h => ?_
    replace h := h hx4 hok5 hr7
    replace hO2 := hO2.up hx4
    obtain ⟨hz, h⟩ := h
    exact r_retZ x_266_35 rfl hz h
  · replace h := h.1 hc
    refine r_iconst x_266_23 ?_
    refine r_goto x_266_24 (t := 28) (by decide +kernel) ?_
    refine r_iload x_266_28 rfl ?_
    refine r_iconst x_266_30 ?_
    refine r_iadd x_266_31 ?_
    obtain ⟨h8, h⟩ := h
    obtain ⟨hO9, h⟩ := h
    refine r_invV x_266_32 (z := 261) (ns := 0) (by decide +kernel) (as := [g_n v2, g_n v3, g_n 1, g_n (v4 + 1)]) (r := []) rfl rfl rfl hO9 rfl rfl ?_
    refine r_callI h fun r13 M10 hx11 hok12 hr14 h => ?_
    replace h := h hx11 hok12 hr14
    replace hO9 := hO9.up hx11
    obtain ⟨hz, h⟩ := h
    exact r_retZ x_266_35 rfl hz h
theorem m_X12_classOf {d : Nat} {M : g_M} {Q : Int → g_M → Prop} {a0 : Nat} {v1 : Int} (hv1 : g_InR v1) (h : g_ok M → ((v1 = (-1) → Q 0 M) ∧ (¬ v1 = (-1) → g_O M a0 12 ∧ ∃ b2, g_r M a0 0 = some b2 ∧ ∃ n4, g_A M b2 0 n4 ∧ ((0 : Int) ≤ v1 ∧ (v1 : Int) < n4) ∧ ((g_i M b2 v1 = 10 → Q 1 M) ∧ (¬ g_i M b2 v1 = 10 → ((g_i M b2 v1 = 16 → Q 2 M) ∧ (¬ g_i M b2 v1 = 16 → ((g_i M b2 v1 = 18 → Q 2 M) ∧ (¬ g_i M b2 v1 = 18 → ((g_i M b2 v1 = 2 → Q 3 M) ∧ (¬ g_i M b2 v1 = 2 → ((g_i M b2 v1 = 3 → Q 4 M) ∧ (¬ g_i M b2 v1 = 3 → ((g_i M b2 v1 = 4 → Q 5 M) ∧ (¬ g_i M b2 v1 = 4 → Q 6 M))))))))))))))) : g_Call (d + 1) 267 [.ref a0, g_n v1] M (g_qI Q) := by
  refine g_Call.ok fun hok0 => ?_
  replace h := h hok0
  refine r_body rfl (lv := [(0, .ref a0), (1, g_n v1)]) rfl ?_
  refine g_Run.ok fun hok => ?_
  refine r_iload_n x_267_0 rfl ?_
  refine r_iconst x_267_1 ?_
  refine r_ic_ne x_267_2 (t := 7) (by decide +kernel) hv1 (g_Rk rfl) (fun hc => ?_) (fun hc => ?_)
  · replace h := h.2 hc
    refine r_aload_n x_267_7 rfl ?_
    obtain ⟨hO1, h⟩ := h
    obtain ⟨b2, hb3, h⟩ := h
    refine r_getR x_267_8 rfl (ci := 12) (k := 0) (ns := 0) (by decide +kernel) (by decide) rfl (kz := 0) rfl hO1 hb3 ?_
    refine r_iload_n x_267_11 rfl ?_
    obtain ⟨n4, hA5, h⟩ := h
    obtain ⟨h6, h⟩ := h
    refine r_bald x_267_12 (Or.inl rfl) hA5 hv1 h6.1 h6.2 ?_
    refine r_istore_n x_267_13 (by decide +kernel) rfl (lv1 := [(0, .ref a0), (1, g_n v1), (2, g_n (g_i M b2 v1))]) rfl ?_
    refine r_iload_n x_267_14 rfl ?_
    refine r_bipush x_267_15 (x := 10) rfl ?_
    refine r_ic_ne x_267_17 (t := 22) (by decide +kernel) (hok.1 _ _) (g_Rk rfl) (fun hc => ?_) (fun hc => ?_)
    · replace h := h.2 hc
      refine r_iload_n x_267_22 rfl ?_
      refine r_bipush x_267_23 (x := 16) rfl ?_
      refine r_ic_eq x_267_25 (t := 34) (by decide +kernel) (hok.1 _ _) (g_Rk rfl) (fun hc => ?_) (fun hc => ?_)
      · replace h := h.1 hc
        refine r_iconst x_267_34 ?_
        exact r_retI x_267_35 rfl (g_Rk rfl) h
      · replace h := h.2 hc
        refine r_iload_n x_267_28 rfl ?_
        refine r_bipush x_267_29 (x := 18) rfl ?_
        refine r_ic_ne x_267_31 (t := 36) (by decide +kernel) (hok.1 _ _) (g_Rk rfl) (fun hc => ?_) (fun hc => ?_)
        · replace h := h.2 hc
          refine r_iload_n x_267_36 rfl ?_
          refine r_iconst x_267_37 ?_
          refine r_ic_ne x_267_38 (t := 45) (by decide +kernel) (hok.1 _ _) (g_Rk rfl) (fun hc => ?_) (fun hc => ?_)
          · replace h := h.2 hc
            refine r_iload_n x_267_45 rfl ?_
            refine r_iconst x_267_46 ?_
            refine r_ic_ne x_267_47 (t := 54) (by decide +kernel) (hok.1 _ _) (g_Rk rfl) (fun hc => ?_) (fun hc => ?_)
            · replace h := h.2 hc
              refine r_iload_n x_267_54 rfl ?_
              refine r_iconst x_267_55 ?_
              refine r_ic_ne x_267_56 (t := 63) (by decide +kernel) (hok.1 _ _) (g_Rk rfl) (fun hc => ?_) (fun hc => ?_)
              · replace h := h.2 hc
                refine r_bipush x_267_63 (x := 6) rfl ?_
                exact r_retI x_267_65 rfl (g_Rk rfl) h
              · replace h := h.1 hc
                refine r_iconst x_267_59 ?_
                refine r_goto x_267_60 (t := 65) (by decide +kernel) ?_
                exact r_retI x_267_65 rfl (g_Rk rfl) h
            · replace h := h.1 hc
              refine r_iconst x_267_50 ?_
              refine r_goto x_267_51 (t := 65) (by decide +kernel) ?_
              exact r_retI x_267_65 rfl (g_Rk rfl) h
          · replace h := h.1 hc
            refine r_iconst x_267_41 ?_
            refine r_goto x_267_42 (t := 65) (by decide +kernel) ?_
            exact r_retI x_267_65 rfl (g_Rk rfl) h
        · replace h := h.1 hc
          refine r_iconst x_267_34 ?_
          exact r_retI x_267_35 rfl (g_Rk rfl) h
    · replace h := h.1 hc
      refine r_iconst x_267_20 ?_
      exact r_retI x_267_21 rfl (g_Rk rfl) h
  · replace h := h.1 hc
    refine r_iconst x_267_5 ?_
    exact r_retI x_267_6 rfl (g_Rk rfl) h
theorem m_X12_compareBytes {d : Nat} {M : g_M} {Q : Int → g_M → Prop} {a0 : Nat} {v1 : Int} (hv1 : g_InR v1) {v2 : Int} (hv2 : g_InR v2) {v3 : Int} (hv3 : g_InR v3) {v4 : Int} (hv4 : g_InR v4) (h : g_ok M → g_InR (v2 - v1) ∧ g_InR (v4 - v3) ∧ ((v2 - v1 < v4 - v3 → g_InR (v2 - v1) ∧ g_Run d 268 25 [(0, .ref a0), (1, g_n v1), (2, g_n v2), (3, g_n v3), (4, g_n v4), (5, g_n (v2 - v1)), (6, g_n 0)] [] M (g_qI Q)) ∧ (¬ v2 - v1 < v4 - v3 → g_InR (v4 - v3) ∧ g_Run d 268 25 [(0, .ref a0), (1, g_n v1), (2, g_n v2), (3, g_n v3), (4, g_n v4), (5, g_n (v4 - v3)), (6, g_n 0)] [] M (g_qI Q)))) : g_Call (d + 1) 268 [.ref a0, g_n v1, g_n v2, g_n v3, g_n v4] M (g_qI Q) := by
  refine g_Call.ok fun hok0 => ?_
  replace h := h hok0
  refine r_body rfl (lv := [(0, .ref a0), (1, g_n v1), (2, g_n v2), (3, g_n v3), (4, g_n v4)]) rfl ?_
  refine g_Run.ok fun hok => ?_
  refine r_iload_n x_268_0 rfl ?_
  refine r_iload_n x_268_1 rfl ?_
  refine r_isub x_268_2 ?_
  obtain ⟨h1, h⟩ := h
  refine r_iload x_268_3 rfl ?_
  refine r_iload_n x_268_5 rfl ?_
  refine r_isub x_268_6 ?_
  obtain ⟨h2, h⟩ := h
  refine r_ic_ge x_268_7 (t := 16) (by decide +kernel) h1 h2 (fun hc => ?_) (fun hc => ?_)
  · replace h := h.2 hc
    refine r_iload x_268_16 rfl ?_
    refine r_iload_n x_268_18 rfl ?_
    refine r_isub x_268_19 ?_
    obtain ⟨h3, h⟩ := h
    refine r_istore x_268_20 (by decide +kernel) rfl (lv1 := [(0, .ref a0), (1, g_n v1), (2, g_n v2), (3, g_n v3), (4, g_n v4), (5, g_n (v4 - v3))]) rfl ?_
    refine r_iconst x_268_22 ?_
    refine r_istore x_268_23 (by decide +kernel) rfl (lv1 := [(0, .ref a0), (1, g_n v1), (2, g_n v2), (3, g_n v3), (4, g_n v4), (5, g_n (v4 - v3)), (6, g_n 0)]) rfl ?_
    exact h
  · replace h := h.1 hc
    refine r_iload_n x_268_10 rfl ?_
    refine r_iload_n x_268_11 rfl ?_
    refine r_isub x_268_12 ?_
    obtain ⟨h4, h⟩ := h
    refine r_goto x_268_13 (t := 20) (by decide +kernel) ?_
    refine r_istore x_268_20 (by decide +kernel) rfl (lv1 := [(0, .ref a0), (1, g_n v1), (2, g_n v2), (3, g_n v3), (4, g_n v4), (5, g_n (v2 - v1))]) rfl ?_
    refine r_iconst x_268_22 ?_
    refine r_istore x_268_23 (by decide +kernel) rfl (lv1 := [(0, .ref a0), (1, g_n v1), (2, g_n v2), (3, g_n v3), (4, g_n v4), (5, g_n (v2 - v1)), (6, g_n 0)]) rfl ?_
    exact h
theorem s_X12_compareBytes_25 {d : Nat} {M : g_M} {Q : Int → g_M → Prop} {a0 : Nat} {v1 : Int} (hv1 : g_InR v1) {v2 : Int} (hv2 : g_InR v2) {v3 : Int} (hv3 : g_InR v3) {v4 : Int} (hv4 : g_InR v4) {v5 : Int} (hv5 : g_InR v5) {v6 : Int} (hv6 : g_InR v6) (h : g_ok M → ((v6 < v5 → g_O M a0 12 ∧ ∃ b5, g_r M a0 0 = some b5 ∧ g_InR (v1 + v6) ∧ ∃ n8, g_A M b5 0 n8 ∧ ((0 : Int) ≤ v1 + v6 ∧ (v1 + v6 : Int) < n8) ∧ ∃ b11, g_r M a0 0 = some b11 ∧ g_InR (v3 + v6) ∧ ∃ n14, g_A M b11 0 n14 ∧ ((0 : Int) ≤ v3 + v6 ∧ (v3 + v6 : Int) < n14) ∧ ((g_i M b5 (v1 + v6) = g_i M b11 (v3 + v6) → g_InR (v6 + 1) ∧ g_Run d 268 25 [(0, .ref a0), (1, g_n v1), (2, g_n v2), (3, g_n v3), (4, g_n v4), (5, g_n v5), (6, g_n (v6 + 1))] [] M (g_qI Q)) ∧ (¬ g_i M b5 (v1 + v6) = g_i M b11 (v3 + v6) → g_InR (v1 + v6) ∧ g_Call d 226 [.ref a0, g_n (v1 + v6)] M (g_qI fun r22 M19 => g_ext M M19 → g_ok M19 → g_InR r22 → g_InR (v3 + v6) ∧ g_Call d 226 [.ref a0, g_n (v3 + v6)] M19 (g_qI fun r28 M25 => g_ext M19 M25 → g_ok M25 → g_InR r28 → g_InR (r22 - r28) ∧ Q (r22 - r28) M25))))) ∧ (¬ v6 < v5 → g_InR (v2 - v1) ∧ g_InR (v4 - v3) ∧ g_InR ((v2 - v1) - (v4 - v3)) ∧ Q ((v2 - v1) - (v4 - v3)) M))) : g_Run d 268 25 [(0, .ref a0), (1, g_n v1), (2, g_n v2), (3, g_n v3), (4, g_n v4), (5, g_n v5), (6, g_n v6)] [] M (g_qI Q) := by
  refine g_Run.ok fun hok => ?_
  replace h := h hok
  refine r_iload x_268_25 rfl ?_
  refine r_iload x_268_27 rfl ?_
  refine r_ic_ge x_268_29 (t := 77) (by decide +kernel) hv6 hv5 (fun hc => ?_) (fun hc => ?_)
  · replace h := h.2 hc
    refine r_iload_n x_268_77 rfl ?_
    refine r_iload_n x_268_78 rfl ?_
    refine r_isub x_268_79 ?_
    obtain ⟨h1, h⟩ := h
    refine r_iload x_268_80 rfl ?_
    refine r_iload_n x_268_82 rfl ?_
    refine r_isub x_268_83 ?_
    obtain ⟨h2, h⟩ := h
    refine r_isub x_268_84 ?_
    obtain ⟨h3, h⟩ := h
    exact r_retI x_268_85 rfl h3 h
  · replace h := h.1 hc
    refine r_aload_n x_268_32 rfl ?_
    obtain ⟨hO4, h⟩ := h
    obtain ⟨b5, hb6, h⟩ := h
    refine r_getR x_268_33 rfl (ci := 12) (k := 0) (ns := 0) (by decide +kernel) (by decide) rfl (kz := 0) rfl hO4 hb6 ?_
    refine r_iload_n x_268_36 rfl ?_
    refine r_iload x_268_37 rfl ?_
    refine r_iadd x_268_39 ?_
    obtain ⟨h7, h⟩ := h
    obtain ⟨n8, hA9, h⟩ := h
    obtain ⟨h10, h⟩ := h
    refine r_bald x_268_40 (Or.inl rfl) hA9 h7 h10.1 h10.2 ?_
    refine r_aload_n x_268_41 rfl ?_
    obtain ⟨b11, hb12, h⟩ := h
    refine r_getR x_268_42 rfl (ci := 12) (k := 0) (ns := 0) (by decide +kernel) (by decide) rfl (kz := 0) rfl hO4 hb12 ?_
    refine r_iload_n x_268_45 rfl ?_
    refine r_iload x_268_46 rfl ?_
    refine r_iadd x_268_48 ?_
    obtain ⟨h13, h⟩ := h
    obtain ⟨n14, hA15, h⟩ := h
    obtain ⟨h16, h⟩ := h
    refine r_bald x_268_49 (Or.inl rfl) hA15 h13 h16.1 h16.2 ?_
    refine r_ic_eq x_268_50 (t := 71) (by decide +kernel) (hok.1 _ _) (hok.1 _ _) (fun hc => ?_) (fun hc => ?_)
    · replace h := h.1 hc
      obtain ⟨h17, h⟩ := h
      refine r_iinc x_268_71 (by decide +kernel) rfl rfl (lv1 := [(0, .ref a0), (1, g_n v1), (2, g_n v2), (3, g_n v3), (4, g_n v4), (5, g_n v5), (6, g_n (v6 + 1))]) rfl ?_
      refine r_goto x_268_74 (t := 25) (by decide +kernel) ?_
      exact h
    · replace h := h.2 hc
      refine r_aload_n x_268_53 rfl ?_
      refine r_iload_n x_268_54 rfl ?_
      refine r_iload x_268_55 rfl ?_
      refine r_iadd x_268_57 ?_
      obtain ⟨h18, h⟩ := h
      refine r_invV x_268_58 (z := 226) (ns := 0) (by decide +kernel) (as := [g_n (v1 + v6)]) (r := []) rfl rfl rfl hO4 rfl rfl ?_
      refine r_callI h fun r22 M19 hx20 hok21 hr23 h => ?_
      replace h := h hx20 hok21 hr23
      replace hO4 := hO4.up hx20
      replace hA9 := hA9.up hx20
      replace hA15 := hA15.up hx20
      refine r_aload_n x_268_61 rfl ?_
      refine r_iload_n x_268_62 rfl ?_
      refine r_iload x_268_63 rfl ?_
      refine r_iadd x_268_65 ?_
      obtain ⟨h24, h⟩ := h
      refine r_invV x_268_66 (z := 226) (ns := 0) (by decide +kernel) (as := [g_n (v3 + v6)]) (r := [g_n r22]) rfl rfl rfl hO4 rfl rfl ?_
      refine r_callI h fun r28 M25 hx26 hok27 hr29 h => ?_
      replace h := h hx26 hok27 hr29
      replace hO4 := hO4.up hx26
      replace hA9 := hA9.up hx26
      replace hA15 := hA15.up hx26
      refine r_isub x_268_69 ?_
      obtain ⟨h30, h⟩ := h
      exact r_retI x_268_70 rfl h30 h
theorem m_X12_compare {d : Nat} {M : g_M} {Q : Int → g_M → Prop} {a0 : Nat} {v1 : Int} (hv1 : g_InR v1) {v2 : Int} (hv2 : g_InR v2) (h : g_ok M → g_O M a0 12 ∧ g_Call d 267 [.ref a0, g_n v1] M (g_qI fun r5 M2 => g_ext M M2 → g_ok M2 → g_InR r5 → g_Call d 267 [.ref a0, g_n v2] M2 (g_qI fun r10 M7 => g_ext M2 M7 → g_ok M7 → g_InR r10 → ((r5 = r10 → ((r5 < 2 → Q 0 M7) ∧ (¬ r5 < 2 → ((r5 = 2 → g_Call d 243 [.ref a0, g_n v1] M7 (g_qL fun R67 M64 => g_ext M7 M64 → g_ok M64 → g_Call d 243 [.ref a0, g_n v2] M64 (g_qL fun R71 M68 => g_ext M64 M68 → g_ok M68 → ((g_lc R67 R71 < 0 → Q ((-1)) M68) ∧ (¬ g_lc R67 R71 < 0 → g_Call d 243 [.ref a0, g_n v1] M68 (g_qL fun R75 M72 => g_ext M68 M72 → g_ok M72 → g_Call d 243 [.ref a0, g_n v2] M72 (g_qL fun R79 M76 => g_ext M72 M76 → g_ok M76 → ((0 < g_lc R75 R79 → Q 1 M76) ∧ (¬ 0 < g_lc R75 R79 → Q 0 M76))))))))) ∧ (¬ r5 = 2 → g_Call d 233 [.ref a0, g_n v1] M7 (g_qI fun r15 M12 => g_ext M7 M12 → g_ok M12 → g_InR r15 → g_Call d 233 [.ref a0, g_n v2] M12 (g_qI fun r20 M17 => g_ext M12 M17 → g_ok M17 → g_InR r20 → ((r5 = 3 → g_InR (r15 + 4) ∧ g_InR (r15 + 3) ∧ g_Call d 227 [.ref a0, g_n r15] M17 (g_qI fun r48 M45 => g_ext M17 M45 → g_ok M45 → g_InR r48 → g_InR ((r15 + 3) + r48) ∧ g_InR (r20 + 4) ∧ g_InR (r20 + 3) ∧ g_Call d 227 [.ref a0, g_n r20] M45 (g_qI fun r56 M53 => g_ext M45 M53 → g_ok M53 → g_InR r56 → g_InR ((r20 + 3) + r56) ∧ g_Call d 268 [.ref a0, g_n (r15 + 4), g_n ((r15 + 3) + r48), g_n (r20 + 4), g_n ((r20 + 3) + r56)] M53 (g_qI fun r62 M59 => g_ext M53 M59 → g_ok M59 → g_InR r62 → Q r62 M59)))) ∧ (¬ r5 = 3 → ((r5 = 6 → g_Call d 226 [.ref a0, g_n r15] M17 (g_qI fun r35 M32 => g_ext M17 M32 → g_ok M32 → g_InR r35 → g_Call d 226 [.ref a0, g_n r20] M32 (g_qI fun r40 M37 => g_ext M32 M37 → g_ok M37 → g_InR r40 → g_InR (r35 - r40) ∧ Q (r35 - r40) M37))) ∧ (¬ r5 = 6 → ((r5 = 5 → g_Call d 270 [.ref a0, g_n r15, g_n r20, g_n 1] M17 (g_qI fun r30 M27 => g_ext M17 M27 → g_ok M27 → g_InR r30 → Q r30 M27)) ∧ (¬ r5 = 5 → g_Call d 270 [.ref a0, g_n r15, g_n r20, g_n 0] M17 (g_qI fun r25 M22 => g_ext M17 M22 → g_ok M22 → g_InR r25 → Q r25 M22)))))))))))))) ∧ (¬ r5 = r10 → g_Call d 267 [.ref a0, g_n v2] M7 (g_qI fun r83 M80 => g_ext M7 M80 → g_ok M80 → g_InR r83 → g_InR (r5 - r83) ∧ Q (r5 - r83) M80)))))) : g_Call (d + 1) 269 [.ref a0, g_n v1, g_n v2] M (g_qI Q) := by
  refine g_Call.ok fun hok0 => ?_
  replace h := h hok0
  refine r_body rfl (lv := [(0, .ref a0), (1, g_n v1), (2, g_n v2)]) rfl ?_
  refine g_Run.ok fun hok => ?_
  refine r_aload_n x_269_0 rfl ?_
  refine r_iload_n x_269_1 rfl ?_
  obtain ⟨hO1, h⟩ := h
  refine r_invV x_269_2 (z := 267) (ns := 0) (by decide +kernel) (as := [g_n v1]) (r := []) rfl rfl rfl hO1 rfl rfl ?_
  refine r_callI h fun r5 M2 hx3 hok4 hr6 h => ?_
  replace h := h hx3 hok4 hr6
  replace hO1 := hO1.up hx3
  refine r_istore_n x_269_5 (by decide +kernel) rfl (lv1 := [(0, .ref a0), (1, g_n v1), (2, g_n v2), (3, g_n r5)]) rfl ?_
  refine r_iload_n x_269_6 rfl ?_
  refine r_aload_n x_269_7 rfl ?_
  refine r_iload_n x_269_8 rfl ?_
  refine r_invV x_269_9 (z := 267) (ns := 0) (by decide +kernel) (as := [g_n v2]) (r := [g_n r5]) rfl rfl rfl hO1 rfl rfl ?_
  refine r_callI h fun r10 M7 hx8 hok9 hr11 h => ?_
  replace h := h hx8 hok9 hr11
  replace hO1 := hO1.up hx8
  refine r_ic_eq x_269_12 (t := 23) (by decide +kernel) hr6 hr11 (fun hc => ?_) (fun hc => ?_)
  · replace h := h.1 hc
    refine r_iload_n x_269_23 rfl ?_
    refine r_iconst x_269_24 ?_
    refine r_ic_ge x_269_25 (t := 30) (by decide +kernel) hr6 (g_Rk rfl) (fun hc => ?_) (fun hc => ?_)
    · replace h := h.2 hc
      refine r_iload_n x_269_30 rfl ?_
      refine r_iconst x_269_31 ?_
      refine r_ic_ne x_269_32 (t := 73) (by decide +kernel) hr6 (g_Rk rfl) (fun hc => ?_) (fun hc => ?_)
      · replace h := h.2 hc
        refine r_aload_n x_269_73 rfl ?_
        refine r_iload_n x_269_74 rfl ?_
        refine r_invV x_269_75 (z := 233) (ns := 0) (by decide +kernel) (as := [g_n v1]) (r := []) rfl rfl rfl hO1 rfl rfl ?_
        refine r_callI h fun r15 M12 hx13 hok14 hr16 h => ?_
        replace h := h hx13 hok14 hr16
        replace hO1 := hO1.up hx13
        refine r_istore x_269_78 (by decide +kernel) rfl (lv1 := [(0, .ref a0), (1, g_n v1), (2, g_n v2), (3, g_n r5), (4, g_n r15)]) rfl ?_
        refine r_aload_n x_269_80 rfl ?_
        refine r_iload_n x_269_81 rfl ?_
        refine r_invV x_269_82 (z := 233) (ns := 0) (by decide +kernel) (as := [g_n v2]) (r := []) rfl rfl rfl hO1 rfl rfl ?_
        refine r_callI h fun r20 M17 hx18 hok19 hr21 h => ?_
        replace h := h hx18 hok19 hr21
        replace hO1 := hO1.up hx18
        refine r_istore x_269_85 (by decide +kernel) rfl (lv1 := [(0, .ref a0), (1, g_n v1), (2, g_n v2), (3, g_n r5), (4, g_n r15), (5, g_n r20)]) rfl ?_
        refine r_iload_n x_269_87 rfl ?_
        refine r_iconst x_269_88 ?_
        refine r_ic_ne x_269_89 (t := 127) (by decide +kernel) hr6 (g_Rk rfl) (fun hc => ?_) (fun hc => ?_)
        · replace h := h.2 hc
          refine r_iload_n x_269_127 rfl ?_
          refine r_bipush x_269_128 (x := 6) rfl ?_
          refine r_ic_ne x_269_130 (t := 149) (by decide +kernel) hr6 (g_Rk rfl) (fun hc => ?_) (fun hc => ?_)
          · replace h := h.2 hc
            refine r_aload_n x_269_149 rfl ?_
            refine r_iload x_269_150 rfl ?_
            refine r_iload x_269_152 rfl ?_
            refine r_iload_n x_269_154 rfl ?_
            refine r_iconst x_269_155 ?_
            refine r_ic_ne x_269_156 (t := 163) (by decide +kernel) hr6 (g_Rk rfl) (fun hc => ?_) (fun hc => ?_)
            · replace h := h.2 hc
              refine r_iconst x_269_163 ?_
              refine r_invV x_269_164 (z := 270) (ns := 0) (by decide +kernel) (as := [g_n r15, g_n r20, g_n 0]) (r := []) rfl rfl rfl hO1 rfl rfl ?_
              refine r_callI h fun r25 M22 hx23 hok24 hr26 h => ?_
              replace h := h hx23 hok24 hr26
              replace hO1 := hO1.up hx23
              exact r_retI x_269_167 rfl hr26 h
            · replace h := h.1 hc
              refine r_iconst x_269_159 ?_
              refine r_goto x_269_160 (t := 164) (by decide +kernel) ?_
              refine r_invV x_269_164 (z := 270) (ns := 0) (by decide +kernel) (as := [g_n r15, g_n r20, g_n 1]) (r := []) rfl rfl rfl hO1 rfl rfl ?_
              refine r_callI h fun r30 M27 hx28 hok29 hr31 h => ?_
              replace h := h hx28 hok29 hr31
              replace hO1 := hO1.up hx28
              exact r_retI x_269_167 rfl hr31 h
          · replace h := h.1 hc
            refine r_aload_n x_269_133 rfl ?_
            refine r_iload x_269_134 rfl ?_
            refine r_invV x_269_136 (z := 226) (ns := 0) (by decide +kernel) (as := [g_n r15]) (r := []) rfl rfl rfl hO1 rfl rfl ?_
            refine r_callI h fun r35 M32 hx33 hok34 hr36 h => ?_
            replace h := h hx33 hok34 hr36
            replace hO1 := hO1.up hx33
            refine r_aload_n x_269_139 rfl ?_
            refine r_iload x_269_140 rfl ?_
            refine r_invV x_269_142 (z := 226) (ns := 0) (by decide +kernel) (as := [g_n r20]) (r := [g_n r35]) rfl rfl rfl hO1 rfl rfl ?_
            refine r_callI h fun r40 M37 hx38 hok39 hr41 h => ?_
            replace h := h hx38 hok39 hr41
            replace hO1 := hO1.up hx38
            refine r_isub x_269_145 ?_
            obtain ⟨h42, h⟩ := h
            refine r_goto x_269_146 (t := 167) (by decide +kernel) ?_
            exact r_retI x_269_167 rfl h42 h
        · replace h := h.1 hc
          refine r_aload_n x_269_92 rfl ?_
          refine r_iload x_269_93 rfl ?_
          refine r_iconst x_269_95 ?_
          refine r_iadd x_269_96 ?_
          obtain ⟨h43, h⟩ := h
          refine r_iload x_269_97 rfl ?_
          refine r_iconst x_269_99 ?_
          refine r_iadd x_269_100 ?_
          obtain ⟨h44, h⟩ := h
          refine r_aload_n x_269_101 rfl ?_
          refine r_iload x_269_102 rfl ?_
          refine r_invV x_269_104 (z := 227) (ns := 0) (by decide +kernel) (as := [g_n r15]) (r := [g_n (r15 + 3), g_n (r15 + 4), .ref a0]) rfl rfl rfl hO1 rfl rfl ?_
          refine r_callI h fun r48 M45 hx46 hok47 hr49 h => ?_
          replace h := h hx46 hok47 hr49
          replace hO1 := hO1.up hx46
          refine r_iadd x_269_107 ?_
          obtain ⟨h50, h⟩ := h
          refine r_iload x_269_108 rfl ?_
          refine r_iconst x_269_110 ?_
          refine r_iadd x_269_111 ?_
          obtain ⟨h51, h⟩ := h
          refine r_iload x_269_112 rfl ?_
          refine r_iconst x_269_114 ?_
          refine r_iadd x_269_115 ?_
          obtain ⟨h52, h⟩ := h
          refine r_aload_n x_269_116 rfl ?_
          refine r_iload x_269_117 rfl ?_
          refine r_invV x_269_119 (z := 227) (ns := 0) (by decide +kernel) (as := [g_n r20]) (r := [g_n (r20 + 3), g_n (r20 + 4), g_n ((r15 + 3) + r48), g_n (r15 + 4), .ref a0]) rfl rfl rfl hO1 rfl rfl ?_
          refine r_callI h fun r56 M53 hx54 hok55 hr57 h => ?_
          replace h := h hx54 hok55 hr57
          replace hO1 := hO1.up hx54
          refine r_iadd x_269_122 ?_
          obtain ⟨h58, h⟩ := h
          refine r_invV x_269_123 (z := 268) (ns := 0) (by decide +kernel) (as := [g_n (r15 + 4), g_n ((r15 + 3) + r48), g_n (r20 + 4), g_n ((r20 + 3) + r56)]) (r := []) rfl rfl rfl hO1 rfl rfl ?_
          refine r_callI h fun r62 M59 hx60 hok61 hr63 h => ?_
          replace h := h hx60 hok61 hr63
          replace hO1 := hO1.up hx60
          exact r_retI x_269_126 rfl hr63 h
      · replace h := h.1 hc
        refine r_aload_n x_269_35 rfl ?_
        refine r_iload_n x_269_36 rfl ?_
        refine r_invV x_269_37 (z := 243) (ns := 0) (by decide +kernel) (as := [g_n v1]) (r := []) rfl rfl rfl hO1 rfl rfl ?_
        refine r_callL h fun R67 M64 hx65 hok66 h => ?_
        replace h := h hx65 hok66
        replace hO1 := hO1.up hx65
        refine r_aload_n x_269_40 rfl ?_
        refine r_iload_n x_269_41 rfl ?_
        refine r_invV x_269_42 (z := 243) (ns := 0) (by decide +kernel) (as := [g_n v2]) (r := [.long R67]) rfl rfl rfl hO1 rfl rfl ?_
        refine r_callL h fun R71 M68 hx69 hok70 h => ?_
        replace h := h hx69 hok70
        replace hO1 := hO1.up hx69
        refine r_lcmp x_269_45 ?_
        refine r_if_ge x_269_46 (t := 53) (by decide +kernel) (g_InR_toInt _) (fun hc => ?_) (fun hc => ?_)
        · replace h := h.2 hc
          refine r_aload_n x_269_53 rfl ?_
          refine r_iload_n x_269_54 rfl ?_
          refine r_invV x_269_55 (z := 243) (ns := 0) (by decide +kernel) (as := [g_n v1]) (r := []) rfl rfl rfl hO1 rfl rfl ?_
          refine r_callL h fun R75 M72 hx73 hok74 h => ?_
          replace h := h hx73 hok74
          replace hO1 := hO1.up hx73
          refine r_aload_n x_269_58 rfl ?_
          refine r_iload_n x_269_59 rfl ?_
          refine r_invV x_269_60 (z := 243) (ns := 0) (by decide +kernel) (as := [g_n v2]) (r := [.long R75]) rfl rfl rfl hO1 rfl rfl ?_
          refine r_callL h fun R79 M76 hx77 hok78 h => ?_
          replace h := h hx77 hok78
          replace hO1 := hO1.up hx77
          refine r_lcmp x_269_63 ?_
          refine r_if_le x_269_64 (t := 71) (by decide +kernel) (g_InR_toInt _) (fun hc => ?_) (fun hc => ?_)
          · replace h := h.2 hc
            refine r_iconst x_269_71 ?_
            exact r_retI x_269_72 rfl (g_Rk rfl) h
          · replace h := h.1 hc
            refine r_iconst x_269_67 ?_
            refine r_goto x_269_68 (t := 72) (by decide +kernel) ?_
            exact r_retI x_269_72 rfl (g_Rk rfl) h
        · replace h := h.1 hc
          refine r_iconst x_269_49 ?_
          refine r_goto x_269_50 (t := 72) (by decide +kernel) ?_
          exact r_retI x_269_72 rfl (g_Rk rfl) h
    · replace h := h.1 hc
      refine r_iconst x_269_28 ?_
      exact r_retI x_269_29 rfl (g_Rk rfl) h
  · replace h := h.2 hc
    refine r_iload_n x_269_15 rfl ?_
    refine r_aload_n x_269_16 rfl ?_
    refine r_iload_n x_269_17 rfl ?_
    refine r_invV x_269_18 (z := 267) (ns := 0) (by decide +kernel) (as := [g_n v2]) (r := [g_n r5]) rfl rfl rfl hO1 rfl rfl ?_
    refine r_callI h fun r83 M80 hx81 hok82 hr84 h => ?_
    replace h := h hx81 hok82 hr84
    replace hO1 := hO1.up hx81
    refine r_isub x_269_21 ?_
    obtain ⟨h85, h⟩ := h
    exact r_retI x_269_22 rfl h85 h
theorem m_X12_compareAll {d : Nat} {M : g_M} {Q : Int → g_M → Prop} {a0 : Nat} {v1 : Int} (hv1 : g_InR v1) {v2 : Int} (hv2 : g_InR v2) {v3 : Int} (hv3 : g_InR v3) (h : g_ok M → g_Call d 237 [g_n v1] M (g_qI fun r4 M1 => g_ext M M1 → g_ok M1 → g_InR r4 → g_Call d 237 [g_n v2] M1 (g_qI fun r9 M6 => g_ext M1 M6 → g_ok M6 → g_InR r9 → g_Run d 270 12 [(0, .ref a0), (1, g_n v1), (2, g_n v2), (3, g_n v3), (4, g_n r4), (5, g_n r9)] [] M6 (g_qI Q)))) : g_Call (d + 1) 270 [.ref a0, g_n v1, g_n v2, g_n v3] M (g_qI Q) := by
  refine g_Call.ok fun hok0 => ?_
  replace h := h hok0
  refine r_body rfl (lv := [(0, .ref a0), (1, g_n v1), (2, g_n v2), (3, g_n v3)]) rfl ?_
  refine g_Run.ok fun hok => ?_
  refine r_iload_n x_270_0 rfl ?_
  refine r_invS x_270_1 (z := 237) (ns := 0) (by decide +kernel) (as := [g_n v1]) (r := []) rfl rfl rfl ?_
  refine r_callI h fun r4 M1 hx2 hok3 hr5 h => ?_
  replace h := h hx2 hok3 hr5
  refine r_istore x_270_4 (by decide +kernel) rfl (lv1 := [(0, .ref a0), (1, g_n v1), (2, g_n v2), (3, g_n v3), (4, g_n r4)]) rfl ?_
  refine r_iload_n x_270_6 rfl ?_
  refine r_invS x_270_7 (z := 237) (ns := 0) (by decide +kernel) (as := [g_n v2]) (r := []) rfl rfl rfl ?_
  refine r_callI h fun r9 M6 hx7 hok8 hr10 h => ?_
  replace h := h hx7 hok8 hr10
  refine r_istore x_270_10 (by decide +kernel) rfl (lv1 := [(0, .ref a0), (1, g_n v1), (2, g_n v2), (3, g_n v3), (4, g_n r4), (5, g_n r9)]) rfl ?_
  exact h
theorem s_X12_compareAll_12 {d : Nat} {M : g_M} {Q : Int → g_M → Prop} {a0 : Nat} {v1 : Int} (hv1 : g_InR v1) {v2 : Int} (hv2 : g_InR v2) {v3 : Int} (hv3 : g_InR v3) {v4 : Int} (hv4 : g_InR v4) {v5 : Int} (hv5 : g_InR v5) (h : g_ok M → g_O M a0 12 ∧ g_Call d 238 [.ref a0, g_n v1] M (g_qI fun r5 M2 => g_ext M M2 → g_ok M2 → g_InR r5 → ((v4 < r5 → g_Call d 238 [.ref a0, g_n v2] M2 (g_qI fun r10 M7 => g_ext M2 M7 → g_ok M7 → g_InR r10 → ((v5 < r10 → ((v3 = 0 → g_Call d 267 [.ref a0, g_n v4] M7 (g_qI fun r15 M12 => g_ext M7 M12 → g_ok M12 → g_InR r15 → g_Call d 267 [.ref a0, g_n v5] M12 (g_qI fun r20 M17 => g_ext M12 M17 → g_ok M17 → g_InR r20 → ((r15 = r20 → g_InR (v4 + 1) ∧ g_Call d 232 [.ref a0, g_n v4] M17 (g_qI fun r26 M23 => g_ext M17 M23 → g_ok M23 → g_InR r26 → g_InR (v5 + 1) ∧ g_Call d 232 [.ref a0, g_n v5] M23 (g_qI fun r32 M29 => g_ext M23 M29 → g_ok M29 → g_InR r32 → g_Call d 268 [.ref a0, g_n (v4 + 1), g_n r26, g_n (v5 + 1), g_n r32] M29 (g_qI fun r37 M34 => g_ext M29 M34 → g_ok M34 → g_InR r37 → ((r37 = 0 → g_Run d 270 99 [(0, .ref a0), (1, g_n v1), (2, g_n v2), (3, g_n v3), (4, g_n v4), (5, g_n v5)] [] M34 (g_qI Q)) ∧ (¬ r37 = 0 → Q r37 M34)))))) ∧ (¬ r15 = r20 → g_Call d 267 [.ref a0, g_n v4] M17 (g_qI fun r42 M39 => g_ext M17 M39 → g_ok M39 → g_InR r42 → g_Call d 267 [.ref a0, g_n v5] M39 (g_qI fun r47 M44 => g_ext M39 M44 → g_ok M44 → g_InR r47 → g_InR (r42 - r47) ∧ Q (r42 - r47) M44))))))) ∧ (¬ v3 = 0 → g_Run d 270 99 [(0, .ref a0), (1, g_n v1), (2, g_n v2), (3, g_n v3), (4, g_n v4), (5, g_n v5)] [] M7 (g_qI Q)))) ∧ (¬ v5 < r10 → g_Run d 270 136 [(0, .ref a0), (1, g_n v1), (2, g_n v2), (3, g_n v3), (4, g_n v4), (5, g_n v5)] [] M7 (g_qI Q))))) ∧ (¬ v4 < r5 → g_Run d 270 136 [(0, .ref a0), (1, g_n v1), (2, g_n v2), (3, g_n v3), (4, g_n v4), (5, g_n v5)] [] M2 (g_qI Q))))) : g_Run d 270 12 [(0, .ref a0), (1, g_n v1), (2, g_n v2), (3, g_n v3), (4, g_n v4), (5, g_n v5)] [] M (g_qI Q) := by
  refine g_Run.ok fun hok => ?_
  replace h := h hok
  refine r_iload x_270_12 rfl ?_
  refine r_aload_n x_270_14 rfl ?_
  refine r_iload_n x_270_15 rfl ?_
  obtain ⟨hO1, h⟩ := h
  refine r_invV x_270_16 (z := 238) (ns := 0) (by decide +kernel) (as := [g_n v1]) (r := [g_n v4]) rfl rfl rfl hO1 rfl rfl ?_
  refine r_callI h fun r5 M2 hx3 hok4 hr6 h => ?_
  replace h := h hx3 hok4 hr6
  replace hO1 := hO1.up hx3
  refine r_ic_ge x_270_19 (t := 136) (by decide +kernel) hv4 hr6 (fun hc => ?_) (fun hc => ?_)
  · replace h := h.2 hc
    exact h
  · replace h := h.1 hc
    refine r_iload x_270_22 rfl ?_
    refine r_aload_n x_270_24 rfl ?_
    refine r_iload_n x_270_25 rfl ?_
    refine r_invV x_270_26 (z := 238) (ns := 0) (by decide +kernel) (as := [g_n v2]) (r := [g_n v5]) rfl rfl rfl hO1 rfl rfl ?_
    refine r_callI h fun r10 M7 hx8 hok9 hr11 h => ?_
    replace h := h hx8 hok9 hr11
    replace hO1 := hO1.up hx8
    refine r_ic_ge x_270_29 (t := 136) (by decide +kernel) hv5 hr11 (fun hc => ?_) (fun hc => ?_)
    · replace h := h.2 hc
      exact h
    · replace h := h.1 hc
      refine r_iload_n x_270_32 rfl ?_
      refine r_if_ne x_270_33 (t := 99) (by decide +kernel) hv3 (fun hc => ?_) (fun hc => ?_)
      · replace h := h.2 hc
        exact h
      · replace h := h.1 hc
        refine r_aload_n x_270_36 rfl ?_
        refine r_iload x_270_37 rfl ?_
        refine r_invV x_270_39 (z := 267) (ns := 0) (by decide +kernel) (as := [g_n v4]) (r := []) rfl rfl rfl hO1 rfl rfl ?_
        refine r_callI h fun r15 M12 hx13 hok14 hr16 h => ?_
        replace h := h hx13 hok14 hr16
        replace hO1 := hO1.up hx13
        refine r_aload_n x_270_42 rfl ?_
        refine r_iload x_270_43 rfl ?_
        refine r_invV x_270_45 (z := 267) (ns := 0) (by decide +kernel) (as := [g_n v5]) (r := [g_n r15]) rfl rfl rfl hO1 rfl rfl ?_
        refine r_callI h fun r20 M17 hx18 hok19 hr21 h => ?_
        replace h := h hx18 hok19 hr21
        replace hO1 := hO1.up hx18
        refine r_ic_eq x_270_48 (t := 65) (by decide +kernel) hr16 hr21 (fun hc => ?_) (fun hc => ?_)
        · replace h := h.1 hc
          refine r_aload_n x_270_65 rfl ?_
          refine r_iload x_270_66 rfl ?_
          refine r_iconst x_270_68 ?_
          refine r_iadd x_270_69 ?_
          obtain ⟨h22, h⟩ := h
          refine r_aload_n x_270_70 rfl ?_
          refine r_iload x_270_71 rfl ?_
          refine r_invV x_270_73 (z := 232) (ns := 0) (by decide +kernel) (as := [g_n v4]) (r := [g_n (v4 + 1), .ref a0]) rfl rfl rfl hO1 rfl rfl ?_
          refine r_callI h fun r26 M23 hx24 hok25 hr27 h => ?_
          replace h := h hx24 hok25 hr27
          replace hO1 := hO1.up hx24
          refine r_iload x_270_76 rfl ?_
          refine r_iconst x_270_78 ?_
          refine r_iadd x_270_79 ?_
          obtain ⟨h28, h⟩ := h
          refine r_aload_n x_270_80 rfl ?_
          refine r_iload x_270_81 rfl ?_
          refine r_invV x_270_83 (z := 232) (ns := 0) (by decide +kernel) (as := [g_n v5]) (r := [g_n (v5 + 1), g_n r26, g_n (v4 + 1), .ref a0]) rfl rfl rfl hO1 rfl rfl ?_
          refine r_callI h fun r32 M29 hx30 hok31 hr33 h => ?_
          replace h := h hx30 hok31 hr33
          replace hO1 := hO1.up hx30
          refine r_invV x_270_86 (z := 268) (ns := 0) (by decide +kernel) (as := [g_n (v4 + 1), g_n r26, g_n (v5 + 1), g_n r32]) (r := []) rfl rfl rfl hO1 rfl rfl ?_
          refine r_callI h fun r37 M34 hx35 hok36 hr38 h => ?_
          replace h := h hx35 hok36 hr38
          replace hO1 := hO1.up hx35
          refine r_istore x_270_89 (by decide +kernel) rfl (lv1 := [(0, .ref a0), (1, g_n v1), (2, g_n v2), (3, g_n v3), (4, g_n v4), (5, g_n v5), (6, g_n r37)]) rfl ?_
          refine r_iload x_270_91 rfl ?_
          refine r_if_eq x_270_93 (t := 99) (by decide +kernel) hr38 (fun hc => ?_) (fun hc => ?_)
          · replace h := h.1 hc
            refine g_drop [0, 1, 2, 3, 4, 5] (lv1 := [(0, .ref a0), (1, g_n v1), (2, g_n v2), (3, g_n v3), (4, g_n v4), (5, g_n v5)]) rfl ?_
            exact h
          · replace h := h.2 hc
            refine r_iload x_270_96 rfl ?_
            exact r_retI x_270_98 rfl hr38 h
        · replace h := h.2 hc
          refine r_aload_n x_270_51 rfl ?_
          refine r_iload x_270_52 rfl ?_
          refine r_invV x_270_54 (z := 267) (ns := 0) (by decide +kernel) (as := [g_n v4]) (r := []) rfl rfl rfl hO1 rfl rfl ?_
          refine r_callI h fun r42 M39 hx40 hok41 hr43 h => ?_
          replace h := h hx40 hok41 hr43
          replace hO1 := hO1.up hx40
          refine r_aload_n x_270_57 rfl ?_
          refine r_iload x_270_58 rfl ?_
          refine r_invV x_270_60 (z := 267) (ns := 0) (by decide +kernel) (as := [g_n v5]) (r := [g_n r42]) rfl rfl rfl hO1 rfl rfl ?_
          refine r_callI h fun r47 M44 hx45 hok46 hr48 h => ?_
          replace h := h hx45 hok46 hr48
          replace hO1 := hO1.up hx45
          refine r_isub x_270_63 ?_
          obtain ⟨h49, h⟩ := h
          exact r_retI x_270_64 rfl h49 h
theorem s_X12_compareAll_99 {d : Nat} {M : g_M} {Q : Int → g_M → Prop} {a0 : Nat} {v1 : Int} (hv1 : g_InR v1) {v2 : Int} (hv2 : g_InR v2) {v3 : Int} (hv3 : g_InR v3) {v4 : Int} (hv4 : g_InR v4) {v5 : Int} (hv5 : g_InR v5) (h : g_ok M → g_O M a0 12 ∧ g_Call d 269 [.ref a0, g_n v4, g_n v5] M (g_qI fun r5 M2 => g_ext M M2 → g_ok M2 → g_InR r5 → ((r5 = 0 → g_Call d 235 [.ref a0, g_n v4] M2 (g_qI fun r10 M7 => g_ext M2 M7 → g_ok M7 → g_InR r10 → g_Call d 235 [.ref a0, g_n v5] M7 (g_qI fun r15 M12 => g_ext M7 M12 → g_ok M12 → g_InR r15 → g_Run d 270 12 [(0, .ref a0), (1, g_n v1), (2, g_n v2), (3, g_n v3), (4, g_n r10), (5, g_n r15)] [] M12 (g_qI Q)))) ∧ (¬ r5 = 0 → Q r5 M2)))) : g_Run d 270 99 [(0, .ref a0), (1, g_n v1), (2, g_n v2), (3, g_n v3), (4, g_n v4), (5, g_n v5)] [] M (g_qI Q) := by
  refine g_Run.ok fun hok => ?_
  replace h := h hok
  refine r_aload_n x_270_99 rfl ?_
  refine r_iload x_270_100 rfl ?_
  refine r_iload x_270_102 rfl ?_
  obtain ⟨hO1, h⟩ := h
  refine r_invV x_270_104 (z := 269) (ns := 0) (by decide +kernel) (as := [g_n v4, g_n v5]) (r := []) rfl rfl rfl hO1 rfl rfl ?_
  refine r_callI h fun r5 M2 hx3 hok4 hr6 h => ?_
  replace h := h hx3 hok4 hr6
  replace hO1 := hO1.up hx3
  refine r_istore x_270_107 (by decide +kernel) rfl (lv1 := [(0, .ref a0), (1, g_n v1), (2, g_n v2), (3, g_n v3), (4, g_n v4), (5, g_n v5), (6, g_n r5)]) rfl ?_
  refine r_iload x_270_109 rfl ?_
  refine r_if_eq x_270_111 (t := 117) (by decide +kernel) hr6 (fun hc => ?_) (fun hc => ?_)
  · replace h := h.1 hc
    refine r_aload_n x_270_117 rfl ?_
    refine r_iload x_270_118 rfl ?_
    refine r_invV x_270_120 (z := 235) (ns := 0) (by decide +kernel) (as := [g_n v4]) (r := []) rfl rfl rfl hO1 rfl rfl ?_
    refine r_callI h fun r10 M7 hx8 hok9 hr11 h => ?_
    replace h := h hx8 hok9 hr11
    replace hO1 := hO1.up hx8
    refine r_istore x_270_123 (by decide +kernel) rfl (lv1 := [(0, .ref a0), (1, g_n v1), (2, g_n v2), (3, g_n v3), (4, g_n r10), (5, g_n v5), (6, g_n r5)]) rfl ?_
    refine r_aload_n x_270_125 rfl ?_
    refine r_iload x_270_126 rfl ?_
    refine r_invV x_270_128 (z := 235) (ns := 0) (by decide +kernel) (as := [g_n v5]) (r := []) rfl rfl rfl hO1 rfl rfl ?_
    refine r_callI h fun r15 M12 hx13 hok14 hr16 h => ?_
    replace h := h hx13 hok14 hr16
    replace hO1 := hO1.up hx13
    refine r_istore x_270_131 (by decide +kernel) rfl (lv1 := [(0, .ref a0), (1, g_n v1), (2, g_n v2), (3, g_n v3), (4, g_n r10), (5, g_n r15), (6, g_n r5)]) rfl ?_
    refine r_goto x_270_133 (t := 12) (by decide +kernel) ?_
    refine g_drop [0, 1, 2, 3, 4, 5] (lv1 := [(0, .ref a0), (1, g_n v1), (2, g_n v2), (3, g_n v3), (4, g_n r10), (5, g_n r15)]) rfl ?_
    exact h
  · replace h := h.2 hc
    refine r_iload x_270_114 rfl ?_
    exact r_retI x_270_116 rfl hr6 h
theorem s_X12_compareAll_136 {d : Nat} {M : g_M} {Q : Int → g_M → Prop} {a0 : Nat} {v1 : Int} (hv1 : g_InR v1) {v2 : Int} (hv2 : g_InR v2) {v3 : Int} (hv3 : g_InR v3) {v4 : Int} (hv4 : g_InR v4) {v5 : Int} (hv5 : g_InR v5) (h : g_ok M → g_O M a0 12 ∧ g_Call d 238 [.ref a0, g_n v1] M (g_qI fun r5 M2 => g_ext M M2 → g_ok M2 → g_InR r5 → ((v4 < r5 → Q 1 M2) ∧ (¬ v4 < r5 → g_Call d 238 [.ref a0, g_n v2] M2 (g_qI fun r10 M7 => g_ext M2 M7 → g_ok M7 → g_InR r10 → ((v5 < r10 → Q ((-1)) M7) ∧ (¬ v5 < r10 → Q 0 M7))))))) : g_Run d 270 136 [(0, .ref a0), (1, g_n v1), (2, g_n v2), (3, g_n v3), (4, g_n v4), (5, g_n v5)] [] M (g_qI Q) := by
  refine g_Run.ok fun hok => ?_
  replace h := h hok
  refine r_iload x_270_136 rfl ?_
  refine r_aload_n x_270_138 rfl ?_
  refine r_iload_n x_270_139 rfl ?_
  obtain ⟨hO1, h⟩ := h
  refine r_invV x_270_140 (z := 238) (ns := 0) (by decide +kernel) (as := [g_n v1]) (r := [g_n v4]) rfl rfl rfl hO1 rfl rfl ?_
  refine r_callI h fun r5 M2 hx3 hok4 hr6 h => ?_
  replace h := h hx3 hok4 hr6
  replace hO1 := hO1.up hx3
  refine r_ic_ge x_270_143 (t := 150) (by decide +kernel) hv4 hr6 (fun hc => ?_) (fun hc => ?_)
  · replace h := h.2 hc
    refine r_iload x_270_150 rfl ?_
    refine r_aload_n x_270_152 rfl ?_
    refine r_iload_n x_270_153 rfl ?_
    refine r_invV x_270_154 (z := 238) (ns := 0) (by decide +kernel) (as := [g_n v2]) (r := [g_n v5]) rfl rfl rfl hO1 rfl rfl ?_
    refine r_callI h fun r10 M7 hx8 hok9 hr11 h => ?_
    replace h := h hx8 hok9 hr11
    replace hO1 := hO1.up hx8
    refine r_ic_ge x_270_157 (t := 164) (by decide +kernel) hv5 hr11 (fun hc => ?_) (fun hc => ?_)
    · replace h := h.2 hc
      refine r_iconst x_270_164 ?_
      exact r_retI x_270_165 rfl (g_Rk rfl) h
    · replace h := h.1 hc
      refine r_iconst x_270_160 ?_
      refine r_goto x_270_161 (t := 165) (by decide +kernel) ?_
      exact r_retI x_270_165 rfl (g_Rk rfl) h
  · replace h := h.1 hc
    refine r_iconst x_270_146 ?_
    refine r_goto x_270_147 (t := 165) (by decide +kernel) ?_
    exact r_retI x_270_165 rfl (g_Rk rfl) h
theorem m_X12_isSame {d : Nat} {M : g_M} {Q : Int → g_M → Prop} {a0 : Nat} {v1 : Int} (hv1 : g_InR v1) {v2 : Int} (hv2 : g_InR v2) (h : g_ok M → g_O M a0 12 ∧ g_Call d 269 [.ref a0, g_n v1, g_n v2] M (g_qI fun r5 M2 => g_ext M M2 → g_ok M2 → g_InR r5 → ((r5 = 0 → Q 1 M2) ∧ (¬ r5 = 0 → Q 0 M2)))) : g_Call (d + 1) 271 [.ref a0, g_n v1, g_n v2] M (g_qI Q) := by
  refine g_Call.ok fun hok0 => ?_
  replace h := h hok0
  refine r_body rfl (lv := [(0, .ref a0), (1, g_n v1), (2, g_n v2)]) rfl ?_
  refine g_Run.ok fun hok => ?_
  refine r_aload_n x_271_0 rfl ?_
  refine r_iload_n x_271_1 rfl ?_
  refine r_iload_n x_271_2 rfl ?_
  obtain ⟨hO1, h⟩ := h
  refine r_invV x_271_3 (z := 269) (ns := 0) (by decide +kernel) (as := [g_n v1, g_n v2]) (r := []) rfl rfl rfl hO1 rfl rfl ?_
  refine r_callI h fun r5 M2 hx3 hok4 hr6 h => ?_
  replace h := h hx3 hok4 hr6
  replace hO1 := hO1.up hx3
  refine r_if_ne x_271_6 (t := 13) (by decide +kernel) hr6 (fun hc => ?_) (fun hc => ?_)
  · replace h := h.2 hc
    refine r_iconst x_271_13 ?_
    exact r_retZ x_271_14 rfl (Or.inl rfl) h
  · replace h := h.1 hc
    refine r_iconst x_271_9 ?_
    refine r_goto x_271_10 (t := 14) (by decide +kernel) ?_
    exact r_retZ x_271_14 rfl (Or.inr rfl) h
theorem m_X12_stepEnd {d : Nat} {M : g_M} {Q : Int → g_M → Prop} {a0 : Nat} {v1 : Int} (hv1 : g_InR v1) {v2 : Int} (hv2 : g_InR v2) (h : g_ok M → g_Run d 272 2 [(0, .ref a0), (1, g_n v1), (2, g_n v2), (3, g_n v1)] [] M (g_qI Q)) : g_Call (d + 1) 272 [.ref a0, g_n v1, g_n v2] M (g_qI Q) := by
  refine g_Call.ok fun hok0 => ?_
  replace h := h hok0
  refine r_body rfl (lv := [(0, .ref a0), (1, g_n v1), (2, g_n v2)]) rfl ?_
  refine g_Run.ok fun hok => ?_
  refine r_iload_n x_272_0 rfl ?_
  refine r_istore_n x_272_1 (by decide +kernel) rfl (lv1 := [(0, .ref a0), (1, g_n v1), (2, g_n v2), (3, g_n v1)]) rfl ?_
  exact h
theorem s_X12_stepEnd_2 {d : Nat} {M : g_M} {Q : Int → g_M → Prop} {a0 : Nat} {v1 : Int} (hv1 : g_InR v1) {v2 : Int} (hv2 : g_InR v2) {v3 : Int} (hv3 : g_InR v3) (h : g_ok M → ((v3 < v2 → g_O M a0 12 ∧ g_Call d 226 [.ref a0, g_n v3] M (g_qI fun r5 M2 => g_ext M M2 → g_ok M2 → g_InR r5 → ((r5 = 46 → Q v3 M2) ∧ (¬ r5 = 46 → g_InR (v3 + 1) ∧ g_Run d 272 2 [(0, .ref a0), (1, g_n v1), (2, g_n v2), (3, g_n (v3 + 1))] [] M2 (g_qI Q))))) ∧ (¬ v3 < v2 → Q v3 M))) : g_Run d 272 2 [(0, .ref a0), (1, g_n v1), (2, g_n v2), (3, g_n v3)] [] M (g_qI Q) := by
  refine g_Run.ok fun hok => ?_
  replace h := h hok
  refine r_iload_n x_272_2 rfl ?_
  refine r_iload_n x_272_3 rfl ?_
  refine r_ic_ge x_272_4 (t := 23) (by decide +kernel) hv3 hv2 (fun hc => ?_) (fun hc => ?_)
  · replace h := h.2 hc
    refine r_iload_n x_272_23 rfl ?_
    exact r_retI x_272_24 rfl hv3 h
  · replace h := h.1 hc
    refine r_aload_n x_272_7 rfl ?_
    refine r_iload_n x_272_8 rfl ?_
    obtain ⟨hO1, h⟩ := h
    refine r_invV x_272_9 (z := 226) (ns := 0) (by decide +kernel) (as := [g_n v3]) (r := []) rfl rfl rfl hO1 rfl rfl ?_
    refine r_callI h fun r5 M2 hx3 hok4 hr6 h => ?_
    replace h := h hx3 hok4 hr6
    replace hO1 := hO1.up hx3
    refine r_bipush x_272_12 (x := 46) rfl ?_
    refine r_ic_eq x_272_14 (t := 23) (by decide +kernel) hr6 (g_Rk rfl) (fun hc => ?_) (fun hc => ?_)
    · replace h := h.1 hc
      refine r_iload_n x_272_23 rfl ?_
      exact r_retI x_272_24 rfl hv3 h
    · replace h := h.2 hc
      obtain ⟨h7, h⟩ := h
      refine r_iinc x_272_17 (by decide +kernel) rfl rfl (lv1 := [(0, .ref a0), (1, g_n v1), (2, g_n v2), (3, g_n (v3 + 1))]) rfl ?_
      refine r_goto x_272_20 (t := 2) (by decide +kernel) ?_
      exact h
theorem m_X12_isPath {d : Nat} {M : g_M} {Q : Int → g_M → Prop} {a0 : Nat} {v1 : Int} (hv1 : g_InR v1) {v2 : Int} (hv2 : g_InR v2) (h : g_ok M → g_Run d 273 8 [(0, .ref a0), (1, g_n v1), (2, g_n v2), (3, g_n 0), (4, g_n v1), (5, g_n 1)] [] M (g_qI Q)) : g_Call (d + 1) 273 [.ref a0, g_n v1, g_n v2] M (g_qI Q) := by
  refine g_Call.ok fun hok0 => ?_
  replace h := h hok0
  refine r_body rfl (lv := [(0, .ref a0), (1, g_n v1), (2, g_n v2)]) rfl ?_
  refine g_Run.ok fun hok => ?_
  refine r_iconst x_273_0 ?_
  refine r_istore_n x_273_1 (by decide +kernel) rfl (lv1 := [(0, .ref a0), (1, g_n v1), (2, g_n v2), (3, g_n 0)]) rfl ?_
  refine r_iload_n x_273_2 rfl ?_
  refine r_istore x_273_3 (by decide +kernel) rfl (lv1 := [(0, .ref a0), (1, g_n v1), (2, g_n v2), (3, g_n 0), (4, g_n v1)]) rfl ?_
  refine r_iconst x_273_5 ?_
  refine r_istore x_273_6 (by decide +kernel) rfl (lv1 := [(0, .ref a0), (1, g_n v1), (2, g_n v2), (3, g_n 0), (4, g_n v1), (5, g_n 1)]) rfl ?_
  exact h
theorem s_X12_isPath_8 {d : Nat} {M : g_M} {Q : Int → g_M → Prop} {a0 : Nat} {v1 : Int} (hv1 : g_InR v1) {v2 : Int} (hv2 : g_InR v2) {v3 : Int} (hv3 : g_InR v3) {v4 : Int} (hv4 : g_InR v4) {v5 : Int} (hv5 : g_InR v5) (h : g_ok M → ((v5 = 0 → g_Run d 273 59 [(0, .ref a0), (1, g_n v1), (2, g_n v2), (3, g_n v3), (4, g_n v4), (5, g_n v5), (6, g_n v1)] [] M (g_qI Q)) ∧ (¬ v5 = 0 → g_O M a0 12 ∧ g_Call d 272 [.ref a0, g_n v4, g_n v2] M (g_qI fun r5 M2 => g_ext M M2 → g_ok M2 → g_InR r5 → ((r5 = v4 → Q 0 M2) ∧ (¬ r5 = v4 → g_InR (v3 + 1) ∧ ((r5 < v2 → g_InR (r5 + 1) ∧ g_Run d 273 8 [(0, .ref a0), (1, g_n v1), (2, g_n v2), (3, g_n (v3 + 1)), (4, g_n (r5 + 1)), (5, g_n 1)] [] M2 (g_qI Q)) ∧ (¬ r5 < v2 → g_InR (r5 + 1) ∧ g_Run d 273 8 [(0, .ref a0), (1, g_n v1), (2, g_n v2), (3, g_n (v3 + 1)), (4, g_n (r5 + 1)), (5, g_n 0)] [] M2 (g_qI Q))))))))) : g_Run d 273 8 [(0, .ref a0), (1, g_n v1), (2, g_n v2), (3, g_n v3), (4, g_n v4), (5, g_n v5)] [] M (g_qI Q) := by
  refine g_Run.ok fun hok => ?_
  replace h := h hok
  refine r_iload x_273_8 rfl ?_
  refine r_if_eq x_273_10 (t := 56) (by decide +kernel) hv5 (fun hc => ?_) (fun hc => ?_)
  · replace h := h.1 hc
    refine r_iload_n x_273_56 rfl ?_
    refine r_istore x_273_57 (by decide +kernel) rfl (lv1 := [(0, .ref a0), (1, g_n v1), (2, g_n v2), (3, g_n v3), (4, g_n v4), (5, g_n v5), (6, g_n v1)]) rfl ?_
    exact h
  · replace h := h.2 hc
    refine r_aload_n x_273_13 rfl ?_
    refine r_iload x_273_14 rfl ?_
    refine r_iload_n x_273_16 rfl ?_
    obtain ⟨hO1, h⟩ := h
    refine r_invV x_273_17 (z := 272) (ns := 0) (by decide +kernel) (as := [g_n v4, g_n v2]) (r := []) rfl rfl rfl hO1 rfl rfl ?_
    refine r_callI h fun r5 M2 hx3 hok4 hr6 h => ?_
    replace h := h hx3 hok4 hr6
    replace hO1 := hO1.up hx3
    refine r_istore x_273_20 (by decide +kernel) rfl (lv1 := [(0, .ref a0), (1, g_n v1), (2, g_n v2), (3, g_n v3), (4, g_n v4), (5, g_n v5), (6, g_n r5)]) rfl ?_
    refine r_iload x_273_22 rfl ?_
    refine r_iload x_273_24 rfl ?_
    refine r_ic_ne x_273_26 (t := 31) (by decide +kernel) hr6 hv4 (fun hc => ?_) (fun hc => ?_)
    · replace h := h.2 hc
      obtain ⟨h7, h⟩ := h
      refine r_iinc x_273_31 (by decide +kernel) rfl rfl (lv1 := [(0, .ref a0), (1, g_n v1), (2, g_n v2), (3, g_n (v3 + 1)), (4, g_n v4), (5, g_n v5), (6, g_n r5)]) rfl ?_
      refine r_iload x_273_34 rfl ?_
      refine r_iload_n x_273_36 rfl ?_
      refine r_ic_ge x_273_37 (t := 44) (by decide +kernel) hr6 hv2 (fun hc => ?_) (fun hc => ?_)
      · replace h := h.2 hc
        refine r_iconst x_273_44 ?_
        refine r_istore x_273_45 (by decide +kernel) rfl (lv1 := [(0, .ref a0), (1, g_n v1), (2, g_n v2), (3, g_n (v3 + 1)), (4, g_n v4), (5, g_n 0), (6, g_n r5)]) rfl ?_
        refine r_iload x_273_47 rfl ?_
        refine r_iconst x_273_49 ?_
        refine r_iadd x_273_50 ?_
        obtain ⟨h8, h⟩ := h
        refine r_istore x_273_51 (by decide +kernel) rfl (lv1 := [(0, .ref a0), (1, g_n v1), (2, g_n v2), (3, g_n (v3 + 1)), (4, g_n (r5 + 1)), (5, g_n 0), (6, g_n r5)]) rfl ?_
        refine r_goto x_273_53 (t := 8) (by decide +kernel) ?_
        refine g_drop [0, 1, 2, 3, 4, 5] (lv1 := [(0, .ref a0), (1, g_n v1), (2, g_n v2), (3, g_n (v3 + 1)), (4, g_n (r5 + 1)), (5, g_n 0)]) rfl ?_
        exact h
      · replace h := h.1 hc
        refine r_iconst x_273_40 ?_
        refine r_goto x_273_41 (t := 45) (by decide +kernel) ?_
        refine r_istore x_273_45 (by decide +kernel) rfl (lv1 := [(0, .ref a0), (1, g_n v1), (2, g_n v2), (3, g_n (v3 + 1)), (4, g_n v4), (5, g_n 1), (6, g_n r5)]) rfl ?_
        refine r_iload x_273_47 rfl ?_
        refine r_iconst x_273_49 ?_
        refine r_iadd x_273_50 ?_
        obtain ⟨h9, h⟩ := h
        refine r_istore x_273_51 (by decide +kernel) rfl (lv1 := [(0, .ref a0), (1, g_n v1), (2, g_n v2), (3, g_n (v3 + 1)), (4, g_n (r5 + 1)), (5, g_n 1), (6, g_n r5)]) rfl ?_
        refine r_goto x_273_53 (t := 8) (by decide +kernel) ?_
        refine g_drop [0, 1, 2, 3, 4, 5] (lv1 := [(0, .ref a0), (1, g_n v1), (2, g_n v2), (3, g_n (v3 + 1)), (4, g_n (r5 + 1)), (5, g_n 1)]) rfl ?_
        exact h
    · replace h := h.1 hc
      refine r_iconst x_273_29 ?_
      exact r_retZ x_273_30 rfl (Or.inl rfl) h
theorem s_X12_isPath_59 {d : Nat} {M : g_M} {Q : Int → g_M → Prop} {a0 : Nat} {v1 : Int} (hv1 : g_InR v1) {v2 : Int} (hv2 : g_InR v2) {v3 : Int} (hv3 : g_InR v3) {v4 : Int} (hv4 : g_InR v4) {v5 : Int} (hv5 : g_InR v5) {v6 : Int} (hv6 : g_InR v6) (h : g_ok M → ((v6 < v2 → g_O M a0 12 ∧ ∃ b2, g_r M a0 0 = some b2 ∧ ∃ n4, g_A M b2 0 n4 ∧ ((0 : Int) ≤ v6 ∧ (v6 : Int) < n4) ∧ ((g_i M b2 v6 = 0 → Q 0 M) ∧ (¬ g_i M b2 v6 = 0 → g_InR (v6 + 1) ∧ g_Run d 273 59 [(0, .ref a0), (1, g_n v1), (2, g_n v2), (3, g_n v3), (4, g_n v4), (5, g_n v5), (6, g_n (v6 + 1))] [] M (g_qI Q)))) ∧ (¬ v6 < v2 → ((8 < v3 → Q 0 M) ∧ (¬ 8 < v3 → Q 1 M))))) : g_Run d 273 59 [(0, .ref a0), (1, g_n v1), (2, g_n v2), (3, g_n v3), (4, g_n v4), (5, g_n v5), (6, g_n v6)] [] M (g_qI Q) := by
  refine g_Run.ok fun hok => ?_
  replace h := h hok
  refine r_iload x_273_59 rfl ?_
  refine r_iload_n x_273_61 rfl ?_
  refine r_ic_ge x_273_62 (t := 83) (by decide +kernel) hv6 hv2 (fun hc => ?_) (fun hc => ?_)
  · replace h := h.2 hc
    refine r_iload_n x_273_83 rfl ?_
    refine r_bipush x_273_84 (x := 8) rfl ?_
    refine r_ic_gt x_273_86 (t := 93) (by decide +kernel) hv3 (g_Rk rfl) (fun hc => ?_) (fun hc => ?_)
    · replace h := h.1 hc
      refine r_iconst x_273_93 ?_
      exact r_retZ x_273_94 rfl (Or.inl rfl) h
    · replace h := h.2 hc
      refine r_iconst x_273_89 ?_
      refine r_goto x_273_90 (t := 94) (by decide +kernel) ?_
      exact r_retZ x_273_94 rfl (Or.inr rfl) h
  · replace h := h.1 hc
    refine r_aload_n x_273_65 rfl ?_
    obtain ⟨hO1, h⟩ := h
    obtain ⟨b2, hb3, h⟩ := h
    refine r_getR x_273_66 rfl (ci := 12) (k := 0) (ns := 0) (by decide +kernel) (by decide) rfl (kz := 0) rfl hO1 hb3 ?_
    refine r_iload x_273_69 rfl ?_
    obtain ⟨n4, hA5, h⟩ := h
    obtain ⟨h6, h⟩ := h
    refine r_bald x_273_71 (Or.inl rfl) hA5 hv6 h6.1 h6.2 ?_
    refine r_if_ne x_273_72 (t := 77) (by decide +kernel) (hok.1 _ _) (fun hc => ?_) (fun hc => ?_)
    · replace h := h.2 hc
      obtain ⟨h7, h⟩ := h
      refine r_iinc x_273_77 (by decide +kernel) rfl rfl (lv1 := [(0, .ref a0), (1, g_n v1), (2, g_n v2), (3, g_n v3), (4, g_n v4), (5, g_n v5), (6, g_n (v6 + 1))]) rfl ?_
      refine r_goto x_273_80 (t := 59) (by decide +kernel) ?_
      exact h
    · replace h := h.1 hc
      refine r_iconst x_273_75 ?_
      exact r_retZ x_273_76 rfl (Or.inl rfl) h
theorem m_X12_hasDollar {d : Nat} {M : g_M} {Q : Int → g_M → Prop} {a0 : Nat} {v1 : Int} (hv1 : g_InR v1) {v2 : Int} (hv2 : g_InR v2) (h : g_ok M → g_Run d 274 2 [(0, .ref a0), (1, g_n v1), (2, g_n v2), (3, g_n v1)] [] M (g_qI Q)) : g_Call (d + 1) 274 [.ref a0, g_n v1, g_n v2] M (g_qI Q) := by
  refine g_Call.ok fun hok0 => ?_
  replace h := h hok0
  refine r_body rfl (lv := [(0, .ref a0), (1, g_n v1), (2, g_n v2)]) rfl ?_
  refine g_Run.ok fun hok => ?_
  refine r_iload_n x_274_0 rfl ?_
  refine r_istore_n x_274_1 (by decide +kernel) rfl (lv1 := [(0, .ref a0), (1, g_n v1), (2, g_n v2), (3, g_n v1)]) rfl ?_
  exact h
theorem s_X12_hasDollar_2 {d : Nat} {M : g_M} {Q : Int → g_M → Prop} {a0 : Nat} {v1 : Int} (hv1 : g_InR v1) {v2 : Int} (hv2 : g_InR v2) {v3 : Int} (hv3 : g_InR v3) (h : g_ok M → ((v3 < v2 → g_O M a0 12 ∧ g_Call d 226 [.ref a0, g_n v3] M (g_qI fun r5 M2 => g_ext M M2 → g_ok M2 → g_InR r5 → ((r5 = 36 → ((v3 = v1 → Q 1 M2) ∧ (¬ v3 = v1 → g_InR (v3 - 1) ∧ g_Call d 226 [.ref a0, g_n (v3 - 1)] M2 (g_qI fun r12 M9 => g_ext M2 M9 → g_ok M9 → g_InR r12 → ((r12 = 46 → Q 1 M9) ∧ (¬ r12 = 46 → g_InR (v3 + 1) ∧ g_Run d 274 2 [(0, .ref a0), (1, g_n v1), (2, g_n v2), (3, g_n (v3 + 1))] [] M9 (g_qI Q))))))) ∧ (¬ r5 = 36 → g_InR (v3 + 1) ∧ g_Run d 274 2 [(0, .ref a0), (1, g_n v1), (2, g_n v2), (3, g_n (v3 + 1))] [] M2 (g_qI Q))))) ∧ (¬ v3 < v2 → Q 0 M))) : g_Run d 274 2 [(0, .ref a0), (1, g_n v1), (2, g_n v2), (3, g_n v3)] [] M (g_qI Q) := by
  refine g_Run.ok fun hok => ?_
  replace h := h hok
  refine r_iload_n x_274_2 rfl ?_
  refine r_iload_n x_274_3 rfl ?_
  refine r_ic_ge x_274_4 (t := 42) (by decide +kernel) hv3 hv2 (fun hc => ?_) (fun hc => ?_)
  · replace h := h.2 hc
    refine r_iconst x_274_42 ?_
    exact r_retZ x_274_43 rfl (Or.inl rfl) h
  · replace h := h.1 hc
    refine r_aload_n x_274_7 rfl ?_
    refine r_iload_n x_274_8 rfl ?_
    obtain ⟨hO1, h⟩ := h
    refine r_invV x_274_9 (z := 226) (ns := 0) (by decide +kernel) (as := [g_n v3]) (r := []) rfl rfl rfl hO1 rfl rfl ?_
    refine r_callI h fun r5 M2 hx3 hok4 hr6 h => ?_
    replace h := h hx3 hok4 hr6
    replace hO1 := hO1.up hx3
    refine r_bipush x_274_12 (x := 36) rfl ?_
    refine r_ic_ne x_274_14 (t := 36) (by decide +kernel) hr6 (g_Rk rfl) (fun hc => ?_) (fun hc => ?_)
    · replace h := h.2 hc
      obtain ⟨h7, h⟩ := h
      refine r_iinc x_274_36 (by decide +kernel) rfl rfl (lv1 := [(0, .ref a0), (1, g_n v1), (2, g_n v2), (3, g_n (v3 + 1))]) rfl ?_
      refine r_goto x_274_39 (t := 2) (by decide +kernel) ?_
      exact h
    · replace h := h.1 hc
      refine r_iload_n x_274_17 rfl ?_
      refine r_iload_n x_274_18 rfl ?_
      refine r_ic_eq x_274_19 (t := 34) (by decide +kernel) hv3 hv1 (fun hc => ?_) (fun hc => ?_)
      · replace h := h.1 hc
        refine r_iconst x_274_34 ?_
        exact r_retZ x_274_35 rfl (Or.inr rfl) h
      · replace h := h.2 hc
        refine r_aload_n x_274_22 rfl ?_
        refine r_iload_n x_274_23 rfl ?_
        refine r_iconst x_274_24 ?_
        refine r_isub x_274_25 ?_
        obtain ⟨h8, h⟩ := h
        refine r_invV x_274_26 (z := 226) (ns := 0) (by decide +kernel) (as := [g_n (v3 - 1)]) (r := []) rfl rfl rfl hO1 rfl rfl ?_
        refine r_callI h fun r12 M9 hx10 hok11 hr13 h => ?_
        replace h := h hx10 hok11 hr13
        replace hO1 := hO1.up hx10
        refine r_bipush x_274_29 (x := 46) rfl ?_
        refine r_ic_ne x_274_31 (t := 36) (by decide +kernel) hr13 (g_Rk rfl) (fun hc => ?_) (fun hc => ?_)
        · replace h := h.2 hc
          obtain ⟨h14, h⟩ := h
          refine r_iinc x_274_36 (by decide +kernel) rfl rfl (lv1 := [(0, .ref a0), (1, g_n v1), (2, g_n v2), (3, g_n (v3 + 1))]) rfl ?_
          refine r_goto x_274_39 (t := 2) (by decide +kernel) ?_
          exact h
        · replace h := h.1 hc
          refine r_iconst x_274_34 ?_
          exact r_retZ x_274_35 rfl (Or.inr rfl) h
theorem m_X12_isPlainPath {d : Nat} {M : g_M} {Q : Int → g_M → Prop} {a0 : Nat} {v1 : Int} (hv1 : g_InR v1) {v2 : Int} (hv2 : g_InR v2) (h : g_ok M → g_O M a0 12 ∧ g_Call d 273 [.ref a0, g_n v1, g_n v2] M (g_qI fun r5 M2 => g_ext M M2 → g_ok M2 → g_InR r5 → ((r5 = 0 → Q 0 M2) ∧ (¬ r5 = 0 → g_Call d 274 [.ref a0, g_n v1, g_n v2] M2 (g_qI fun r10 M7 => g_ext M2 M7 → g_ok M7 → g_InR r10 → ((r10 = 0 → Q 1 M7) ∧ (¬ r10 = 0 → Q 0 M7))))))) : g_Call (d + 1) 275 [.ref a0, g_n v1, g_n v2] M (g_qI Q) := by
  refine g_Call.ok fun hok0 => ?_
  replace h := h hok0
  refine r_body rfl (lv := [(0, .ref a0), (1, g_n v1), (2, g_n v2)]) rfl ?_
  refine g_Run.ok fun hok => ?_
  refine r_aload_n x_275_0 rfl ?_
  refine r_iload_n x_275_1 rfl ?_
  refine r_iload_n x_275_2 rfl ?_
  obtain ⟨hO1, h⟩ := h
  refine r_invV x_275_3 (z := 273) (ns := 0) (by decide +kernel) (as := [g_n v1, g_n v2]) (r := []) rfl rfl rfl hO1 rfl rfl ?_
  refine r_callI h fun r5 M2 hx3 hok4 hr6 h => ?_
  replace h := h hx3 hok4 hr6
  replace hO1 := hO1.up hx3
  refine r_if_eq x_275_6 (t := 22) (by decide +kernel) hr6 (fun hc => ?_) (fun hc => ?_)
  · replace h := h.1 hc
    refine r_iconst x_275_22 ?_
    exact r_retZ x_275_23 rfl (Or.inl rfl) h
  · replace h := h.2 hc
    refine r_aload_n x_275_9 rfl ?_
    refine r_iload_n x_275_10 rfl ?_
    refine r_iload_n x_275_11 rfl ?_
    refine r_invV x_275_12 (z := 274) (ns := 0) (by decide +kernel) (as := [g_n v1, g_n v2]) (r := []) rfl rfl rfl hO1 rfl rfl ?_
    refine r_callI h fun r10 M7 hx8 hok9 hr11 h => ?_
    replace h := h hx8 hok9 hr11
    replace hO1 := hO1.up hx8
    refine r_if_ne x_275_15 (t := 22) (by decide +kernel) hr11 (fun hc => ?_) (fun hc => ?_)
    · replace h := h.2 hc
      refine r_iconst x_275_22 ?_
      exact r_retZ x_275_23 rfl (Or.inl rfl) h
    · replace h := h.1 hc
      refine r_iconst x_275_18 ?_
      refine r_goto x_275_19 (t := 23) (by decide +kernel) ?_
      exact r_retZ x_275_23 rfl (Or.inr rfl) h
theorem m_X12_stepNumber {d : Nat} {M : g_M} {Q : Int → g_M → Prop} {a0 : Nat} {v1 : Int} (hv1 : g_InR v1) {v2 : Int} (hv2 : g_InR v2) (h : g_ok M → ((v1 = v2 → Q ((-1)) M) ∧ (¬ v1 = v2 → g_O M a0 12 ∧ g_Call d 226 [.ref a0, g_n v1] M (g_qI fun r5 M2 => g_ext M M2 → g_ok M2 → g_InR r5 → ((r5 = 48 → g_InR (v2 - v1) ∧ ((1 < v2 - v1 → Q ((-1)) M2) ∧ (¬ 1 < v2 - v1 → g_Run d 276 29 [(0, .ref a0), (1, g_n v1), (2, g_n v2), (3, g_n 0), (4, g_n v1)] [] M2 (g_qI Q)))) ∧ (¬ r5 = 48 → g_Run d 276 29 [(0, .ref a0), (1, g_n v1), (2, g_n v2), (3, g_n 0), (4, g_n v1)] [] M2 (g_qI Q))))))) : g_Call (d + 1) 276 [.ref a0, g_n v1, g_n v2] M (g_qI Q) := by
  refine g_Call.ok fun hok0 => ?_
  replace h := h hok0
  refine r_body rfl (lv := [(0, .ref a0), (1, g_n v1), (2, g_n v2)]) rfl ?_
  refine g_Run.ok fun hok => ?_
  refine r_iload_n x_276_0 rfl ?_
  refine r_iload_n x_276_1 rfl ?_
  refine r_ic_eq x_276_2 (t := 22) (by decide +kernel) hv1 hv2 (fun hc => ?_) (fun hc => ?_)
  · replace h := h.1 hc
    refine r_iconst x_276_22 ?_
    exact r_retI x_276_23 rfl (g_Rk rfl) h
  · replace h := h.2 hc
    refine r_aload_n x_276_5 rfl ?_
    refine r_iload_n x_276_6 rfl ?_
    obtain ⟨hO1, h⟩ := h
    refine r_invV x_276_7 (z := 226) (ns := 0) (by decide +kernel) (as := [g_n v1]) (r := []) rfl rfl rfl hO1 rfl rfl ?_
    refine r_callI h fun r5 M2 hx3 hok4 hr6 h => ?_
    replace h := h hx3 hok4 hr6
    replace hO1 := hO1.up hx3
    refine r_bipush x_276_10 (x := 48) rfl ?_
    refine r_ic_ne x_276_12 (t := 24) (by decide +kernel) hr6 (g_Rk rfl) (fun hc => ?_) (fun hc => ?_)
    · replace h := h.2 hc
      refine r_iconst x_276_24 ?_
      refine r_istore_n x_276_25 (by decide +kernel) rfl (lv1 := [(0, .ref a0), (1, g_n v1), (2, g_n v2), (3, g_n 0)]) rfl ?_
      refine r_iload_n x_276_26 rfl ?_
      refine r_istore x_276_27 (by decide +kernel) rfl (lv1 := [(0, .ref a0), (1, g_n v1), (2, g_n v2), (3, g_n 0), (4, g_n v1)]) rfl ?_
      exact h
    · replace h := h.1 hc
      refine r_iload_n x_276_15 rfl ?_
      refine r_iload_n x_276_16 rfl ?_
      refine r_isub x_276_17 ?_
      obtain ⟨h7, h⟩ := h
      refine r_iconst x_276_18 ?_
      refine r_ic_le x_276_19 (t := 24) (by decide +kernel) h7 (g_Rk rfl) (fun hc => ?_) (fun hc => ?_)
      · replace h := h.2 hc
        refine r_iconst x_276_24 ?_
        refine r_istore_n x_276_25 (by decide +kernel) rfl (lv1 := [(0, .ref a0), (1, g_n v1), (2, g_n v2), (3, g_n 0)]) rfl ?_
        refine r_iload_n x_276_26 rfl ?_
        refine r_istore x_276_27 (by decide +kernel) rfl (lv1 := [(0, .ref a0), (1, g_n v1), (2, g_n v2), (3, g_n 0), (4, g_n v1)]) rfl ?_
        exact h
      · replace h := h.1 hc
        refine r_iconst x_276_22 ?_
        exact r_retI x_276_23 rfl (g_Rk rfl) h
theorem s_X12_stepNumber_29 {d : Nat} {M : g_M} {Q : Int → g_M → Prop} {a0 : Nat} {v1 : Int} (hv1 : g_InR v1) {v2 : Int} (hv2 : g_InR v2) {v3 : Int} (hv3 : g_InR v3) {v4 : Int} (hv4 : g_InR v4) (h : g_ok M → ((v4 < v2 → g_O M a0 12 ∧ g_Call d 226 [.ref a0, g_n v4] M (g_qI fun r5 M2 => g_ext M M2 → g_ok M2 → g_InR r5 → ((r5 < 48 → Q ((-1)) M2) ∧ (¬ r5 < 48 → g_Call d 226 [.ref a0, g_n v4] M2 (g_qI fun r10 M7 => g_ext M2 M7 → g_ok M7 → g_InR r10 → ((57 < r10 → Q ((-1)) M7) ∧ (¬ 57 < r10 → g_InR (v4 - v1) ∧ ((v4 - v1 < 9 → g_InR (10 * v3) ∧ g_Call d 226 [.ref a0, g_n v4] M7 (g_qI fun r18 M15 => g_ext M7 M15 → g_ok M15 → g_InR r18 → g_InR ((10 * v3) + r18) ∧ g_InR (((10 * v3) + r18) - 48) ∧ g_InR (v4 + 1) ∧ g_Run d 276 29 [(0, .ref a0), (1, g_n v1), (2, g_n v2), (3, g_n (((10 * v3) + r18) - 48)), (4, g_n (v4 + 1))] [] M15 (g_qI Q))) ∧ (¬ v4 - v1 < 9 → g_InR (v4 + 1) ∧ g_Run d 276 29 [(0, .ref a0), (1, g_n v1), (2, g_n v2), (3, g_n 1000000000), (4, g_n (v4 + 1))] [] M7 (g_qI Q)))))))))) ∧ (¬ v4 < v2 → Q v3 M))) : g_Run d 276 29 [(0, .ref a0), (1, g_n v1), (2, g_n v2), (3, g_n v3), (4, g_n v4)] [] M (g_qI Q) := by
  refine g_Run.ok fun hok => ?_
  replace h := h hok
  refine r_iload x_276_29 rfl ?_
  refine r_iload_n x_276_31 rfl ?_
  refine r_ic_ge x_276_32 (t := 95) (by decide +kernel) hv4 hv2 (fun hc => ?_) (fun hc => ?_)
  · replace h := h.2 hc
    refine r_iload_n x_276_95 rfl ?_
    exact r_retI x_276_96 rfl hv3 h
  · replace h := h.1 hc
    refine r_aload_n x_276_35 rfl ?_
    refine r_iload x_276_36 rfl ?_
    obtain ⟨hO1, h⟩ := h
    refine r_invV x_276_38 (z := 226) (ns := 0) (by decide +kernel) (as := [g_n v4]) (r := []) rfl rfl rfl hO1 rfl rfl ?_
    refine r_callI h fun r5 M2 hx3 hok4 hr6 h => ?_
    replace h := h hx3 hok4 hr6
    replace hO1 := hO1.up hx3
    refine r_bipush x_276_41 (x := 48) rfl ?_
    refine r_ic_lt x_276_43 (t := 57) (by decide +kernel) hr6 (g_Rk rfl) (fun hc => ?_) (fun hc => ?_)
    · replace h := h.1 hc
      refine r_iconst x_276_57 ?_
      exact r_retI x_276_58 rfl (g_Rk rfl) h
    · replace h := h.2 hc
      refine r_aload_n x_276_46 rfl ?_
      refine r_iload x_276_47 rfl ?_
      refine r_invV x_276_49 (z := 226) (ns := 0) (by decide +kernel) (as := [g_n v4]) (r := []) rfl rfl rfl hO1 rfl rfl ?_
      refine r_callI h fun r10 M7 hx8 hok9 hr11 h => ?_
      replace h := h hx8 hok9 hr11
      replace hO1 := hO1.up hx8
      refine r_bipush x_276_52 (x := 57) rfl ?_
      refine r_ic_le x_276_54 (t := 59) (by decide +kernel) hr11 (g_Rk rfl) (fun hc => ?_) (fun hc => ?_)
      · replace h := h.2 hc
        refine r_iload x_276_59 rfl ?_
        refine r_iload_n x_276_61 rfl ?_
        refine r_isub x_276_62 ?_
        obtain ⟨h12, h⟩ := h
        refine r_bipush x_276_63 (x := 9) rfl ?_
        refine r_ic_ge x_276_65 (t := 85) (by decide +kernel) h12 (g_Rk rfl) (fun hc => ?_) (fun hc => ?_)
        · replace h := h.2 hc
          refine r_ldcw x_276_85 (v := g_n 1000000000) rfl ?_
          refine r_istore_n x_276_88 (by decide +kernel) rfl (lv1 := [(0, .ref a0), (1, g_n v1), (2, g_n v2), (3, g_n 1000000000), (4, g_n v4)]) rfl ?_
          obtain ⟨h13, h⟩ := h
          refine r_iinc x_276_89 (by decide +kernel) rfl rfl (lv1 := [(0, .ref a0), (1, g_n v1), (2, g_n v2), (3, g_n 1000000000), (4, g_n (v4 + 1))]) rfl ?_
          refine r_goto x_276_92 (t := 29) (by decide +kernel) ?_
          exact h
        · replace h := h.1 hc
          refine r_bipush x_276_68 (x := 10) rfl ?_
          refine r_iload_n x_276_70 rfl ?_
          refine r_imul x_276_71 ?_
          obtain ⟨h14, h⟩ := h
          refine r_aload_n x_276_72 rfl ?_
          refine r_iload x_276_73 rfl ?_
          refine r_invV x_276_75 (z := 226) (ns := 0) (by decide +kernel) (as := [g_n v4]) (r := [g_n (10 * v3)]) rfl rfl rfl hO1 rfl rfl ?_
          refine r_callI h fun r18 M15 hx16 hok17 hr19 h => ?_
          replace h := h hx16 hok17 hr19
          replace hO1 := hO1.up hx16
          refine r_iadd x_276_78 ?_
          obtain ⟨h20, h⟩ := h
          refine r_bipush x_276_79 (x := 48) rfl ?_
          refine r_isub x_276_81 ?_
          obtain ⟨h21, h⟩ := h
          refine r_goto x_276_82 (t := 88) (by decide +kernel) ?_
          refine r_istore_n x_276_88 (by decide +kernel) rfl (lv1 := [(0, .ref a0), (1, g_n v1), (2, g_n v2), (3, g_n (((10 * v3) + r18) - 48)), (4, g_n v4)]) rfl ?_
          obtain ⟨h22, h⟩ := h
          refine r_iinc x_276_89 (by decide +kernel) rfl rfl (lv1 := [(0, .ref a0), (1, g_n v1), (2, g_n v2), (3, g_n (((10 * v3) + r18) - 48)), (4, g_n (v4 + 1))]) rfl ?_
          refine r_goto x_276_92 (t := 29) (by decide +kernel) ?_
          exact h
      · replace h := h.1 hc
        refine r_iconst x_276_57 ?_
        exact r_retI x_276_58 rfl (g_Rk rfl) h
theorem m_X12_addLeaf {d : Nat} {M : g_M} {Q : g_M → Prop} {a0 : Nat} {v1 : Int} (hv1 : g_InR v1) (h : g_ok M → g_O M a0 12 ∧ ∃ b2, g_r M a0 9 = some b2 ∧ ∃ n4, g_A M b2 1 n4 ∧ ((0 : Int) ≤ g_i M a0 10 ∧ (g_i M a0 10 : Int) < n4) ∧ (∀ M7, M7 = g_wi M b2 (g_i M a0 10) v1 → g_ok M7 → g_InR ((g_i M7 a0 10) + 1) ∧ (∀ M12, M12 = g_wi M7 a0 10 ((g_i M7 a0 10) + 1) → g_ok M12 → Q M12))) : g_Call (d + 1) 277 [.ref a0, g_n v1] M (g_qV Q) := by
  refine g_Call.ok fun hok0 => ?_
  replace h := h hok0
  refine r_body rfl (lv := [(0, .ref a0), (1, g_n v1)]) rfl ?_
  refine g_Run.ok fun hok => ?_
  refine r_aload_n x_277_0 rfl ?_
  obtain ⟨hO1, h⟩ := h
  obtain ⟨b2, hb3, h⟩ := h
  refine r_getR x_277_1 rfl (ci := 12) (k := 9) (ns := 0) (by decide +kernel) (by decide) rfl (kz := 9) rfl hO1 hb3 ?_
  refine r_aload_n x_277_4 rfl ?_
  refine r_getI x_277_5 rfl (ci := 12) (k := 10) (ns := 0) (by decide +kernel) (by decide) rfl (kz := 10) rfl hO1 ?_
  refine r_iload_n x_277_8 rfl ?_
  obtain ⟨n4, hA5, h⟩ := h
  obtain ⟨h6, h⟩ := h
  refine r_iast x_277_9 hA5 (hok.1 _ _) h6.1 h6.2 hv1 ?_
  obtain ⟨M7, hM8⟩ : ∃ Mz, Mz = g_wi M b2 (g_i M a0 10) v1 := ⟨_, rfl⟩
  rw [← hM8]
  refine g_Run.ok fun hok9 => ?_
  replace h := h M7 hM8 hok9
  have hx10 := g_extW hM8
  replace hO1 := hO1.up hx10
  replace hA5 := hA5.up hx10
  refine r_aload_n x_277_10 rfl ?_
  refine r_dup x_277_11 rfl ?_
  refine r_getI x_277_12 rfl (ci := 12) (k := 10) (ns := 0) (by decide +kernel) (by decide) rfl (kz := 10) rfl hO1 ?_
  refine r_iconst x_277_15 ?_
  refine r_iadd x_277_16 ?_
  obtain ⟨h11, h⟩ := h
  refine r_putI x_277_17 (ci := 12) (k := 10) (ns := 0) (by decide +kernel) (by decide) (g_f0 (by decide +kernel)) rfl h11 trivial (kz := 10) rfl hO1 ?_
  obtain ⟨M12, hM13⟩ : ∃ Mz, Mz = g_wi M7 a0 10 ((g_i M7 a0 10) + 1) := ⟨_, rfl⟩
  rw [← hM13]
  refine g_Run.ok fun hok14 => ?_
  replace h := h M12 hM13 hok14
  have hx15 := g_extW hM13
  replace hO1 := hO1.up hx15
  replace hA5 := hA5.up hx15
  exact r_retV x_277_20 rfl h
