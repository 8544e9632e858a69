theorem x_278_0 : decode (q_code 278) 0 = .ok (.iload_n 2, 1) := by decide +kernel
theorem x_278_1 : decode (q_code 278) 1 = .ok (.iload_n 3, 1) := by decide +kernel
theorem x_278_2 : decode (q_code 278) 2 = .ok (.if_icmp .le 11, 3) := by decide +kernel
theorem x_278_5 : decode (q_code 278) 5 = .ok (.aload_n 0, 1) := by decide +kernel
theorem x_278_6 : decode (q_code 278) 6 = .ok (.iload_n 1, 1) := by decide +kernel
theorem x_278_7 : decode (q_code 278) 7 = .ok (.invokevirtual 300, 3) := by decide +kernel
theorem x_278_10 : decode (q_code 278) 10 = .ok (.goto 56, 3) := by decide +kernel
theorem x_278_13 : decode (q_code 278) 13 = .ok (.aload_n 0, 1) := by decide +kernel
theorem x_278_14 : decode (q_code 278) 14 = .ok (.getfield 10, 3) := by decide +kernel
theorem x_278_17 : decode (q_code 278) 17 = .ok (.iload_n 1, 1) := by decide +kernel
theorem x_278_18 : decode (q_code 278) 18 = .ok (.baload, 1) := by decide +kernel
theorem x_278_19 : decode (q_code 278) 19 = .ok (.iconst 3, 1) := by decide +kernel
theorem x_278_20 : decode (q_code 278) 20 = .ok (.if_icmp .ne 17, 3) := by decide +kernel
theorem x_278_23 : decode (q_code 278) 23 = .ok (.aload_n 0, 1) := by decide +kernel
theorem x_278_24 : decode (q_code 278) 24 = .ok (.aload_n 0, 1) := by decide +kernel
theorem x_278_25 : decode (q_code 278) 25 = .ok (.iload_n 1, 1) := by decide +kernel
theorem x_278_26 : decode (q_code 278) 26 = .ok (.invokevirtual 163, 3) := by decide +kernel
theorem x_278_29 : decode (q_code 278) 29 = .ok (.iload_n 2, 1) := by decide +kernel
theorem x_278_30 : decode (q_code 278) 30 = .ok (.iload_n 3, 1) := by decide +kernel
theorem x_278_31 : decode (q_code 278) 31 = .ok (.invokevirtual 303, 3) := by decide +kernel
theorem x_278_34 : decode (q_code 278) 34 = .ok (.goto 32, 3) := by decide +kernel
theorem x_278_37 : decode (q_code 278) 37 = .ok (.aload_n 0, 1) := by decide +kernel
theorem x_278_38 : decode (q_code 278) 38 = .ok (.getfield 10, 3) := by decide +kernel
theorem x_278_41 : decode (q_code 278) 41 = .ok (.iload_n 1, 1) := by decide +kernel
theorem x_278_42 : decode (q_code 278) 42 = .ok (.baload, 1) := by decide +kernel
theorem x_278_43 : decode (q_code 278) 43 = .ok (.iconst 4, 1) := by decide +kernel
theorem x_278_44 : decode (q_code 278) 44 = .ok (.if_icmp .ne 17, 3) := by decide +kernel
theorem x_278_47 : decode (q_code 278) 47 = .ok (.aload_n 0, 1) := by decide +kernel
theorem x_278_48 : decode (q_code 278) 48 = .ok (.aload_n 0, 1) := by decide +kernel
theorem x_278_49 : decode (q_code 278) 49 = .ok (.iload_n 1, 1) := by decide +kernel
theorem x_278_50 : decode (q_code 278) 50 = .ok (.invokevirtual 163, 3) := by decide +kernel
theorem x_278_53 : decode (q_code 278) 53 = .ok (.iload_n 2, 1) := by decide +kernel
theorem x_278_54 : decode (q_code 278) 54 = .ok (.iload_n 3, 1) := by decide +kernel
theorem x_278_55 : decode (q_code 278) 55 = .ok (.invokevirtual 307, 3) := by decide +kernel
theorem x_278_58 : decode (q_code 278) 58 = .ok (.goto 8, 3) := by decide +kernel
theorem x_278_61 : decode (q_code 278) 61 = .ok (.aload_n 0, 1) := by decide +kernel
theorem x_278_62 : decode (q_code 278) 62 = .ok (.iconst (-1), 1) := by decide +kernel
theorem x_278_63 : decode (q_code 278) 63 = .ok (.invokevirtual 300, 3) := by decide +kernel
theorem x_278_66 : decode (q_code 278) 66 = .ok (.return_, 1) := by decide +kernel
theorem x_279_0 : decode (q_code 279) 0 = .ok (.aload_n 0, 1) := by decide +kernel
theorem x_279_1 : decode (q_code 279) 1 = .ok (.iload_n 2, 1) := by decide +kernel
theorem x_279_2 : decode (q_code 279) 2 = .ok (.iload_n 3, 1) := by decide +kernel
theorem x_279_3 : decode (q_code 279) 3 = .ok (.invokevirtual 287, 3) := by decide +kernel
theorem x_279_6 : decode (q_code 279) 6 = .ok (.istore 4, 2) := by decide +kernel
theorem x_279_8 : decode (q_code 279) 8 = .ok (.aload_n 0, 1) := by decide +kernel
theorem x_279_9 : decode (q_code 279) 9 = .ok (.iload_n 1, 1) := by decide +kernel
theorem x_279_10 : decode (q_code 279) 10 = .ok (.iload_n 2, 1) := by decide +kernel
theorem x_279_11 : decode (q_code 279) 11 = .ok (.iload 4, 2) := by decide +kernel
theorem x_279_13 : decode (q_code 279) 13 = .ok (.invokevirtual 310, 3) := by decide +kernel
theorem x_279_16 : decode (q_code 279) 16 = .ok (.istore 5, 2) := by decide +kernel
theorem x_279_18 : decode (q_code 279) 18 = .ok (.iload 5, 2) := by decide +kernel
theorem x_279_20 : decode (q_code 279) 20 = .ok (.iconst (-1), 1) := by decide +kernel
theorem x_279_21 : decode (q_code 279) 21 = .ok (.if_icmp .ne 11, 3) := by decide +kernel
theorem x_279_24 : decode (q_code 279) 24 = .ok (.aload_n 0, 1) := by decide +kernel
theorem x_279_25 : decode (q_code 279) 25 = .ok (.iconst (-1), 1) := by decide +kernel
theorem x_279_26 : decode (q_code 279) 26 = .ok (.invokevirtual 300, 3) := by decide +kernel
theorem x_279_29 : decode (q_code 279) 29 = .ok (.goto 14, 3) := by decide +kernel
theorem x_279_32 : decode (q_code 279) 32 = .ok (.aload_n 0, 1) := by decide +kernel
theorem x_279_33 : decode (q_code 279) 33 = .ok (.iload 5, 2) := by decide +kernel
theorem x_279_35 : decode (q_code 279) 35 = .ok (.iload 4, 2) := by decide +kernel
theorem x_279_37 : decode (q_code 279) 37 = .ok (.iconst 1, 1) := by decide +kernel
theorem x_279_38 : decode (q_code 279) 38 = .ok (.iadd, 1) := by decide +kernel
theorem x_279_39 : decode (q_code 279) 39 = .ok (.iload_n 3, 1) := by decide +kernel
theorem x_279_40 : decode (q_code 279) 40 = .ok (.invokevirtual 314, 3) := by decide +kernel
theorem x_279_43 : decode (q_code 279) 43 = .ok (.return_, 1) := by decide +kernel
theorem x_280_0 : decode (q_code 280) 0 = .ok (.aload_n 0, 1) := by decide +kernel
theorem x_280_1 : decode (q_code 280) 1 = .ok (.iload_n 2, 1) := by decide +kernel
theorem x_280_2 : decode (q_code 280) 2 = .ok (.iload_n 3, 1) := by decide +kernel
theorem x_280_3 : decode (q_code 280) 3 = .ok (.invokevirtual 287, 3) := by decide +kernel
theorem x_280_6 : decode (q_code 280) 6 = .ok (.istore 4, 2) := by decide +kernel
theorem x_280_8 : decode (q_code 280) 8 = .ok (.aload_n 0, 1) := by decide +kernel
theorem x_280_9 : decode (q_code 280) 9 = .ok (.iload_n 2, 1) := by decide +kernel
theorem x_280_10 : decode (q_code 280) 10 = .ok (.iload 4, 2) := by decide +kernel
theorem x_280_12 : decode (q_code 280) 12 = .ok (.invokevirtual 317, 3) := by decide +kernel
theorem x_280_15 : decode (q_code 280) 15 = .ok (.istore 5, 2) := by decide +kernel
theorem x_280_17 : decode (q_code 280) 17 = .ok (.iload 5, 2) := by decide +kernel
theorem x_280_19 : decode (q_code 280) 19 = .ok (.ifCond .ge 7, 3) := by decide +kernel
theorem x_280_22 : decode (q_code 280) 22 = .ok (.iconst (-1), 1) := by decide +kernel
theorem x_280_23 : decode (q_code 280) 23 = .ok (.goto 10, 3) := by decide +kernel
theorem x_280_26 : decode (q_code 280) 26 = .ok (.aload_n 0, 1) := by decide +kernel
theorem x_280_27 : decode (q_code 280) 27 = .ok (.iload_n 1, 1) := by decide +kernel
theorem x_280_28 : decode (q_code 280) 28 = .ok (.iload 5, 2) := by decide +kernel
theorem x_280_30 : decode (q_code 280) 30 = .ok (.invokevirtual 320, 3) := by decide +kernel
theorem x_280_33 : decode (q_code 280) 33 = .ok (.istore 6, 2) := by decide +kernel
theorem x_280_35 : decode (q_code 280) 35 = .ok (.iload 6, 2) := by decide +kernel
theorem x_280_37 : decode (q_code 280) 37 = .ok (.iconst (-1), 1) := by decide +kernel
theorem x_280_38 : decode (q_code 280) 38 = .ok (.if_icmp .eq 14, 3) := by decide +kernel
theorem x_280_41 : decode (q_code 280) 41 = .ok (.aload_n 0, 1) := by decide +kernel
theorem x_280_42 : decode (q_code 280) 42 = .ok (.iload 6, 2) := by decide +kernel
theorem x_280_44 : decode (q_code 280) 44 = .ok (.iload 4, 2) := by decide +kernel
theorem x_280_46 : decode (q_code 280) 46 = .ok (.iconst 1, 1) := by decide +kernel
theorem x_280_47 : decode (q_code 280) 47 = .ok (.iadd, 1) := by decide +kernel
theorem x_280_48 : decode (q_code 280) 48 = .ok (.iload_n 3, 1) := by decide +kernel
theorem x_280_49 : decode (q_code 280) 49 = .ok (.invokevirtual 314, 3) := by decide +kernel
theorem x_280_52 : decode (q_code 280) 52 = .ok (.iload_n 1, 1) := by decide +kernel
theorem x_280_53 : decode (q_code 280) 53 = .ok (.invokestatic 174, 3) := by decide +kernel
theorem x_280_56 : decode (q_code 280) 56 = .ok (.istore 7, 2) := by decide +kernel
theorem x_280_58 : decode (q_code 280) 58 = .ok (.iload 7, 2) := by decide +kernel
theorem x_280_60 : decode (q_code 280) 60 = .ok (.aload_n 0, 1) := by decide +kernel
theorem x_280_61 : decode (q_code 280) 61 = .ok (.iload_n 1, 1) := by decide +kernel
theorem x_280_62 : decode (q_code 280) 62 = .ok (.invokevirtual 177, 3) := by decide +kernel
theorem x_280_65 : decode (q_code 280) 65 = .ok (.if_icmp .ge 37, 3) := by decide +kernel
theorem x_280_68 : decode (q_code 280) 68 = .ok (.aload_n 0, 1) := by decide +kernel
theorem x_280_69 : decode (q_code 280) 69 = .ok (.getfield 10, 3) := by decide +kernel
theorem x_280_72 : decode (q_code 280) 72 = .ok (.iload 7, 2) := by decide +kernel
theorem x_280_74 : decode (q_code 280) 74 = .ok (.baload, 1) := by decide +kernel
theorem x_280_75 : decode (q_code 280) 75 = .ok (.iconst 3, 1) := by decide +kernel
theorem x_280_76 : decode (q_code 280) 76 = .ok (.if_icmp .ne 15, 3) := by decide +kernel
theorem x_280_79 : decode (q_code 280) 79 = .ok (.aload_n 0, 1) := by decide +kernel
theorem x_280_80 : decode (q_code 280) 80 = .ok (.aload_n 0, 1) := by decide +kernel
theorem x_280_81 : decode (q_code 280) 81 = .ok (.iload 7, 2) := by decide +kernel
theorem x_280_83 : decode (q_code 280) 83 = .ok (.invokevirtual 163, 3) := by decide +kernel
theorem x_280_86 : decode (q_code 280) 86 = .ok (.iload_n 2, 1) := by decide +kernel
theorem x_280_87 : decode (q_code 280) 87 = .ok (.iload_n 3, 1) := by decide +kernel
theorem x_280_88 : decode (q_code 280) 88 = .ok (.invokevirtual 303, 3) := by decide +kernel
theorem x_280_91 : decode (q_code 280) 91 = .ok (.aload_n 0, 1) := by decide +kernel
theorem x_280_92 : decode (q_code 280) 92 = .ok (.iload 7, 2) := by decide +kernel
theorem x_280_94 : decode (q_code 280) 94 = .ok (.invokevirtual 180, 3) := by decide +kernel
theorem x_280_97 : decode (q_code 280) 97 = .ok (.istore 7, 2) := by decide +kernel
theorem x_280_99 : decode (q_code 280) 99 = .ok (.goto (-41), 3) := by decide +kernel
theorem x_280_102 : decode (q_code 280) 102 = .ok (.return_, 1) := by decide +kernel
theorem x_281_0 : decode (q_code 281) 0 = .ok (.aload_n 0, 1) := by decide +kernel
theorem x_281_1 : decode (q_code 281) 1 = .ok (.getfield 297, 3) := by decide +kernel
theorem x_281_4 : decode (q_code 281) 4 = .ok (.istore 4, 2) := by decide +kernel
theorem x_281_6 : decode (q_code 281) 6 = .ok (.aload_n 0, 1) := by decide +kernel
theorem x_281_7 : decode (q_code 281) 7 = .ok (.iload_n 1, 1) := by decide +kernel
theorem x_281_8 : decode (q_code 281) 8 = .ok (.iload_n 2, 1) := by decide +kernel
theorem x_281_9 : decode (q_code 281) 9 = .ok (.iload_n 3, 1) := by decide +kernel
theorem x_281_10 : decode (q_code 281) 10 = .ok (.invokevirtual 303, 3) := by decide +kernel
theorem x_281_13 : decode (q_code 281) 13 = .ok (.aload_n 0, 1) := by decide +kernel
theorem x_281_14 : decode (q_code 281) 14 = .ok (.getfield 297, 3) := by decide +kernel
theorem x_281_17 : decode (q_code 281) 17 = .ok (.istore 5, 2) := by decide +kernel
theorem x_281_19 : decode (q_code 281) 19 = .ok (.iload 4, 2) := by decide +kernel
theorem x_281_21 : decode (q_code 281) 21 = .ok (.istore 6, 2) := by decide +kernel
theorem x_281_23 : decode (q_code 281) 23 = .ok (.iload 6, 2) := by decide +kernel
theorem x_281_25 : decode (q_code 281) 25 = .ok (.iload 5, 2) := by decide +kernel
theorem x_281_27 : decode (q_code 281) 27 = .ok (.if_icmp .ge 100, 3) := by decide +kernel
theorem x_281_30 : decode (q_code 281) 30 = .ok (.aload_n 0, 1) := by decide +kernel
theorem x_281_31 : decode (q_code 281) 31 = .ok (.aload_n 0, 1) := by decide +kernel
theorem x_281_32 : decode (q_code 281) 32 = .ok (.getfield 19, 3) := by decide +kernel
theorem x_281_35 : decode (q_code 281) 35 = .ok (.iload 6, 2) := by decide +kernel
theorem x_281_37 : decode (q_code 281) 37 = .ok (.iaload, 1) := by decide +kernel
theorem x_281_38 : decode (q_code 281) 38 = .ok (.invokevirtual 300, 3) := by decide +kernel
theorem x_281_41 : decode (q_code 281) 41 = .ok (.aload_n 0, 1) := by decide +kernel
theorem x_281_42 : decode (q_code 281) 42 = .ok (.getfield 19, 3) := by decide +kernel
theorem x_281_45 : decode (q_code 281) 45 = .ok (.iload 6, 2) := by decide +kernel
theorem x_281_47 : decode (q_code 281) 47 = .ok (.iaload, 1) := by decide +kernel
theorem x_281_48 : decode (q_code 281) 48 = .ok (.iconst (-1), 1) := by decide +kernel
theorem x_281_49 : decode (q_code 281) 49 = .ok (.if_icmp .eq 72, 3) := by decide +kernel
theorem x_281_52 : decode (q_code 281) 52 = .ok (.aload_n 0, 1) := by decide +kernel
theorem x_281_53 : decode (q_code 281) 53 = .ok (.getfield 10, 3) := by decide +kernel
theorem x_281_56 : decode (q_code 281) 56 = .ok (.aload_n 0, 1) := by decide +kernel
theorem x_281_57 : decode (q_code 281) 57 = .ok (.getfield 19, 3) := by decide +kernel
theorem x_281_60 : decode (q_code 281) 60 = .ok (.iload 6, 2) := by decide +kernel
theorem x_281_62 : decode (q_code 281) 62 = .ok (.iaload, 1) := by decide +kernel
theorem x_281_63 : decode (q_code 281) 63 = .ok (.baload, 1) := by decide +kernel
theorem x_281_64 : decode (q_code 281) 64 = .ok (.iconst 4, 1) := by decide +kernel
theorem x_281_65 : decode (q_code 281) 65 = .ok (.if_icmp .ne 56, 3) := by decide +kernel
theorem x_281_68 : decode (q_code 281) 68 = .ok (.aload_n 0, 1) := by decide +kernel
theorem x_281_69 : decode (q_code 281) 69 = .ok (.aload_n 0, 1) := by decide +kernel
theorem x_281_70 : decode (q_code 281) 70 = .ok (.getfield 19, 3) := by decide +kernel
theorem x_281_73 : decode (q_code 281) 73 = .ok (.iload 6, 2) := by decide +kernel
theorem x_281_75 : decode (q_code 281) 75 = .ok (.iaload, 1) := by decide +kernel
theorem x_281_76 : decode (q_code 281) 76 = .ok (.invokevirtual 163, 3) := by decide +kernel
theorem x_281_79 : decode (q_code 281) 79 = .ok (.invokestatic 174, 3) := by decide +kernel
theorem x_281_82 : decode (q_code 281) 82 = .ok (.istore 7, 2) := by decide +kernel
theorem x_281_84 : decode (q_code 281) 84 = .ok (.iload 7, 2) := by decide +kernel
theorem x_281_86 : decode (q_code 281) 86 = .ok (.aload_n 0, 1) := by decide +kernel
theorem x_281_87 : decode (q_code 281) 87 = .ok (.aload_n 0, 1) := by decide +kernel
theorem x_281_88 : decode (q_code 281) 88 = .ok (.aload_n 0, 1) := by decide +kernel
theorem x_281_89 : decode (q_code 281) 89 = .ok (.getfield 19, 3) := by decide +kernel
theorem x_281_92 : decode (q_code 281) 92 = .ok (.iload 6, 2) := by decide +kernel
theorem x_281_94 : decode (q_code 281) 94 = .ok (.iaload, 1) := by decide +kernel
theorem x_281_95 : decode (q_code 281) 95 = .ok (.invokevirtual 163, 3) := by decide +kernel
theorem x_281_98 : decode (q_code 281) 98 = .ok (.invokevirtual 177, 3) := by decide +kernel
theorem x_281_101 : decode (q_code 281) 101 = .ok (.if_icmp .ge 20, 3) := by decide +kernel
theorem x_281_104 : decode (q_code 281) 104 = .ok (.aload_n 0, 1) := by decide +kernel
theorem x_281_105 : decode (q_code 281) 105 = .ok (.iload 7, 2) := by decide +kernel
theorem x_281_107 : decode (q_code 281) 107 = .ok (.invokevirtual 300, 3) := by decide +kernel
theorem x_281_110 : decode (q_code 281) 110 = .ok (.aload_n 0, 1) := by decide +kernel
theorem x_281_111 : decode (q_code 281) 111 = .ok (.iload 7, 2) := by decide +kernel
theorem x_281_113 : decode (q_code 281) 113 = .ok (.invokevirtual 180, 3) := by decide +kernel
theorem x_281_116 : decode (q_code 281) 116 = .ok (.istore 7, 2) := by decide +kernel
theorem x_281_118 : decode (q_code 281) 118 = .ok (.goto (-34), 3) := by decide +kernel
theorem x_281_121 : decode (q_code 281) 121 = .ok (.iinc 6 1, 3) := by decide +kernel
theorem x_281_124 : decode (q_code 281) 124 = .ok (.goto (-101), 3) := by decide +kernel
theorem x_281_127 : decode (q_code 281) 127 = .ok (.iload 5, 2) := by decide +kernel
theorem x_281_129 : decode (q_code 281) 129 = .ok (.ireturn, 1) := by decide +kernel
theorem x_282_0 : decode (q_code 282) 0 = .ok (.aload_n 0, 1) := by decide +kernel
theorem x_282_1 : decode (q_code 282) 1 = .ok (.iload_n 1, 1) := by decide +kernel
theorem x_282_2 : decode (q_code 282) 2 = .ok (.iconst 1, 1) := by decide +kernel
theorem x_282_3 : decode (q_code 282) 3 = .ok (.iadd, 1) := by decide +kernel
theorem x_282_4 : decode (q_code 282) 4 = .ok (.invokevirtual 141, 3) := by decide +kernel
theorem x_282_7 : decode (q_code 282) 7 = .ok (.iload_n 2, 1) := by decide +kernel
theorem x_282_8 : decode (q_code 282) 8 = .ok (.if_icmp .ne 7, 3) := by decide +kernel
theorem x_282_11 : decode (q_code 282) 11 = .ok (.iconst 1, 1) := by decide +kernel
theorem x_282_12 : decode (q_code 282) 12 = .ok (.goto 4, 3) := by decide +kernel
theorem x_282_15 : decode (q_code 282) 15 = .ok (.iconst 0, 1) := by decide +kernel
theorem x_282_16 : decode (q_code 282) 16 = .ok (.ireturn, 1) := by decide +kernel
theorem x_283_0 : decode (q_code 283) 0 = .ok (.aload_n 0, 1) := by decide +kernel
theorem x_283_1 : decode (q_code 283) 1 = .ok (.iload_n 1, 1) := by decide +kernel
theorem x_283_2 : decode (q_code 283) 2 = .ok (.ldc_w 323, 3) := by decide +kernel
theorem x_283_5 : decode (q_code 283) 5 = .ok (.invokevirtual 325, 3) := by decide +kernel
theorem x_283_8 : decode (q_code 283) 8 = .ok (.ifCond .ne 25, 3) := by decide +kernel
theorem x_283_11 : decode (q_code 283) 11 = .ok (.aload_n 0, 1) := by decide +kernel
theorem x_283_12 : decode (q_code 283) 12 = .ok (.iload_n 1, 1) := by decide +kernel
theorem x_283_13 : decode (q_code 283) 13 = .ok (.ldc_w 329, 3) := by decide +kernel
theorem x_283_16 : decode (q_code 283) 16 = .ok (.invokevirtual 325, 3) := by decide +kernel
theorem x_283_19 : decode (q_code 283) 19 = .ok (.ifCond .ne 14, 3) := by decide +kernel
theorem x_283_22 : decode (q_code 283) 22 = .ok (.aload_n 0, 1) := by decide +kernel
theorem x_283_23 : decode (q_code 283) 23 = .ok (.iload_n 1, 1) := by decide +kernel
theorem x_283_24 : decode (q_code 283) 24 = .ok (.ldc_w 331, 3) := by decide +kernel
theorem x_283_27 : decode (q_code 283) 27 = .ok (.invokevirtual 325, 3) := by decide +kernel
theorem x_283_30 : decode (q_code 283) 30 = .ok (.ifCond .eq 7, 3) := by decide +kernel
theorem x_283_33 : decode (q_code 283) 33 = .ok (.iconst 1, 1) := by decide +kernel
theorem x_283_34 : decode (q_code 283) 34 = .ok (.goto 4, 3) := by decide +kernel
theorem x_283_37 : decode (q_code 283) 37 = .ok (.iconst 0, 1) := by decide +kernel
theorem x_283_38 : decode (q_code 283) 38 = .ok (.ireturn, 1) := by decide +kernel
theorem x_284_0 : decode (q_code 284) 0 = .ok (.aload_n 0, 1) := by decide +kernel
theorem x_284_1 : decode (q_code 284) 1 = .ok (.getfield 10, 3) := by decide +kernel
theorem x_284_4 : decode (q_code 284) 4 = .ok (.iload_n 1, 1) := by decide +kernel
theorem x_284_5 : decode (q_code 284) 5 = .ok (.baload, 1) := by decide +kernel
theorem x_284_6 : decode (q_code 284) 6 = .ok (.iconst 3, 1) := by decide +kernel
theorem x_284_7 : decode (q_code 284) 7 = .ok (.if_icmp .eq 5, 3) := by decide +kernel
theorem x_284_10 : decode (q_code 284) 10 = .ok (.iconst 0, 1) := by decide +kernel
theorem x_284_11 : decode (q_code 284) 11 = .ok (.ireturn, 1) := by decide +kernel
theorem x_284_12 : decode (q_code 284) 12 = .ok (.aload_n 0, 1) := by decide +kernel
theorem x_284_13 : decode (q_code 284) 13 = .ok (.iload_n 1, 1) := by decide +kernel
theorem x_284_14 : decode (q_code 284) 14 = .ok (.invokevirtual 163, 3) := by decide +kernel
theorem x_284_17 : decode (q_code 284) 17 = .ok (.invokestatic 174, 3) := by decide +kernel
theorem x_284_20 : decode (q_code 284) 20 = .ok (.istore_n 2, 1) := by decide +kernel
theorem x_284_21 : decode (q_code 284) 21 = .ok (.iload_n 2, 1) := by decide +kernel
theorem x_284_22 : decode (q_code 284) 22 = .ok (.aload_n 0, 1) := by decide +kernel
theorem x_284_23 : decode (q_code 284) 23 = .ok (.aload_n 0, 1) := by decide +kernel
theorem x_284_24 : decode (q_code 284) 24 = .ok (.iload_n 1, 1) := by decide +kernel
theorem x_284_25 : decode (q_code 284) 25 = .ok (.invokevirtual 163, 3) := by decide +kernel
theorem x_284_28 : decode (q_code 284) 28 = .ok (.invokevirtual 177, 3) := by decide +kernel
theorem x_284_31 : decode (q_code 284) 31 = .ok (.if_icmp .ge 17, 3) := by decide +kernel
theorem x_284_34 : decode (q_code 284) 34 = .ok (.aload_n 0, 1) := by decide +kernel
theorem x_284_35 : decode (q_code 284) 35 = .ok (.iload_n 2, 1) := by decide +kernel
theorem x_284_36 : decode (q_code 284) 36 = .ok (.bipush 36, 2) := by decide +kernel
theorem x_284_38 : decode (q_code 284) 38 = .ok (.invokevirtual 333, 3) := by decide +kernel
theorem x_284_41 : decode (q_code 284) 41 = .ok (.ifCond .eq 7, 3) := by decide +kernel
theorem x_284_44 : decode (q_code 284) 44 = .ok (.iconst 1, 1) := by decide +kernel
theorem x_284_45 : decode (q_code 284) 45 = .ok (.goto 4, 3) := by decide +kernel
theorem x_284_48 : decode (q_code 284) 48 = .ok (.iconst 0, 1) := by decide +kernel
theorem x_284_49 : decode (q_code 284) 49 = .ok (.ireturn, 1) := by decide +kernel
theorem x_285_0 : decode (q_code 285) 0 = .ok (.aload_n 0, 1) := by decide +kernel
theorem x_285_1 : decode (q_code 285) 1 = .ok (.iload_n 1, 1) := by decide +kernel
theorem x_285_2 : decode (q_code 285) 2 = .ok (.invokevirtual 336, 3) := by decide +kernel
theorem x_285_5 : decode (q_code 285) 5 = .ok (.ifCond .eq 22, 3) := by decide +kernel
theorem x_285_8 : decode (q_code 285) 8 = .ok (.aload_n 0, 1) := by decide +kernel
theorem x_285_9 : decode (q_code 285) 9 = .ok (.aload_n 0, 1) := by decide +kernel
theorem x_285_10 : decode (q_code 285) 10 = .ok (.iload_n 1, 1) := by decide +kernel
theorem x_285_11 : decode (q_code 285) 11 = .ok (.invokevirtual 163, 3) := by decide +kernel
theorem x_285_14 : decode (q_code 285) 14 = .ok (.invokestatic 174, 3) := by decide +kernel
theorem x_285_17 : decode (q_code 285) 17 = .ok (.invokevirtual 339, 3) := by decide +kernel
theorem x_285_20 : decode (q_code 285) 20 = .ok (.ifCond .ne 7, 3) := by decide +kernel
theorem x_285_23 : decode (q_code 285) 23 = .ok (.iconst 1, 1) := by decide +kernel
theorem x_285_24 : decode (q_code 285) 24 = .ok (.goto 4, 3) := by decide +kernel
theorem x_285_27 : decode (q_code 285) 27 = .ok (.iconst 0, 1) := by decide +kernel
theorem x_285_28 : decode (q_code 285) 28 = .ok (.ireturn, 1) := by decide +kernel
theorem x_286_0 : decode (q_code 286) 0 = .ok (.aload_n 0, 1) := by decide +kernel
theorem x_286_1 : decode (q_code 286) 1 = .ok (.dup, 1) := by decide +kernel
theorem x_286_2 : decode (q_code 286) 2 = .ok (.getfield 342, 3) := by decide +kernel
theorem x_286_5 : decode (q_code 286) 5 = .ok (.iload_n 1, 1) := by decide +kernel
theorem x_286_6 : decode (q_code 286) 6 = .ok (.iadd, 1) := by decide +kernel
theorem x_286_7 : decode (q_code 286) 7 = .ok (.putfield 342, 3) := by decide +kernel
theorem x_286_10 : decode (q_code 286) 10 = .ok (.aload_n 0, 1) := by decide +kernel
theorem x_286_11 : decode (q_code 286) 11 = .ok (.getfield 342, 3) := by decide +kernel
theorem x_286_14 : decode (q_code 286) 14 = .ok (.bipush 100, 2) := by decide +kernel
theorem x_286_16 : decode (q_code 286) 16 = .ok (.if_icmp .le 12, 3) := by decide +kernel
theorem x_286_19 : decode (q_code 286) 19 = .ok (.aload_n 0, 1) := by decide +kernel
theorem x_286_20 : decode (q_code 286) 20 = .ok (.iconst 5, 1) := by decide +kernel
theorem x_286_21 : decode (q_code 286) 21 = .ok (.iload_n 2, 1) := by decide +kernel
theorem x_286_22 : decode (q_code 286) 22 = .ok (.invokevirtual 237, 3) := by decide +kernel
theorem x_286_25 : decode (q_code 286) 25 = .ok (.ifCond .eq 7, 3) := by decide +kernel
theorem x_286_28 : decode (q_code 286) 28 = .ok (.iconst 1, 1) := by decide +kernel
theorem x_286_29 : decode (q_code 286) 29 = .ok (.goto 4, 3) := by decide +kernel
theorem x_286_32 : decode (q_code 286) 32 = .ok (.iconst 0, 1) := by decide +kernel
theorem x_286_33 : decode (q_code 286) 33 = .ok (.ireturn, 1) := by decide +kernel
theorem x_287_0 : decode (q_code 287) 0 = .ok (.aload_n 0, 1) := by decide +kernel
theorem x_287_1 : decode (q_code 287) 1 = .ok (.iconst 0, 1) := by decide +kernel
theorem x_287_2 : decode (q_code 287) 2 = .ok (.putfield 342, 3) := by decide +kernel
theorem x_287_5 : decode (q_code 287) 5 = .ok (.aload_n 0, 1) := by decide +kernel
theorem x_287_6 : decode (q_code 287) 6 = .ok (.iload_n 1, 1) := by decide +kernel
theorem x_287_7 : decode (q_code 287) 7 = .ok (.invokevirtual 345, 3) := by decide +kernel
theorem x_287_10 : decode (q_code 287) 10 = .ok (.ireturn, 1) := by decide +kernel
theorem x_288_0 : decode (q_code 288) 0 = .ok (.iload_n 1, 1) := by decide +kernel
theorem x_288_1 : decode (q_code 288) 1 = .ok (.invokestatic 174, 3) := by decide +kernel
theorem x_288_4 : decode (q_code 288) 4 = .ok (.istore_n 2, 1) := by decide +kernel
theorem x_288_5 : decode (q_code 288) 5 = .ok (.iload_n 2, 1) := by decide +kernel
theorem x_288_6 : decode (q_code 288) 6 = .ok (.aload_n 0, 1) := by decide +kernel
theorem x_288_7 : decode (q_code 288) 7 = .ok (.iload_n 1, 1) := by decide +kernel
theorem x_288_8 : decode (q_code 288) 8 = .ok (.invokevirtual 177, 3) := by decide +kernel
theorem x_288_11 : decode (q_code 288) 11 = .ok (.if_icmp .ge 97, 3) := by decide +kernel
theorem x_288_14 : decode (q_code 288) 14 = .ok (.aload_n 0, 1) := by decide +kernel
theorem x_288_15 : decode (q_code 288) 15 = .ok (.iload_n 2, 1) := by decide +kernel
theorem x_288_16 : decode (q_code 288) 16 = .ok (.bipush 36, 2) := by decide +kernel
theorem x_288_18 : decode (q_code 288) 18 = .ok (.invokevirtual 333, 3) := by decide +kernel
theorem x_288_21 : decode (q_code 288) 21 = .ok (.ifCond .eq 13, 3) := by decide +kernel
theorem x_288_24 : decode (q_code 288) 24 = .ok (.aload_n 0, 1) := by decide +kernel
theorem x_288_25 : decode (q_code 288) 25 = .ok (.iload_n 2, 1) := by decide +kernel
theorem x_288_26 : decode (q_code 288) 26 = .ok (.invokevirtual 348, 3) := by decide +kernel
theorem x_288_29 : decode (q_code 288) 29 = .ok (.ifCond .ne 70, 3) := by decide +kernel
theorem x_288_32 : decode (q_code 288) 32 = .ok (.iconst 0, 1) := by decide +kernel
theorem x_288_33 : decode (q_code 288) 33 = .ok (.ireturn, 1) := by decide +kernel
theorem x_288_34 : decode (q_code 288) 34 = .ok (.aload_n 0, 1) := by decide +kernel
theorem x_288_35 : decode (q_code 288) 35 = .ok (.iload_n 2, 1) := by decide +kernel
theorem x_288_36 : decode (q_code 288) 36 = .ok (.iconst 1, 1) := by decide +kernel
theorem x_288_37 : decode (q_code 288) 37 = .ok (.iadd, 1) := by decide +kernel
theorem x_288_38 : decode (q_code 288) 38 = .ok (.aload_n 0, 1) := by decide +kernel
theorem x_288_39 : decode (q_code 288) 39 = .ok (.iload_n 2, 1) := by decide +kernel
theorem x_288_40 : decode (q_code 288) 40 = .ok (.invokevirtual 160, 3) := by decide +kernel
theorem x_288_43 : decode (q_code 288) 43 = .ok (.invokevirtual 351, 3) := by decide +kernel
theorem x_288_46 : decode (q_code 288) 46 = .ok (.ifCond .ne 10, 3) := by decide +kernel
theorem x_288_49 : decode (q_code 288) 49 = .ok (.aload_n 0, 1) := by decide +kernel
theorem x_288_50 : decode (q_code 288) 50 = .ok (.iconst 3, 1) := by decide +kernel
theorem x_288_51 : decode (q_code 288) 51 = .ok (.iload_n 2, 1) := by decide +kernel
theorem x_288_52 : decode (q_code 288) 52 = .ok (.invokevirtual 237, 3) := by decide +kernel
theorem x_288_55 : decode (q_code 288) 55 = .ok (.ireturn, 1) := by decide +kernel
theorem x_288_56 : decode (q_code 288) 56 = .ok (.aload_n 0, 1) := by decide +kernel
theorem x_288_57 : decode (q_code 288) 57 = .ok (.iload_n 2, 1) := by decide +kernel
theorem x_288_58 : decode (q_code 288) 58 = .ok (.invokevirtual 336, 3) := by decide +kernel
theorem x_288_61 : decode (q_code 288) 61 = .ok (.istore_n 3, 1) := by decide +kernel
theorem x_288_62 : decode (q_code 288) 62 = .ok (.aload_n 0, 1) := by decide +kernel
theorem x_288_63 : decode (q_code 288) 63 = .ok (.iload_n 3, 1) := by decide +kernel
theorem x_288_64 : decode (q_code 288) 64 = .ok (.ifCond .eq 7, 3) := by decide +kernel
theorem x_288_67 : decode (q_code 288) 67 = .ok (.iconst 1, 1) := by decide +kernel
theorem x_288_68 : decode (q_code 288) 68 = .ok (.goto 4, 3) := by decide +kernel
theorem x_288_71 : decode (q_code 288) 71 = .ok (.iconst 2, 1) := by decide +kernel
theorem x_288_72 : decode (q_code 288) 72 = .ok (.iload_n 2, 1) := by decide +kernel
theorem x_288_73 : decode (q_code 288) 73 = .ok (.invokevirtual 354, 3) := by decide +kernel
theorem x_288_76 : decode (q_code 288) 76 = .ok (.ifCond .ne 5, 3) := by decide +kernel
theorem x_288_79 : decode (q_code 288) 79 = .ok (.iconst 0, 1) := by decide +kernel
theorem x_288_80 : decode (q_code 288) 80 = .ok (.ireturn, 1) := by decide +kernel
theorem x_288_81 : decode (q_code 288) 81 = .ok (.iload_n 3, 1) := by decide +kernel
theorem x_288_82 : decode (q_code 288) 82 = .ok (.ifCond .eq 17, 3) := by decide +kernel
theorem x_288_85 : decode (q_code 288) 85 = .ok (.aload_n 0, 1) := by decide +kernel
theorem x_288_86 : decode (q_code 288) 86 = .ok (.aload_n 0, 1) := by decide +kernel
theorem x_288_87 : decode (q_code 288) 87 = .ok (.iload_n 2, 1) := by decide +kernel
theorem x_288_88 : decode (q_code 288) 88 = .ok (.invokevirtual 163, 3) := by decide +kernel
theorem x_288_91 : decode (q_code 288) 91 = .ok (.invokevirtual 357, 3) := by decide +kernel
theorem x_288_94 : decode (q_code 288) 94 = .ok (.ifCond .ne 5, 3) := by decide +kernel
theorem x_288_97 : decode (q_code 288) 97 = .ok (.iconst 0, 1) := by decide +kernel
theorem x_288_98 : decode (q_code 288) 98 = .ok (.ireturn, 1) := by decide +kernel
theorem x_288_99 : decode (q_code 288) 99 = .ok (.aload_n 0, 1) := by decide +kernel
theorem x_288_100 : decode (q_code 288) 100 = .ok (.iload_n 2, 1) := by decide +kernel
theorem x_288_101 : decode (q_code 288) 101 = .ok (.invokevirtual 180, 3) := by decide +kernel
theorem x_288_104 : decode (q_code 288) 104 = .ok (.istore_n 2, 1) := by decide +kernel
theorem x_288_105 : decode (q_code 288) 105 = .ok (.goto (-100), 3) := by decide +kernel
theorem x_288_108 : decode (q_code 288) 108 = .ok (.iconst 1, 1) := by decide +kernel
theorem x_288_109 : decode (q_code 288) 109 = .ok (.ireturn, 1) := by decide +kernel
theorem x_289_0 : decode (q_code 289) 0 = .ok (.aload_n 0, 1) := by decide +kernel
theorem x_289_1 : decode (q_code 289) 1 = .ok (.iload_n 1, 1) := by decide +kernel
theorem x_289_2 : decode (q_code 289) 2 = .ok (.invokevirtual 339, 3) := by decide +kernel
theorem x_289_5 : decode (q_code 289) 5 = .ok (.ifCond .ne 10, 3) := by decide +kernel
theorem x_289_8 : decode (q_code 289) 8 = .ok (.aload_n 0, 1) := by decide +kernel
theorem x_289_9 : decode (q_code 289) 9 = .ok (.iconst 1, 1) := by decide +kernel
theorem x_289_10 : decode (q_code 289) 10 = .ok (.iload_n 1, 1) := by decide +kernel
theorem x_289_11 : decode (q_code 289) 11 = .ok (.invokevirtual 237, 3) := by decide +kernel
theorem x_289_14 : decode (q_code 289) 14 = .ok (.ireturn, 1) := by decide +kernel
theorem x_289_15 : decode (q_code 289) 15 = .ok (.aload_n 0, 1) := by decide +kernel
theorem x_289_16 : decode (q_code 289) 16 = .ok (.getfield 10, 3) := by decide +kernel
theorem x_289_19 : decode (q_code 289) 19 = .ok (.iload_n 1, 1) := by decide +kernel
theorem x_289_20 : decode (q_code 289) 20 = .ok (.baload, 1) := by decide +kernel
theorem x_289_21 : decode (q_code 289) 21 = .ok (.iconst 4, 1) := by decide +kernel
theorem x_289_22 : decode (q_code 289) 22 = .ok (.if_icmp .ne 15, 3) := by decide +kernel
theorem x_289_25 : decode (q_code 289) 25 = .ok (.aload_n 0, 1) := by decide +kernel
theorem x_289_26 : decode (q_code 289) 26 = .ok (.aload_n 0, 1) := by decide +kernel
theorem x_289_27 : decode (q_code 289) 27 = .ok (.iload_n 1, 1) := by decide +kernel
theorem x_289_28 : decode (q_code 289) 28 = .ok (.invokevirtual 163, 3) := by decide +kernel
theorem x_289_31 : decode (q_code 289) 31 = .ok (.invokevirtual 360, 3) := by decide +kernel
theorem x_289_34 : decode (q_code 289) 34 = .ok (.ifCond .ne 10, 3) := by decide +kernel
theorem x_289_37 : decode (q_code 289) 37 = .ok (.aload_n 0, 1) := by decide +kernel
theorem x_289_38 : decode (q_code 289) 38 = .ok (.iconst 2, 1) := by decide +kernel
theorem x_289_39 : decode (q_code 289) 39 = .ok (.iload_n 1, 1) := by decide +kernel
theorem x_289_40 : decode (q_code 289) 40 = .ok (.invokevirtual 237, 3) := by decide +kernel
theorem x_289_43 : decode (q_code 289) 43 = .ok (.ireturn, 1) := by decide +kernel
theorem x_289_44 : decode (q_code 289) 44 = .ok (.aload_n 0, 1) := by decide +kernel
theorem x_289_45 : decode (q_code 289) 45 = .ok (.iconst 1, 1) := by decide +kernel
theorem x_289_46 : decode (q_code 289) 46 = .ok (.iload_n 1, 1) := by decide +kernel
theorem x_289_47 : decode (q_code 289) 47 = .ok (.invokevirtual 354, 3) := by decide +kernel
theorem x_289_50 : decode (q_code 289) 50 = .ok (.ifCond .ne 5, 3) := by decide +kernel
theorem x_289_53 : decode (q_code 289) 53 = .ok (.iconst 0, 1) := by decide +kernel
theorem x_289_54 : decode (q_code 289) 54 = .ok (.ireturn, 1) := by decide +kernel
theorem x_289_55 : decode (q_code 289) 55 = .ok (.aload_n 0, 1) := by decide +kernel
theorem x_289_56 : decode (q_code 289) 56 = .ok (.iload_n 1, 1) := by decide +kernel
theorem x_289_57 : decode (q_code 289) 57 = .ok (.invokevirtual 163, 3) := by decide +kernel
theorem x_289_60 : decode (q_code 289) 60 = .ok (.invokestatic 174, 3) := by decide +kernel
theorem x_289_63 : decode (q_code 289) 63 = .ok (.istore_n 2, 1) := by decide +kernel
theorem x_289_64 : decode (q_code 289) 64 = .ok (.iload_n 2, 1) := by decide +kernel
theorem x_289_65 : decode (q_code 289) 65 = .ok (.aload_n 0, 1) := by decide +kernel
theorem x_289_66 : decode (q_code 289) 66 = .ok (.aload_n 0, 1) := by decide +kernel
theorem x_289_67 : decode (q_code 289) 67 = .ok (.iload_n 1, 1) := by decide +kernel
theorem x_289_68 : decode (q_code 289) 68 = .ok (.invokevirtual 163, 3) := by decide +kernel
theorem x_289_71 : decode (q_code 289) 71 = .ok (.invokevirtual 177, 3) := by decide +kernel
theorem x_289_74 : decode (q_code 289) 74 = .ok (.if_icmp .ge 43, 3) := by decide +kernel
theorem x_289_77 : decode (q_code 289) 77 = .ok (.aload_n 0, 1) := by decide +kernel
theorem x_289_78 : decode (q_code 289) 78 = .ok (.getfield 10, 3) := by decide +kernel
theorem x_289_81 : decode (q_code 289) 81 = .ok (.iload_n 2, 1) := by decide +kernel
theorem x_289_82 : decode (q_code 289) 82 = .ok (.baload, 1) := by decide +kernel
theorem x_289_83 : decode (q_code 289) 83 = .ok (.iconst 3, 1) := by decide +kernel
theorem x_289_84 : decode (q_code 289) 84 = .ok (.if_icmp .eq 10, 3) := by decide +kernel
theorem x_289_87 : decode (q_code 289) 87 = .ok (.aload_n 0, 1) := by decide +kernel
theorem x_289_88 : decode (q_code 289) 88 = .ok (.iconst 2, 1) := by decide +kernel
theorem x_289_89 : decode (q_code 289) 89 = .ok (.iload_n 2, 1) := by decide +kernel
theorem x_289_90 : decode (q_code 289) 90 = .ok (.invokevirtual 237, 3) := by decide +kernel
theorem x_289_93 : decode (q_code 289) 93 = .ok (.ireturn, 1) := by decide +kernel
theorem x_289_94 : decode (q_code 289) 94 = .ok (.aload_n 0, 1) := by decide +kernel
theorem x_289_95 : decode (q_code 289) 95 = .ok (.aload_n 0, 1) := by decide +kernel
theorem x_289_96 : decode (q_code 289) 96 = .ok (.iload_n 2, 1) := by decide +kernel
theorem x_289_97 : decode (q_code 289) 97 = .ok (.invokevirtual 163, 3) := by decide +kernel
theorem x_289_100 : decode (q_code 289) 100 = .ok (.invokevirtual 345, 3) := by decide +kernel
theorem x_289_103 : decode (q_code 289) 103 = .ok (.ifCond .ne 5, 3) := by decide +kernel
theorem x_289_106 : decode (q_code 289) 106 = .ok (.iconst 0, 1) := by decide +kernel
theorem x_289_107 : decode (q_code 289) 107 = .ok (.ireturn, 1) := by decide +kernel
theorem x_289_108 : decode (q_code 289) 108 = .ok (.aload_n 0, 1) := by decide +kernel
theorem x_289_109 : decode (q_code 289) 109 = .ok (.iload_n 2, 1) := by decide +kernel
theorem x_289_110 : decode (q_code 289) 110 = .ok (.invokevirtual 180, 3) := by decide +kernel
theorem x_289_113 : decode (q_code 289) 113 = .ok (.istore_n 2, 1) := by decide +kernel
theorem x_289_114 : decode (q_code 289) 114 = .ok (.goto (-50), 3) := by decide +kernel
theorem x_289_117 : decode (q_code 289) 117 = .ok (.iconst 1, 1) := by decide +kernel
theorem x_289_118 : decode (q_code 289) 118 = .ok (.ireturn, 1) := by decide +kernel
theorem x_290_0 : decode (q_code 290) 0 = .ok (.aload_n 0, 1) := by decide +kernel
theorem x_290_1 : decode (q_code 290) 1 = .ok (.iload_n 1, 1) := by decide +kernel
theorem x_290_2 : decode (q_code 290) 2 = .ok (.ldc_w 363, 3) := by decide +kernel
theorem x_290_5 : decode (q_code 290) 5 = .ok (.invokevirtual 325, 3) := by decide +kernel
theorem x_290_8 : decode (q_code 290) 8 = .ok (.ifCond .ne 58, 3) := by decide +kernel
theorem x_290_11 : decode (q_code 290) 11 = .ok (.aload_n 0, 1) := by decide +kernel
theorem x_290_12 : decode (q_code 290) 12 = .ok (.iload_n 1, 1) := by decide +kernel
theorem x_290_13 : decode (q_code 290) 13 = .ok (.ldc_w 365, 3) := by decide +kernel
theorem x_290_16 : decode (q_code 290) 16 = .ok (.invokevirtual 325, 3) := by decide +kernel
theorem x_290_19 : decode (q_code 290) 19 = .ok (.ifCond .ne 47, 3) := by decide +kernel
theorem x_290_22 : decode (q_code 290) 22 = .ok (.aload_n 0, 1) := by decide +kernel
theorem x_290_23 : decode (q_code 290) 23 = .ok (.iload_n 1, 1) := by decide +kernel
theorem x_290_24 : decode (q_code 290) 24 = .ok (.ldc_w 367, 3) := by decide +kernel
theorem x_290_27 : decode (q_code 290) 27 = .ok (.invokevirtual 325, 3) := by decide +kernel
theorem x_290_30 : decode (q_code 290) 30 = .ok (.ifCond .ne 36, 3) := by decide +kernel
theorem x_290_33 : decode (q_code 290) 33 = .ok (.aload_n 0, 1) := by decide +kernel
theorem x_290_34 : decode (q_code 290) 34 = .ok (.iload_n 1, 1) := by decide +kernel
theorem x_290_35 : decode (q_code 290) 35 = .ok (.ldc_w 369, 3) := by decide +kernel
theorem x_290_38 : decode (q_code 290) 38 = .ok (.invokevirtual 325, 3) := by decide +kernel
theorem x_290_41 : decode (q_code 290) 41 = .ok (.ifCond .ne 25, 3) := by decide +kernel
theorem x_290_44 : decode (q_code 290) 44 = .ok (.aload_n 0, 1) := by decide +kernel
theorem x_290_45 : decode (q_code 290) 45 = .ok (.iload_n 1, 1) := by decide +kernel
theorem x_290_46 : decode (q_code 290) 46 = .ok (.ldc_w 371, 3) := by decide +kernel
theorem x_290_49 : decode (q_code 290) 49 = .ok (.invokevirtual 325, 3) := by decide +kernel
theorem x_290_52 : decode (q_code 290) 52 = .ok (.ifCond .ne 14, 3) := by decide +kernel
theorem x_290_55 : decode (q_code 290) 55 = .ok (.aload_n 0, 1) := by decide +kernel
theorem x_290_56 : decode (q_code 290) 56 = .ok (.iload_n 1, 1) := by decide +kernel
theorem x_290_57 : decode (q_code 290) 57 = .ok (.ldc_w 373, 3) := by decide +kernel
theorem x_290_60 : decode (q_code 290) 60 = .ok (.invokevirtual 325, 3) := by decide +kernel
theorem x_290_63 : decode (q_code 290) 63 = .ok (.ifCond .eq 7, 3) := by decide +kernel
theorem x_290_66 : decode (q_code 290) 66 = .ok (.iconst 1, 1) := by decide +kernel
theorem x_290_67 : decode (q_code 290) 67 = .ok (.goto 4, 3) := by decide +kernel
theorem x_290_70 : decode (q_code 290) 70 = .ok (.iconst 0, 1) := by decide +kernel
theorem x_290_71 : decode (q_code 290) 71 = .ok (.istore_n 2, 1) := by decide +kernel
theorem x_290_72 : decode (q_code 290) 72 = .ok (.iload_n 2, 1) := by decide +kernel
theorem x_290_73 : decode (q_code 290) 73 = .ok (.ifCond .ne 69, 3) := by decide +kernel
theorem x_290_76 : decode (q_code 290) 76 = .ok (.aload_n 0, 1) := by decide +kernel
theorem x_290_77 : decode (q_code 290) 77 = .ok (.iload_n 1, 1) := by decide +kernel
theorem x_290_78 : decode (q_code 290) 78 = .ok (.ldc_w 375, 3) := by decide +kernel
theorem x_290_81 : decode (q_code 290) 81 = .ok (.invokevirtual 325, 3) := by decide +kernel
theorem x_290_84 : decode (q_code 290) 84 = .ok (.ifCond .ne 58, 3) := by decide +kernel
theorem x_290_87 : decode (q_code 290) 87 = .ok (.aload_n 0, 1) := by decide +kernel
theorem x_290_88 : decode (q_code 290) 88 = .ok (.iload_n 1, 1) := by decide +kernel
theorem x_290_89 : decode (q_code 290) 89 = .ok (.ldc_w 377, 3) := by decide +kernel
theorem x_290_92 : decode (q_code 290) 92 = .ok (.invokevirtual 325, 3) := by decide +kernel
theorem x_290_95 : decode (q_code 290) 95 = .ok (.ifCond .ne 47, 3) := by decide +kernel
theorem x_290_98 : decode (q_code 290) 98 = .ok (.aload_n 0, 1) := by decide +kernel
theorem x_290_99 : decode (q_code 290) 99 = .ok (.iload_n 1, 1) := by decide +kernel
theorem x_290_100 : decode (q_code 290) 100 = .ok (.ldc_w 379, 3) := by decide +kernel
theorem x_290_103 : decode (q_code 290) 103 = .ok (.invokevirtual 325, 3) := by decide +kernel
theorem x_290_106 : decode (q_code 290) 106 = .ok (.ifCond .ne 36, 3) := by decide +kernel
theorem x_290_109 : decode (q_code 290) 109 = .ok (.aload_n 0, 1) := by decide +kernel
theorem x_290_110 : decode (q_code 290) 110 = .ok (.iload_n 1, 1) := by decide +kernel
theorem x_290_111 : decode (q_code 290) 111 = .ok (.ldc_w 381, 3) := by decide +kernel
theorem x_290_114 : decode (q_code 290) 114 = .ok (.invokevirtual 325, 3) := by decide +kernel
theorem x_290_117 : decode (q_code 290) 117 = .ok (.ifCond .ne 25, 3) := by decide +kernel
theorem x_290_120 : decode (q_code 290) 120 = .ok (.aload_n 0, 1) := by decide +kernel
theorem x_290_121 : decode (q_code 290) 121 = .ok (.iload_n 1, 1) := by decide +kernel
theorem x_290_122 : decode (q_code 290) 122 = .ok (.ldc_w 383, 3) := by decide +kernel
theorem x_290_125 : decode (q_code 290) 125 = .ok (.invokevirtual 325, 3) := by decide +kernel
theorem x_290_128 : decode (q_code 290) 128 = .ok (.ifCond .ne 14, 3) := by decide +kernel
theorem x_290_131 : decode (q_code 290) 131 = .ok (.aload_n 0, 1) := by decide +kernel
theorem x_290_132 : decode (q_code 290) 132 = .ok (.iload_n 1, 1) := by decide +kernel
theorem x_290_133 : decode (q_code 290) 133 = .ok (.ldc_w 385, 3) := by decide +kernel
theorem x_290_136 : decode (q_code 290) 136 = .ok (.invokevirtual 325, 3) := by decide +kernel
theorem x_290_139 : decode (q_code 290) 139 = .ok (.ifCond .eq 7, 3) := by decide +kernel
theorem x_290_142 : decode (q_code 290) 142 = .ok (.iconst 1, 1) := by decide +kernel
theorem x_290_143 : decode (q_code 290) 143 = .ok (.goto 4, 3) := by decide +kernel
theorem x_290_146 : decode (q_code 290) 146 = .ok (.iconst 0, 1) := by decide +kernel
theorem x_290_147 : decode (q_code 290) 147 = .ok (.ireturn, 1) := by decide +kernel
theorem x_291_0 : decode (q_code 291) 0 = .ok (.aload_n 0, 1) := by decide +kernel
theorem x_291_1 : decode (q_code 291) 1 = .ok (.iload_n 1, 1) := by decide +kernel
theorem x_291_2 : decode (q_code 291) 2 = .ok (.ldc_w 367, 3) := by decide +kernel
theorem x_291_5 : decode (q_code 291) 5 = .ok (.invokevirtual 325, 3) := by decide +kernel
theorem x_291_8 : decode (q_code 291) 8 = .ok (.ifCond .ne 14, 3) := by decide +kernel
theorem x_291_11 : decode (q_code 291) 11 = .ok (.aload_n 0, 1) := by decide +kernel
theorem x_291_12 : decode (q_code 291) 12 = .ok (.iload_n 1, 1) := by decide +kernel
theorem x_291_13 : decode (q_code 291) 13 = .ok (.ldc_w 369, 3) := by decide +kernel
theorem x_291_16 : decode (q_code 291) 16 = .ok (.invokevirtual 325, 3) := by decide +kernel
theorem x_291_19 : decode (q_code 291) 19 = .ok (.ifCond .eq 19, 3) := by decide +kernel
theorem x_291_22 : decode (q_code 291) 22 = .ok (.aload_n 0, 1) := by decide +kernel
theorem x_291_23 : decode (q_code 291) 23 = .ok (.getfield 10, 3) := by decide +kernel
theorem x_291_26 : decode (q_code 291) 26 = .ok (.iload_n 1, 1) := by decide +kernel
theorem x_291_27 : decode (q_code 291) 27 = .ok (.baload, 1) := by decide +kernel
theorem x_291_28 : decode (q_code 291) 28 = .ok (.iconst 4, 1) := by decide +kernel
theorem x_291_29 : decode (q_code 291) 29 = .ok (.if_icmp .ne 7, 3) := by decide +kernel
theorem x_291_32 : decode (q_code 291) 32 = .ok (.iconst 1, 1) := by decide +kernel
theorem x_291_33 : decode (q_code 291) 33 = .ok (.goto 4, 3) := by decide +kernel
theorem x_291_36 : decode (q_code 291) 36 = .ok (.iconst 0, 1) := by decide +kernel
theorem x_291_37 : decode (q_code 291) 37 = .ok (.ireturn, 1) := by decide +kernel
theorem x_291_38 : decode (q_code 291) 38 = .ok (.aload_n 0, 1) := by decide +kernel
theorem x_291_39 : decode (q_code 291) 39 = .ok (.iload_n 1, 1) := by decide +kernel
theorem x_291_40 : decode (q_code 291) 40 = .ok (.ldc_w 379, 3) := by decide +kernel
theorem x_291_43 : decode (q_code 291) 43 = .ok (.invokevirtual 325, 3) := by decide +kernel
theorem x_291_46 : decode (q_code 291) 46 = .ok (.ifCond .eq 20, 3) := by decide +kernel
theorem x_291_49 : decode (q_code 291) 49 = .ok (.aload_n 0, 1) := by decide +kernel
theorem x_291_50 : decode (q_code 291) 50 = .ok (.getfield 10, 3) := by decide +kernel
theorem x_291_53 : decode (q_code 291) 53 = .ok (.iload_n 1, 1) := by decide +kernel
theorem x_291_54 : decode (q_code 291) 54 = .ok (.baload, 1) := by decide +kernel
theorem x_291_55 : decode (q_code 291) 55 = .ok (.bipush 8, 2) := by decide +kernel
theorem x_291_57 : decode (q_code 291) 57 = .ok (.if_icmp .ne 7, 3) := by decide +kernel
theorem x_291_60 : decode (q_code 291) 60 = .ok (.iconst 1, 1) := by decide +kernel
theorem x_291_61 : decode (q_code 291) 61 = .ok (.goto 4, 3) := by decide +kernel
theorem x_291_64 : decode (q_code 291) 64 = .ok (.iconst 0, 1) := by decide +kernel
theorem x_291_65 : decode (q_code 291) 65 = .ok (.ireturn, 1) := by decide +kernel
theorem x_291_66 : decode (q_code 291) 66 = .ok (.aload_n 0, 1) := by decide +kernel
theorem x_291_67 : decode (q_code 291) 67 = .ok (.iload_n 1, 1) := by decide +kernel
theorem x_291_68 : decode (q_code 291) 68 = .ok (.ldc_w 381, 3) := by decide +kernel
theorem x_291_71 : decode (q_code 291) 71 = .ok (.invokevirtual 325, 3) := by decide +kernel
theorem x_291_74 : decode (q_code 291) 74 = .ok (.ifCond .eq 27, 3) := by decide +kernel
theorem x_291_77 : decode (q_code 291) 77 = .ok (.aload_n 0, 1) := by decide +kernel
theorem x_291_78 : decode (q_code 291) 78 = .ok (.iload_n 1, 1) := by decide +kernel
theorem x_291_79 : decode (q_code 291) 79 = .ok (.invokevirtual 387, 3) := by decide +kernel
theorem x_291_82 : decode (q_code 291) 82 = .ok (.ifCond .eq 17, 3) := by decide +kernel
theorem x_291_85 : decode (q_code 291) 85 = .ok (.aload_n 0, 1) := by decide +kernel
theorem x_291_86 : decode (q_code 291) 86 = .ok (.iload_n 1, 1) := by decide +kernel
theorem x_291_87 : decode (q_code 291) 87 = .ok (.invokevirtual 273, 3) := by decide +kernel
theorem x_291_90 : decode (q_code 291) 90 = .ok (.lconst 0, 1) := by decide +kernel
theorem x_291_91 : decode (q_code 291) 91 = .ok (.lcmp, 1) := by decide +kernel
theorem x_291_92 : decode (q_code 291) 92 = .ok (.ifCond .lt 7, 3) := by decide +kernel
theorem x_291_95 : decode (q_code 291) 95 = .ok (.iconst 1, 1) := by decide +kernel
theorem x_291_96 : decode (q_code 291) 96 = .ok (.goto 4, 3) := by decide +kernel
theorem x_291_99 : decode (q_code 291) 99 = .ok (.iconst 0, 1) := by decide +kernel
theorem x_291_100 : decode (q_code 291) 100 = .ok (.ireturn, 1) := by decide +kernel
theorem x_291_101 : decode (q_code 291) 101 = .ok (.aload_n 0, 1) := by decide +kernel
theorem x_291_102 : decode (q_code 291) 102 = .ok (.iload_n 1, 1) := by decide +kernel
theorem x_291_103 : decode (q_code 291) 103 = .ok (.ldc_w 383, 3) := by decide +kernel
theorem x_291_106 : decode (q_code 291) 106 = .ok (.invokevirtual 325, 3) := by decide +kernel
theorem x_291_109 : decode (q_code 291) 109 = .ok (.ifCond .eq 19, 3) := by decide +kernel
theorem x_291_112 : decode (q_code 291) 112 = .ok (.aload_n 0, 1) := by decide +kernel
theorem x_291_113 : decode (q_code 291) 113 = .ok (.getfield 10, 3) := by decide +kernel
theorem x_291_116 : decode (q_code 291) 116 = .ok (.iload_n 1, 1) := by decide +kernel
theorem x_291_117 : decode (q_code 291) 117 = .ok (.baload, 1) := by decide +kernel
theorem x_291_118 : decode (q_code 291) 118 = .ok (.iconst 3, 1) := by decide +kernel
theorem x_291_119 : decode (q_code 291) 119 = .ok (.if_icmp .ne 7, 3) := by decide +kernel
theorem x_291_122 : decode (q_code 291) 122 = .ok (.iconst 1, 1) := by decide +kernel
theorem x_291_123 : decode (q_code 291) 123 = .ok (.goto 4, 3) := by decide +kernel
theorem x_291_126 : decode (q_code 291) 126 = .ok (.iconst 0, 1) := by decide +kernel
theorem x_291_127 : decode (q_code 291) 127 = .ok (.ireturn, 1) := by decide +kernel
theorem x_291_128 : decode (q_code 291) 128 = .ok (.aload_n 0, 1) := by decide +kernel
theorem x_291_129 : decode (q_code 291) 129 = .ok (.iload_n 1, 1) := by decide +kernel
theorem x_291_130 : decode (q_code 291) 130 = .ok (.ldc_w 385, 3) := by decide +kernel
theorem x_291_133 : decode (q_code 291) 133 = .ok (.invokevirtual 325, 3) := by decide +kernel
theorem x_291_136 : decode (q_code 291) 136 = .ok (.ifCond .eq 11, 3) := by decide +kernel
theorem x_291_139 : decode (q_code 291) 139 = .ok (.aload_n 0, 1) := by decide +kernel
theorem x_291_140 : decode (q_code 291) 140 = .ok (.iload_n 1, 1) := by decide +kernel
theorem x_291_141 : decode (q_code 291) 141 = .ok (.invokevirtual 336, 3) := by decide +kernel
theorem x_291_144 : decode (q_code 291) 144 = .ok (.ifCond .eq 7, 3) := by decide +kernel
theorem x_291_147 : decode (q_code 291) 147 = .ok (.iconst 1, 1) := by decide +kernel
theorem x_291_148 : decode (q_code 291) 148 = .ok (.goto 4, 3) := by decide +kernel
theorem x_291_151 : decode (q_code 291) 151 = .ok (.iconst 0, 1) := by decide +kernel
theorem x_291_152 : decode (q_code 291) 152 = .ok (.ireturn, 1) := by decide +kernel
theorem x_292_0 : decode (q_code 292) 0 = .ok (.iload_n 1, 1) := by decide +kernel
theorem x_292_1 : decode (q_code 292) 1 = .ok (.invokestatic 174, 3) := by decide +kernel
theorem x_292_4 : decode (q_code 292) 4 = .ok (.istore_n 2, 1) := by decide +kernel
theorem x_292_5 : decode (q_code 292) 5 = .ok (.iload_n 2, 1) := by decide +kernel
theorem x_292_6 : decode (q_code 292) 6 = .ok (.aload_n 0, 1) := by decide +kernel
theorem x_292_7 : decode (q_code 292) 7 = .ok (.iload_n 1, 1) := by decide +kernel
theorem x_292_8 : decode (q_code 292) 8 = .ok (.invokevirtual 177, 3) := by decide +kernel
theorem x_292_11 : decode (q_code 292) 11 = .ok (.if_icmp .ge 126, 3) := by decide +kernel
theorem x_292_14 : decode (q_code 292) 14 = .ok (.aload_n 0, 1) := by decide +kernel
theorem x_292_15 : decode (q_code 292) 15 = .ok (.iload_n 2, 1) := by decide +kernel
theorem x_292_16 : decode (q_code 292) 16 = .ok (.invokevirtual 390, 3) := by decide +kernel
theorem x_292_19 : decode (q_code 292) 19 = .ok (.ifCond .ne 10, 3) := by decide +kernel
theorem x_292_22 : decode (q_code 292) 22 = .ok (.aload_n 0, 1) := by decide +kernel
theorem x_292_23 : decode (q_code 292) 23 = .ok (.iconst 1, 1) := by decide +kernel
theorem x_292_24 : decode (q_code 292) 24 = .ok (.iload_n 2, 1) := by decide +kernel
theorem x_292_25 : decode (q_code 292) 25 = .ok (.invokevirtual 237, 3) := by decide +kernel
theorem x_292_28 : decode (q_code 292) 28 = .ok (.ireturn, 1) := by decide +kernel
theorem x_292_29 : decode (q_code 292) 29 = .ok (.aload_n 0, 1) := by decide +kernel
theorem x_292_30 : decode (q_code 292) 30 = .ok (.iload_n 2, 1) := by decide +kernel
theorem x_292_31 : decode (q_code 292) 31 = .ok (.invokevirtual 393, 3) := by decide +kernel
theorem x_292_34 : decode (q_code 292) 34 = .ok (.ifCond .ne 10, 3) := by decide +kernel
theorem x_292_37 : decode (q_code 292) 37 = .ok (.aload_n 0, 1) := by decide +kernel
theorem x_292_38 : decode (q_code 292) 38 = .ok (.iconst 4, 1) := by decide +kernel
theorem x_292_39 : decode (q_code 292) 39 = .ok (.iload_n 2, 1) := by decide +kernel
theorem x_292_40 : decode (q_code 292) 40 = .ok (.invokevirtual 237, 3) := by decide +kernel
theorem x_292_43 : decode (q_code 292) 43 = .ok (.ireturn, 1) := by decide +kernel
theorem x_292_44 : decode (q_code 292) 44 = .ok (.aload_n 0, 1) := by decide +kernel
theorem x_292_45 : decode (q_code 292) 45 = .ok (.iconst 1, 1) := by decide +kernel
theorem x_292_46 : decode (q_code 292) 46 = .ok (.iload_n 2, 1) := by decide +kernel
theorem x_292_47 : decode (q_code 292) 47 = .ok (.invokevirtual 354, 3) := by decide +kernel
theorem x_292_50 : decode (q_code 292) 50 = .ok (.ifCond .ne 5, 3) := by decide +kernel
theorem x_292_53 : decode (q_code 292) 53 = .ok (.iconst 0, 1) := by decide +kernel
theorem x_292_54 : decode (q_code 292) 54 = .ok (.ireturn, 1) := by decide +kernel
theorem x_292_55 : decode (q_code 292) 55 = .ok (.aload_n 0, 1) := by decide +kernel
theorem x_292_56 : decode (q_code 292) 56 = .ok (.iload_n 2, 1) := by decide +kernel
theorem x_292_57 : decode (q_code 292) 57 = .ok (.ldc_w 385, 3) := by decide +kernel
theorem x_292_60 : decode (q_code 292) 60 = .ok (.invokevirtual 325, 3) := by decide +kernel
theorem x_292_63 : decode (q_code 292) 63 = .ok (.ifCond .eq 17, 3) := by decide +kernel
theorem x_292_66 : decode (q_code 292) 66 = .ok (.aload_n 0, 1) := by decide +kernel
theorem x_292_67 : decode (q_code 292) 67 = .ok (.aload_n 0, 1) := by decide +kernel
theorem x_292_68 : decode (q_code 292) 68 = .ok (.iload_n 2, 1) := by decide +kernel
theorem x_292_69 : decode (q_code 292) 69 = .ok (.invokevirtual 163, 3) := by decide +kernel
theorem x_292_72 : decode (q_code 292) 72 = .ok (.invokevirtual 357, 3) := by decide +kernel
theorem x_292_75 : decode (q_code 292) 75 = .ok (.ifCond .ne 5, 3) := by decide +kernel
theorem x_292_78 : decode (q_code 292) 78 = .ok (.iconst 0, 1) := by decide +kernel
theorem x_292_79 : decode (q_code 292) 79 = .ok (.ireturn, 1) := by decide +kernel
theorem x_292_80 : decode (q_code 292) 80 = .ok (.aload_n 0, 1) := by decide +kernel
theorem x_292_81 : decode (q_code 292) 81 = .ok (.iload_n 2, 1) := by decide +kernel
theorem x_292_82 : decode (q_code 292) 82 = .ok (.ldc_w 383, 3) := by decide +kernel
theorem x_292_85 : decode (q_code 292) 85 = .ok (.invokevirtual 325, 3) := by decide +kernel
theorem x_292_88 : decode (q_code 292) 88 = .ok (.ifCond .eq 40, 3) := by decide +kernel
theorem x_292_91 : decode (q_code 292) 91 = .ok (.aload_n 0, 1) := by decide +kernel
theorem x_292_92 : decode (q_code 292) 92 = .ok (.iload_n 2, 1) := by decide +kernel
theorem x_292_93 : decode (q_code 292) 93 = .ok (.invokevirtual 396, 3) := by decide +kernel
theorem x_292_96 : decode (q_code 292) 96 = .ok (.ifCond .eq 18, 3) := by decide +kernel
theorem x_292_99 : decode (q_code 292) 99 = .ok (.aload_n 0, 1) := by decide +kernel
theorem x_292_100 : decode (q_code 292) 100 = .ok (.aload_n 0, 1) := by decide +kernel
theorem x_292_101 : decode (q_code 292) 101 = .ok (.iload_n 2, 1) := by decide +kernel
theorem x_292_102 : decode (q_code 292) 102 = .ok (.invokevirtual 163, 3) := by decide +kernel
theorem x_292_105 : decode (q_code 292) 105 = .ok (.invokevirtual 357, 3) := by decide +kernel
theorem x_292_108 : decode (q_code 292) 108 = .ok (.ifCond .eq 18, 3) := by decide +kernel
theorem x_292_111 : decode (q_code 292) 111 = .ok (.goto 17, 3) := by decide +kernel
theorem x_292_114 : decode (q_code 292) 114 = .ok (.aload_n 0, 1) := by decide +kernel
theorem x_292_115 : decode (q_code 292) 115 = .ok (.aload_n 0, 1) := by decide +kernel
theorem x_292_116 : decode (q_code 292) 116 = .ok (.iload_n 2, 1) := by decide +kernel
theorem x_292_117 : decode (q_code 292) 117 = .ok (.invokevirtual 163, 3) := by decide +kernel
theorem x_292_120 : decode (q_code 292) 120 = .ok (.invokevirtual 345, 3) := by decide +kernel
theorem x_292_123 : decode (q_code 292) 123 = .ok (.ifCond .ne 5, 3) := by decide +kernel
theorem x_292_126 : decode (q_code 292) 126 = .ok (.iconst 0, 1) := by decide +kernel
theorem x_292_127 : decode (q_code 292) 127 = .ok (.ireturn, 1) := by decide +kernel
theorem x_292_128 : decode (q_code 292) 128 = .ok (.aload_n 0, 1) := by decide +kernel
theorem x_292_129 : decode (q_code 292) 129 = .ok (.iload_n 2, 1) := by decide +kernel
theorem x_292_130 : decode (q_code 292) 130 = .ok (.invokevirtual 180, 3) := by decide +kernel
theorem x_292_133 : decode (q_code 292) 133 = .ok (.istore_n 2, 1) := by decide +kernel
theorem x_292_134 : decode (q_code 292) 134 = .ok (.goto (-129), 3) := by decide +kernel
theorem x_292_137 : decode (q_code 292) 137 = .ok (.iconst 1, 1) := by decide +kernel
theorem x_292_138 : decode (q_code 292) 138 = .ok (.ireturn, 1) := by decide +kernel
theorem x_293_0 : decode (q_code 293) 0 = .ok (.iload_n 1, 1) := by decide +kernel
theorem x_293_1 : decode (q_code 293) 1 = .ok (.invokestatic 174, 3) := by decide +kernel
theorem x_293_4 : decode (q_code 293) 4 = .ok (.istore_n 3, 1) := by decide +kernel
theorem x_293_5 : decode (q_code 293) 5 = .ok (.iload_n 3, 1) := by decide +kernel
theorem x_293_6 : decode (q_code 293) 6 = .ok (.aload_n 0, 1) := by decide +kernel
theorem x_293_7 : decode (q_code 293) 7 = .ok (.iload_n 1, 1) := by decide +kernel
theorem x_293_8 : decode (q_code 293) 8 = .ok (.invokevirtual 177, 3) := by decide +kernel
theorem x_293_11 : decode (q_code 293) 11 = .ok (.if_icmp .ge 23, 3) := by decide +kernel
theorem x_293_14 : decode (q_code 293) 14 = .ok (.aload_n 0, 1) := by decide +kernel
theorem x_293_15 : decode (q_code 293) 15 = .ok (.iload_n 3, 1) := by decide +kernel
theorem x_293_16 : decode (q_code 293) 16 = .ok (.iload_n 2, 1) := by decide +kernel
theorem x_293_17 : decode (q_code 293) 17 = .ok (.invokevirtual 399, 3) := by decide +kernel
theorem x_293_20 : decode (q_code 293) 20 = .ok (.ifCond .ne 5, 3) := by decide +kernel
theorem x_293_23 : decode (q_code 293) 23 = .ok (.iconst 0, 1) := by decide +kernel
theorem x_293_24 : decode (q_code 293) 24 = .ok (.ireturn, 1) := by decide +kernel
theorem x_293_25 : decode (q_code 293) 25 = .ok (.aload_n 0, 1) := by decide +kernel
theorem x_293_26 : decode (q_code 293) 26 = .ok (.iload_n 3, 1) := by decide +kernel
theorem x_293_27 : decode (q_code 293) 27 = .ok (.invokevirtual 180, 3) := by decide +kernel
theorem x_293_30 : decode (q_code 293) 30 = .ok (.istore_n 3, 1) := by decide +kernel
theorem x_293_31 : decode (q_code 293) 31 = .ok (.goto (-26), 3) := by decide +kernel
theorem x_293_34 : decode (q_code 293) 34 = .ok (.iconst 1, 1) := by decide +kernel
theorem x_293_35 : decode (q_code 293) 35 = .ok (.ireturn, 1) := by decide +kernel
theorem x_294_0 : decode (q_code 294) 0 = .ok (.aload_n 0, 1) := by decide +kernel
theorem x_294_1 : decode (q_code 294) 1 = .ok (.iload_n 1, 1) := by decide +kernel
theorem x_294_2 : decode (q_code 294) 2 = .ok (.bipush 36, 2) := by decide +kernel
theorem x_294_4 : decode (q_code 294) 4 = .ok (.invokevirtual 333, 3) := by decide +kernel
theorem x_294_7 : decode (q_code 294) 7 = .ok (.ifCond .eq 102, 3) := by decide +kernel
theorem x_294_10 : decode (q_code 294) 10 = .ok (.iconst 1, 1) := by decide +kernel
theorem x_294_11 : decode (q_code 294) 11 = .ok (.istore_n 3, 1) := by decide +kernel
theorem x_294_12 : decode (q_code 294) 12 = .ok (.iconst 0, 1) := by decide +kernel
theorem x_294_13 : decode (q_code 294) 13 = .ok (.istore 4, 2) := by decide +kernel
theorem x_294_15 : decode (q_code 294) 15 = .ok (.aload_n 0, 1) := by decide +kernel
theorem x_294_16 : decode (q_code 294) 16 = .ok (.iload_n 1, 1) := by decide +kernel
theorem x_294_17 : decode (q_code 294) 17 = .ok (.invokevirtual 163, 3) := by decide +kernel
theorem x_294_20 : decode (q_code 294) 20 = .ok (.invokestatic 174, 3) := by decide +kernel
theorem x_294_23 : decode (q_code 294) 23 = .ok (.istore 5, 2) := by decide +kernel
theorem x_294_25 : decode (q_code 294) 25 = .ok (.iload 5, 2) := by decide +kernel
theorem x_294_27 : decode (q_code 294) 27 = .ok (.aload_n 0, 1) := by decide +kernel
theorem x_294_28 : decode (q_code 294) 28 = .ok (.aload_n 0, 1) := by decide +kernel
theorem x_294_29 : decode (q_code 294) 29 = .ok (.iload_n 1, 1) := by decide +kernel
theorem x_294_30 : decode (q_code 294) 30 = .ok (.invokevirtual 163, 3) := by decide +kernel
theorem x_294_33 : decode (q_code 294) 33 = .ok (.invokevirtual 177, 3) := by decide +kernel
theorem x_294_36 : decode (q_code 294) 36 = .ok (.if_icmp .ge 39, 3) := by decide +kernel
theorem x_294_39 : decode (q_code 294) 39 = .ok (.aload_n 0, 1) := by decide +kernel
theorem x_294_40 : decode (q_code 294) 40 = .ok (.aload_n 0, 1) := by decide +kernel
theorem x_294_41 : decode (q_code 294) 41 = .ok (.iload 5, 2) := by decide +kernel
theorem x_294_43 : decode (q_code 294) 43 = .ok (.invokevirtual 163, 3) := by decide +kernel
theorem x_294_46 : decode (q_code 294) 46 = .ok (.iload_n 2, 1) := by decide +kernel
theorem x_294_47 : decode (q_code 294) 47 = .ok (.invokevirtual 402, 3) := by decide +kernel
theorem x_294_50 : decode (q_code 294) 50 = .ok (.istore 6, 2) := by decide +kernel
theorem x_294_52 : decode (q_code 294) 52 = .ok (.iload_n 3, 1) := by decide +kernel
theorem x_294_53 : decode (q_code 294) 53 = .ok (.iload 6, 2) := by decide +kernel
theorem x_294_55 : decode (q_code 294) 55 = .ok (.iand, 1) := by decide +kernel
theorem x_294_56 : decode (q_code 294) 56 = .ok (.istore_n 3, 1) := by decide +kernel
theorem x_294_57 : decode (q_code 294) 57 = .ok (.iload 4, 2) := by decide +kernel
theorem x_294_59 : decode (q_code 294) 59 = .ok (.iload 6, 2) := by decide +kernel
theorem x_294_61 : decode (q_code 294) 61 = .ok (.ior, 1) := by decide +kernel
theorem x_294_62 : decode (q_code 294) 62 = .ok (.istore 4, 2) := by decide +kernel
theorem x_294_64 : decode (q_code 294) 64 = .ok (.aload_n 0, 1) := by decide +kernel
theorem x_294_65 : decode (q_code 294) 65 = .ok (.iload 5, 2) := by decide +kernel
theorem x_294_67 : decode (q_code 294) 67 = .ok (.invokevirtual 180, 3) := by decide +kernel
theorem x_294_70 : decode (q_code 294) 70 = .ok (.istore 5, 2) := by decide +kernel
theorem x_294_72 : decode (q_code 294) 72 = .ok (.goto (-47), 3) := by decide +kernel
theorem x_294_75 : decode (q_code 294) 75 = .ok (.aload_n 0, 1) := by decide +kernel
theorem x_294_76 : decode (q_code 294) 76 = .ok (.iload_n 1, 1) := by decide +kernel
theorem x_294_77 : decode (q_code 294) 77 = .ok (.ldc_w 323, 3) := by decide +kernel
theorem x_294_80 : decode (q_code 294) 80 = .ok (.invokevirtual 325, 3) := by decide +kernel
theorem x_294_83 : decode (q_code 294) 83 = .ok (.ifCond .eq 7, 3) := by decide +kernel
theorem x_294_86 : decode (q_code 294) 86 = .ok (.iload_n 3, 1) := by decide +kernel
theorem x_294_87 : decode (q_code 294) 87 = .ok (.goto 21, 3) := by decide +kernel
theorem x_294_90 : decode (q_code 294) 90 = .ok (.aload_n 0, 1) := by decide +kernel
theorem x_294_91 : decode (q_code 294) 91 = .ok (.iload_n 1, 1) := by decide +kernel
theorem x_294_92 : decode (q_code 294) 92 = .ok (.ldc_w 329, 3) := by decide +kernel
theorem x_294_95 : decode (q_code 294) 95 = .ok (.invokevirtual 325, 3) := by decide +kernel
theorem x_294_98 : decode (q_code 294) 98 = .ok (.iload 4, 2) := by decide +kernel
theorem x_294_100 : decode (q_code 294) 100 = .ok (.if_icmp .ne 7, 3) := by decide +kernel
theorem x_294_103 : decode (q_code 294) 103 = .ok (.iconst 1, 1) := by decide +kernel
theorem x_294_104 : decode (q_code 294) 104 = .ok (.goto 4, 3) := by decide +kernel
theorem x_294_107 : decode (q_code 294) 107 = .ok (.iconst 0, 1) := by decide +kernel
theorem x_294_108 : decode (q_code 294) 108 = .ok (.ireturn, 1) := by decide +kernel
theorem x_294_109 : decode (q_code 294) 109 = .ok (.aload_n 0, 1) := by decide +kernel
theorem x_294_110 : decode (q_code 294) 110 = .ok (.getfield 297, 3) := by decide +kernel
theorem x_294_113 : decode (q_code 294) 113 = .ok (.istore_n 3, 1) := by decide +kernel
theorem x_294_114 : decode (q_code 294) 114 = .ok (.aload_n 0, 1) := by decide +kernel
theorem x_294_115 : decode (q_code 294) 115 = .ok (.iload_n 2, 1) := by decide +kernel
theorem x_294_116 : decode (q_code 294) 116 = .ok (.iload_n 1, 1) := by decide +kernel
theorem x_294_117 : decode (q_code 294) 117 = .ok (.iconst 1, 1) := by decide +kernel
theorem x_294_118 : decode (q_code 294) 118 = .ok (.iadd, 1) := by decide +kernel
theorem x_294_119 : decode (q_code 294) 119 = .ok (.aload_n 0, 1) := by decide +kernel
theorem x_294_120 : decode (q_code 294) 120 = .ok (.iload_n 1, 1) := by decide +kernel
theorem x_294_121 : decode (q_code 294) 121 = .ok (.invokevirtual 160, 3) := by decide +kernel
theorem x_294_124 : decode (q_code 294) 124 = .ok (.invokevirtual 303, 3) := by decide +kernel
theorem x_294_127 : decode (q_code 294) 127 = .ok (.aload_n 0, 1) := by decide +kernel
theorem x_294_128 : decode (q_code 294) 128 = .ok (.getfield 297, 3) := by decide +kernel
theorem x_294_131 : decode (q_code 294) 131 = .ok (.iload_n 3, 1) := by decide +kernel
theorem x_294_132 : decode (q_code 294) 132 = .ok (.if_icmp .ne 8, 3) := by decide +kernel
theorem x_294_135 : decode (q_code 294) 135 = .ok (.aload_n 0, 1) := by decide +kernel
theorem x_294_136 : decode (q_code 294) 136 = .ok (.iconst (-1), 1) := by decide +kernel
theorem x_294_137 : decode (q_code 294) 137 = .ok (.invokevirtual 300, 3) := by decide +kernel
theorem x_294_140 : decode (q_code 294) 140 = .ok (.aload_n 0, 1) := by decide +kernel
theorem x_294_141 : decode (q_code 294) 141 = .ok (.iload_n 1, 1) := by decide +kernel
theorem x_294_142 : decode (q_code 294) 142 = .ok (.invokevirtual 336, 3) := by decide +kernel
theorem x_294_145 : decode (q_code 294) 145 = .ok (.ifCond .eq 20, 3) := by decide +kernel
theorem x_294_148 : decode (q_code 294) 148 = .ok (.aload_n 0, 1) := by decide +kernel
theorem x_294_149 : decode (q_code 294) 149 = .ok (.aload_n 0, 1) := by decide +kernel
theorem x_294_150 : decode (q_code 294) 150 = .ok (.iload_n 1, 1) := by decide +kernel
theorem x_294_151 : decode (q_code 294) 151 = .ok (.invokevirtual 163, 3) := by decide +kernel
theorem x_294_154 : decode (q_code 294) 154 = .ok (.iload_n 3, 1) := by decide +kernel
theorem x_294_155 : decode (q_code 294) 155 = .ok (.aload_n 0, 1) := by decide +kernel
theorem x_294_156 : decode (q_code 294) 156 = .ok (.getfield 297, 3) := by decide +kernel
theorem x_294_159 : decode (q_code 294) 159 = .ok (.invokevirtual 405, 3) := by decide +kernel
theorem x_294_162 : decode (q_code 294) 162 = .ok (.goto 13, 3) := by decide +kernel
theorem x_294_165 : decode (q_code 294) 165 = .ok (.aload_n 0, 1) := by decide +kernel
theorem x_294_166 : decode (q_code 294) 166 = .ok (.iload_n 1, 1) := by decide +kernel
theorem x_294_167 : decode (q_code 294) 167 = .ok (.iload_n 3, 1) := by decide +kernel
theorem x_294_168 : decode (q_code 294) 168 = .ok (.aload_n 0, 1) := by decide +kernel
theorem x_294_169 : decode (q_code 294) 169 = .ok (.getfield 297, 3) := by decide +kernel
theorem x_294_172 : decode (q_code 294) 172 = .ok (.invokevirtual 408, 3) := by decide +kernel
theorem x_294_175 : decode (q_code 294) 175 = .ok (.istore 4, 2) := by decide +kernel
theorem x_294_177 : decode (q_code 294) 177 = .ok (.aload_n 0, 1) := by decide +kernel
theorem x_294_178 : decode (q_code 294) 178 = .ok (.iload_n 3, 1) := by decide +kernel
theorem x_294_179 : decode (q_code 294) 179 = .ok (.putfield 297, 3) := by decide +kernel
theorem x_294_182 : decode (q_code 294) 182 = .ok (.iload 4, 2) := by decide +kernel
theorem x_294_184 : decode (q_code 294) 184 = .ok (.ireturn, 1) := by decide +kernel
theorem x_295_0 : decode (q_code 295) 0 = .ok (.iload_n 1, 1) := by decide +kernel
theorem x_295_1 : decode (q_code 295) 1 = .ok (.invokestatic 174, 3) := by decide +kernel
theorem x_295_4 : decode (q_code 295) 4 = .ok (.istore 4, 2) := by decide +kernel
theorem x_295_6 : decode (q_code 295) 6 = .ok (.iload 4, 2) := by decide +kernel
theorem x_295_8 : decode (q_code 295) 8 = .ok (.aload_n 0, 1) := by decide +kernel
theorem x_295_9 : decode (q_code 295) 9 = .ok (.iload_n 1, 1) := by decide +kernel
theorem x_295_10 : decode (q_code 295) 10 = .ok (.invokevirtual 177, 3) := by decide +kernel
theorem x_295_13 : decode (q_code 295) 13 = .ok (.if_icmp .ge 27, 3) := by decide +kernel
theorem x_295_16 : decode (q_code 295) 16 = .ok (.aload_n 0, 1) := by decide +kernel
theorem x_295_17 : decode (q_code 295) 17 = .ok (.iload 4, 2) := by decide +kernel
theorem x_295_19 : decode (q_code 295) 19 = .ok (.iload_n 2, 1) := by decide +kernel
theorem x_295_20 : decode (q_code 295) 20 = .ok (.iload_n 3, 1) := by decide +kernel
theorem x_295_21 : decode (q_code 295) 21 = .ok (.invokevirtual 411, 3) := by decide +kernel
theorem x_295_24 : decode (q_code 295) 24 = .ok (.ifCond .ne 5, 3) := by decide +kernel
theorem x_295_27 : decode (q_code 295) 27 = .ok (.iconst 0, 1) := by decide +kernel
theorem x_295_28 : decode (q_code 295) 28 = .ok (.ireturn, 1) := by decide +kernel
theorem x_295_29 : decode (q_code 295) 29 = .ok (.aload_n 0, 1) := by decide +kernel
theorem x_295_30 : decode (q_code 295) 30 = .ok (.iload 4, 2) := by decide +kernel
theorem x_295_32 : decode (q_code 295) 32 = .ok (.invokevirtual 180, 3) := by decide +kernel
theorem x_295_35 : decode (q_code 295) 35 = .ok (.istore 4, 2) := by decide +kernel
theorem x_295_37 : decode (q_code 295) 37 = .ok (.goto (-31), 3) := by decide +kernel
theorem x_295_40 : decode (q_code 295) 40 = .ok (.iconst 1, 1) := by decide +kernel
theorem x_295_41 : decode (q_code 295) 41 = .ok (.ireturn, 1) := by decide +kernel
theorem x_296_0 : decode (q_code 296) 0 = .ok (.aload_n 0, 1) := by decide +kernel
theorem x_296_1 : decode (q_code 296) 1 = .ok (.iload_n 1, 1) := by decide +kernel
theorem x_296_2 : decode (q_code 296) 2 = .ok (.ldc_w 363, 3) := by decide +kernel
theorem x_296_5 : decode (q_code 296) 5 = .ok (.invokevirtual 325, 3) := by decide +kernel
theorem x_296_8 : decode (q_code 296) 8 = .ok (.ifCond .eq 11, 3) := by decide +kernel
theorem x_296_11 : decode (q_code 296) 11 = .ok (.aload_n 0, 1) := by decide +kernel
theorem x_296_12 : decode (q_code 296) 12 = .ok (.iload_n 1, 1) := by decide +kernel
theorem x_296_13 : decode (q_code 296) 13 = .ok (.iload_n 2, 1) := by decide +kernel
theorem x_296_14 : decode (q_code 296) 14 = .ok (.iload_n 3, 1) := by decide +kernel
theorem x_296_15 : decode (q_code 296) 15 = .ok (.invokevirtual 408, 3) := by decide +kernel
theorem x_296_18 : decode (q_code 296) 18 = .ok (.ireturn, 1) := by decide +kernel
theorem x_296_19 : decode (q_code 296) 19 = .ok (.aload_n 0, 1) := by decide +kernel
theorem x_296_20 : decode (q_code 296) 20 = .ok (.iload_n 1, 1) := by decide +kernel
theorem x_296_21 : decode (q_code 296) 21 = .ok (.ldc_w 365, 3) := by decide +kernel
theorem x_296_24 : decode (q_code 296) 24 = .ok (.invokevirtual 325, 3) := by decide +kernel
theorem x_296_27 : decode (q_code 296) 27 = .ok (.ifCond .eq 19, 3) := by decide +kernel
theorem x_296_30 : decode (q_code 296) 30 = .ok (.aload_n 0, 1) := by decide +kernel
theorem x_296_31 : decode (q_code 296) 31 = .ok (.iload_n 1, 1) := by decide +kernel
theorem x_296_32 : decode (q_code 296) 32 = .ok (.iload_n 2, 1) := by decide +kernel
theorem x_296_33 : decode (q_code 296) 33 = .ok (.iload_n 3, 1) := by decide +kernel
theorem x_296_34 : decode (q_code 296) 34 = .ok (.invokevirtual 408, 3) := by decide +kernel
theorem x_296_37 : decode (q_code 296) 37 = .ok (.ifCond .ne 7, 3) := by decide +kernel
theorem x_296_40 : decode (q_code 296) 40 = .ok (.iconst 1, 1) := by decide +kernel
theorem x_296_41 : decode (q_code 296) 41 = .ok (.goto 4, 3) := by decide +kernel
theorem x_296_44 : decode (q_code 296) 44 = .ok (.iconst 0, 1) := by decide +kernel
theorem x_296_45 : decode (q_code 296) 45 = .ok (.ireturn, 1) := by decide +kernel
theorem x_296_46 : decode (q_code 296) 46 = .ok (.aload_n 0, 1) := by decide +kernel
theorem x_296_47 : decode (q_code 296) 47 = .ok (.iload_n 1, 1) := by decide +kernel
theorem x_296_48 : decode (q_code 296) 48 = .ok (.ldc_w 367, 3) := by decide +kernel
theorem x_296_51 : decode (q_code 296) 51 = .ok (.invokevirtual 325, 3) := by decide +kernel
theorem x_296_54 : decode (q_code 296) 54 = .ok (.ifCond .eq 11, 3) := by decide +kernel
theorem x_296_57 : decode (q_code 296) 57 = .ok (.aload_n 0, 1) := by decide +kernel
theorem x_296_58 : decode (q_code 296) 58 = .ok (.iload_n 1, 1) := by decide +kernel
theorem x_296_59 : decode (q_code 296) 59 = .ok (.iload_n 2, 1) := by decide +kernel
theorem x_296_60 : decode (q_code 296) 60 = .ok (.iload_n 3, 1) := by decide +kernel
theorem x_296_61 : decode (q_code 296) 61 = .ok (.invokevirtual 414, 3) := by decide +kernel
theorem x_296_64 : decode (q_code 296) 64 = .ok (.ireturn, 1) := by decide +kernel
theorem x_296_65 : decode (q_code 296) 65 = .ok (.aload_n 0, 1) := by decide +kernel
theorem x_296_66 : decode (q_code 296) 66 = .ok (.iload_n 1, 1) := by decide +kernel
theorem x_296_67 : decode (q_code 296) 67 = .ok (.ldc_w 369, 3) := by decide +kernel
theorem x_296_70 : decode (q_code 296) 70 = .ok (.invokevirtual 325, 3) := by decide +kernel
theorem x_296_73 : decode (q_code 296) 73 = .ok (.ifCond .eq 19, 3) := by decide +kernel
theorem x_296_76 : decode (q_code 296) 76 = .ok (.aload_n 0, 1) := by decide +kernel
theorem x_296_77 : decode (q_code 296) 77 = .ok (.iload_n 1, 1) := by decide +kernel
theorem x_296_78 : decode (q_code 296) 78 = .ok (.iload_n 2, 1) := by decide +kernel
theorem x_296_79 : decode (q_code 296) 79 = .ok (.iload_n 3, 1) := by decide +kernel
theorem x_296_80 : decode (q_code 296) 80 = .ok (.invokevirtual 414, 3) := by decide +kernel
theorem x_296_83 : decode (q_code 296) 83 = .ok (.ifCond .ne 7, 3) := by decide +kernel
theorem x_296_86 : decode (q_code 296) 86 = .ok (.iconst 1, 1) := by decide +kernel
theorem x_296_87 : decode (q_code 296) 87 = .ok (.goto 4, 3) := by decide +kernel
theorem x_296_90 : decode (q_code 296) 90 = .ok (.iconst 0, 1) := by decide +kernel
theorem x_296_91 : decode (q_code 296) 91 = .ok (.ireturn, 1) := by decide +kernel
theorem x_296_92 : decode (q_code 296) 92 = .ok (.aload_n 0, 1) := by decide +kernel
theorem x_296_93 : decode (q_code 296) 93 = .ok (.iload_n 1, 1) := by decide +kernel
theorem x_296_94 : decode (q_code 296) 94 = .ok (.ldc_w 385, 3) := by decide +kernel
theorem x_296_97 : decode (q_code 296) 97 = .ok (.invokevirtual 325, 3) := by decide +kernel
theorem x_296_100 : decode (q_code 296) 100 = .ok (.ifCond .eq 23, 3) := by decide +kernel
theorem x_296_103 : decode (q_code 296) 103 = .ok (.aload_n 0, 1) := by decide +kernel
theorem x_296_104 : decode (q_code 296) 104 = .ok (.aload_n 0, 1) := by decide +kernel
theorem x_296_105 : decode (q_code 296) 105 = .ok (.iload_n 1, 1) := by decide +kernel
theorem x_296_106 : decode (q_code 296) 106 = .ok (.invokevirtual 163, 3) := by decide +kernel
theorem x_296_109 : decode (q_code 296) 109 = .ok (.iload_n 2, 1) := by decide +kernel
theorem x_296_110 : decode (q_code 296) 110 = .ok (.iload_n 3, 1) := by decide +kernel
theorem x_296_111 : decode (q_code 296) 111 = .ok (.invokevirtual 405, 3) := by decide +kernel
theorem x_296_114 : decode (q_code 296) 114 = .ok (.ifCond .ne 7, 3) := by decide +kernel
theorem x_296_117 : decode (q_code 296) 117 = .ok (.iconst 1, 1) := by decide +kernel
theorem x_296_118 : decode (q_code 296) 118 = .ok (.goto 4, 3) := by decide +kernel
theorem x_296_121 : decode (q_code 296) 121 = .ok (.iconst 0, 1) := by decide +kernel
theorem x_296_122 : decode (q_code 296) 122 = .ok (.ireturn, 1) := by decide +kernel
theorem x_296_123 : decode (q_code 296) 123 = .ok (.aload_n 0, 1) := by decide +kernel
theorem x_296_124 : decode (q_code 296) 124 = .ok (.iload_n 1, 1) := by decide +kernel
theorem x_296_125 : decode (q_code 296) 125 = .ok (.ldc_w 379, 3) := by decide +kernel
theorem x_296_128 : decode (q_code 296) 128 = .ok (.invokevirtual 325, 3) := by decide +kernel
theorem x_296_131 : decode (q_code 296) 131 = .ok (.ifCond .eq 71, 3) := by decide +kernel
theorem x_296_134 : decode (q_code 296) 134 = .ok (.iconst 0, 1) := by decide +kernel
theorem x_296_135 : decode (q_code 296) 135 = .ok (.istore 4, 2) := by decide +kernel
theorem x_296_137 : decode (q_code 296) 137 = .ok (.iload_n 2, 1) := by decide +kernel
theorem x_296_138 : decode (q_code 296) 138 = .ok (.istore 5, 2) := by decide +kernel
theorem x_296_140 : decode (q_code 296) 140 = .ok (.iload 5, 2) := by decide +kernel
theorem x_296_142 : decode (q_code 296) 142 = .ok (.iload_n 3, 1) := by decide +kernel
theorem x_296_143 : decode (q_code 296) 143 = .ok (.if_icmp .ge 30, 3) := by decide +kernel
theorem x_296_146 : decode (q_code 296) 146 = .ok (.iload 4, 2) := by decide +kernel
theorem x_296_148 : decode (q_code 296) 148 = .ok (.aload_n 0, 1) := by decide +kernel
theorem x_296_149 : decode (q_code 296) 149 = .ok (.getfield 19, 3) := by decide +kernel
theorem x_296_152 : decode (q_code 296) 152 = .ok (.iload 5, 2) := by decide +kernel
theorem x_296_154 : decode (q_code 296) 154 = .ok (.iaload, 1) := by decide +kernel
theorem x_296_155 : decode (q_code 296) 155 = .ok (.iconst (-1), 1) := by decide +kernel
theorem x_296_156 : decode (q_code 296) 156 = .ok (.if_icmp .eq 7, 3) := by decide +kernel
theorem x_296_159 : decode (q_code 296) 159 = .ok (.iconst 1, 1) := by decide +kernel
theorem x_296_160 : decode (q_code 296) 160 = .ok (.goto 4, 3) := by decide +kernel
theorem x_296_163 : decode (q_code 296) 163 = .ok (.iconst 0, 1) := by decide +kernel
theorem x_296_164 : decode (q_code 296) 164 = .ok (.ior, 1) := by decide +kernel
theorem x_296_165 : decode (q_code 296) 165 = .ok (.istore 4, 2) := by decide +kernel
theorem x_296_167 : decode (q_code 296) 167 = .ok (.iinc 5 1, 3) := by decide +kernel
theorem x_296_170 : decode (q_code 296) 170 = .ok (.goto (-30), 3) := by decide +kernel
theorem x_296_173 : decode (q_code 296) 173 = .ok (.iload 4, 2) := by decide +kernel
theorem x_296_175 : decode (q_code 296) 175 = .ok (.aload_n 0, 1) := by decide +kernel
theorem x_296_176 : decode (q_code 296) 176 = .ok (.aload_n 0, 1) := by decide +kernel
theorem x_296_177 : decode (q_code 296) 177 = .ok (.iload_n 1, 1) := by decide +kernel
theorem x_296_178 : decode (q_code 296) 178 = .ok (.invokevirtual 163, 3) := by decide +kernel
theorem x_296_181 : decode (q_code 296) 181 = .ok (.invokevirtual 141, 3) := by decide +kernel
theorem x_296_184 : decode (q_code 296) 184 = .ok (.iconst 1, 1) := by decide +kernel
theorem x_296_185 : decode (q_code 296) 185 = .ok (.if_icmp .ne 7, 3) := by decide +kernel
theorem x_296_188 : decode (q_code 296) 188 = .ok (.iconst 1, 1) := by decide +kernel
theorem x_296_189 : decode (q_code 296) 189 = .ok (.goto 4, 3) := by decide +kernel
theorem x_296_192 : decode (q_code 296) 192 = .ok (.iconst 0, 1) := by decide +kernel
theorem x_296_193 : decode (q_code 296) 193 = .ok (.if_icmp .ne 7, 3) := by decide +kernel
theorem x_296_196 : decode (q_code 296) 196 = .ok (.iconst 1, 1) := by decide +kernel
theorem x_296_197 : decode (q_code 296) 197 = .ok (.goto 4, 3) := by decide +kernel
theorem x_296_200 : decode (q_code 296) 200 = .ok (.iconst 0, 1) := by decide +kernel
theorem x_296_201 : decode (q_code 296) 201 = .ok (.ireturn, 1) := by decide +kernel
theorem x_296_202 : decode (q_code 296) 202 = .ok (.aload_n 0, 1) := by decide +kernel
theorem x_296_203 : decode (q_code 296) 203 = .ok (.iload_n 1, 1) := by decide +kernel
theorem x_296_204 : decode (q_code 296) 204 = .ok (.ldc_w 381, 3) := by decide +kernel
theorem x_296_207 : decode (q_code 296) 207 = .ok (.invokevirtual 325, 3) := by decide +kernel
theorem x_296_210 : decode (q_code 296) 210 = .ok (.ifCond .ne 14, 3) := by decide +kernel
theorem x_296_213 : decode (q_code 296) 213 = .ok (.aload_n 0, 1) := by decide +kernel
theorem x_296_214 : decode (q_code 296) 214 = .ok (.iload_n 1, 1) := by decide +kernel
theorem x_296_215 : decode (q_code 296) 215 = .ok (.ldc_w 383, 3) := by decide +kernel
theorem x_296_218 : decode (q_code 296) 218 = .ok (.invokevirtual 325, 3) := by decide +kernel
theorem x_296_221 : decode (q_code 296) 221 = .ok (.ifCond .eq 119, 3) := by decide +kernel
theorem x_296_224 : decode (q_code 296) 224 = .ok (.iconst 0, 1) := by decide +kernel
theorem x_296_225 : decode (q_code 296) 225 = .ok (.istore 4, 2) := by decide +kernel
theorem x_296_227 : decode (q_code 296) 227 = .ok (.iload_n 2, 1) := by decide +kernel
theorem x_296_228 : decode (q_code 296) 228 = .ok (.istore 5, 2) := by decide +kernel
theorem x_296_230 : decode (q_code 296) 230 = .ok (.iload 5, 2) := by decide +kernel
theorem x_296_232 : decode (q_code 296) 232 = .ok (.iload_n 3, 1) := by decide +kernel
theorem x_296_233 : decode (q_code 296) 233 = .ok (.if_icmp .ge 104, 3) := by decide +kernel
theorem x_296_236 : decode (q_code 296) 236 = .ok (.iload 4, 2) := by decide +kernel
theorem x_296_238 : decode (q_code 296) 238 = .ok (.aload_n 0, 1) := by decide +kernel
theorem x_296_239 : decode (q_code 296) 239 = .ok (.getfield 19, 3) := by decide +kernel
theorem x_296_242 : decode (q_code 296) 242 = .ok (.iload 5, 2) := by decide +kernel
theorem x_296_244 : decode (q_code 296) 244 = .ok (.iaload, 1) := by decide +kernel
theorem x_296_245 : decode (q_code 296) 245 = .ok (.iconst (-1), 1) := by decide +kernel
theorem x_296_246 : decode (q_code 296) 246 = .ok (.if_icmp .eq 81, 3) := by decide +kernel
theorem x_296_249 : decode (q_code 296) 249 = .ok (.aload_n 0, 1) := by decide +kernel
theorem x_296_250 : decode (q_code 296) 250 = .ok (.getfield 10, 3) := by decide +kernel
theorem x_296_253 : decode (q_code 296) 253 = .ok (.aload_n 0, 1) := by decide +kernel
theorem x_296_254 : decode (q_code 296) 254 = .ok (.getfield 19, 3) := by decide +kernel
theorem x_296_257 : decode (q_code 296) 257 = .ok (.iload 5, 2) := by decide +kernel
theorem x_296_259 : decode (q_code 296) 259 = .ok (.iaload, 1) := by decide +kernel
theorem x_296_260 : decode (q_code 296) 260 = .ok (.baload, 1) := by decide +kernel
theorem x_296_261 : decode (q_code 296) 261 = .ok (.iconst 4, 1) := by decide +kernel
theorem x_296_262 : decode (q_code 296) 262 = .ok (.if_icmp .ne 65, 3) := by decide +kernel
theorem x_296_265 : decode (q_code 296) 265 = .ok (.aload_n 0, 1) := by decide +kernel
theorem x_296_266 : decode (q_code 296) 266 = .ok (.iload_n 1, 1) := by decide +kernel
theorem x_296_267 : decode (q_code 296) 267 = .ok (.ldc_w 381, 3) := by decide +kernel
theorem x_296_270 : decode (q_code 296) 270 = .ok (.invokevirtual 325, 3) := by decide +kernel
theorem x_296_273 : decode (q_code 296) 273 = .ok (.ifCond .eq 31, 3) := by decide +kernel
theorem x_296_276 : decode (q_code 296) 276 = .ok (.aload_n 0, 1) := by decide +kernel
theorem x_296_277 : decode (q_code 296) 277 = .ok (.aload_n 0, 1) := by decide +kernel
theorem x_296_278 : decode (q_code 296) 278 = .ok (.aload_n 0, 1) := by decide +kernel
theorem x_296_279 : decode (q_code 296) 279 = .ok (.getfield 19, 3) := by decide +kernel
theorem x_296_282 : decode (q_code 296) 282 = .ok (.iload 5, 2) := by decide +kernel
theorem x_296_284 : decode (q_code 296) 284 = .ok (.iaload, 1) := by decide +kernel
theorem x_296_285 : decode (q_code 296) 285 = .ok (.invokevirtual 163, 3) := by decide +kernel
theorem x_296_288 : decode (q_code 296) 288 = .ok (.invokevirtual 360, 3) := by decide +kernel
theorem x_296_291 : decode (q_code 296) 291 = .ok (.i2l, 1) := by decide +kernel
theorem x_296_292 : decode (q_code 296) 292 = .ok (.aload_n 0, 1) := by decide +kernel
theorem x_296_293 : decode (q_code 296) 293 = .ok (.iload_n 1, 1) := by decide +kernel
theorem x_296_294 : decode (q_code 296) 294 = .ok (.invokevirtual 273, 3) := by decide +kernel
theorem x_296_297 : decode (q_code 296) 297 = .ok (.lcmp, 1) := by decide +kernel
theorem x_296_298 : decode (q_code 296) 298 = .ok (.ifCond .ne 29, 3) := by decide +kernel
theorem x_296_301 : decode (q_code 296) 301 = .ok (.goto 22, 3) := by decide +kernel
theorem x_296_304 : decode (q_code 296) 304 = .ok (.aload_n 0, 1) := by decide +kernel
theorem x_296_305 : decode (q_code 296) 305 = .ok (.iload_n 1, 1) := by decide +kernel
theorem x_296_306 : decode (q_code 296) 306 = .ok (.aload_n 0, 1) := by decide +kernel
theorem x_296_307 : decode (q_code 296) 307 = .ok (.aload_n 0, 1) := by decide +kernel
theorem x_296_308 : decode (q_code 296) 308 = .ok (.getfield 19, 3) := by decide +kernel
theorem x_296_311 : decode (q_code 296) 311 = .ok (.iload 5, 2) := by decide +kernel
theorem x_296_313 : decode (q_code 296) 313 = .ok (.iaload, 1) := by decide +kernel
theorem x_296_314 : decode (q_code 296) 314 = .ok (.invokevirtual 163, 3) := by decide +kernel
theorem x_296_317 : decode (q_code 296) 317 = .ok (.invokevirtual 417, 3) := by decide +kernel
theorem x_296_320 : decode (q_code 296) 320 = .ok (.ifCond .eq 7, 3) := by decide +kernel
theorem x_296_323 : decode (q_code 296) 323 = .ok (.iconst 1, 1) := by decide +kernel
theorem x_296_324 : decode (q_code 296) 324 = .ok (.goto 4, 3) := by decide +kernel
theorem x_296_327 : decode (q_code 296) 327 = .ok (.iconst 0, 1) := by decide +kernel
theorem x_296_328 : decode (q_code 296) 328 = .ok (.ior, 1) := by decide +kernel
theorem x_296_329 : decode (q_code 296) 329 = .ok (.istore 4, 2) := by decide +kernel
theorem x_296_331 : decode (q_code 296) 331 = .ok (.iinc 5 1, 3) := by decide +kernel
theorem x_296_334 : decode (q_code 296) 334 = .ok (.goto (-104), 3) := by decide +kernel
theorem x_296_337 : decode (q_code 296) 337 = .ok (.iload 4, 2) := by decide +kernel
theorem x_296_339 : decode (q_code 296) 339 = .ok (.ireturn, 1) := by decide +kernel
theorem x_296_340 : decode (q_code 296) 340 = .ok (.aload_n 0, 1) := by decide +kernel
theorem x_296_341 : decode (q_code 296) 341 = .ok (.iload_n 1, 1) := by decide +kernel
theorem x_296_342 : decode (q_code 296) 342 = .ok (.iload_n 2, 1) := by decide +kernel
theorem x_296_343 : decode (q_code 296) 343 = .ok (.iload_n 3, 1) := by decide +kernel
theorem x_296_344 : decode (q_code 296) 344 = .ok (.invokevirtual 420, 3) := by decide +kernel
theorem x_296_347 : decode (q_code 296) 347 = .ok (.ireturn, 1) := by decide +kernel
theorem x_297_0 : decode (q_code 297) 0 = .ok (.iload_n 2, 1) := by decide +kernel
theorem x_297_1 : decode (q_code 297) 1 = .ok (.invokestatic 174, 3) := by decide +kernel
theorem x_297_4 : decode (q_code 297) 4 = .ok (.istore_n 3, 1) := by decide +kernel
theorem x_297_5 : decode (q_code 297) 5 = .ok (.iload_n 3, 1) := by decide +kernel
theorem x_297_6 : decode (q_code 297) 6 = .ok (.aload_n 0, 1) := by decide +kernel
theorem x_297_7 : decode (q_code 297) 7 = .ok (.iload_n 2, 1) := by decide +kernel
theorem x_297_8 : decode (q_code 297) 8 = .ok (.invokevirtual 177, 3) := by decide +kernel
theorem x_297_11 : decode (q_code 297) 11 = .ok (.if_icmp .ge 93, 3) := by decide +kernel
theorem x_297_14 : decode (q_code 297) 14 = .ok (.aload_n 0, 1) := by decide +kernel
theorem x_297_15 : decode (q_code 297) 15 = .ok (.iload_n 1, 1) := by decide +kernel
theorem x_297_16 : decode (q_code 297) 16 = .ok (.invokevirtual 396, 3) := by decide +kernel
theorem x_297_19 : decode (q_code 297) 19 = .ok (.ifCond .eq 47, 3) := by decide +kernel
theorem x_297_22 : decode (q_code 297) 22 = .ok (.aload_n 0, 1) := by decide +kernel
theorem x_297_23 : decode (q_code 297) 23 = .ok (.getfield 297, 3) := by decide +kernel
theorem x_297_26 : decode (q_code 297) 26 = .ok (.istore 4, 2) := by decide +kernel
theorem x_297_28 : decode (q_code 297) 28 = .ok (.aload_n 0, 1) := by decide +kernel
theorem x_297_29 : decode (q_code 297) 29 = .ok (.iload_n 3, 1) := by decide +kernel
theorem x_297_30 : decode (q_code 297) 30 = .ok (.invokevirtual 300, 3) := by decide +kernel
theorem x_297_33 : decode (q_code 297) 33 = .ok (.aload_n 0, 1) := by decide +kernel
theorem x_297_34 : decode (q_code 297) 34 = .ok (.aload_n 0, 1) := by decide +kernel
theorem x_297_35 : decode (q_code 297) 35 = .ok (.iload_n 1, 1) := by decide +kernel
theorem x_297_36 : decode (q_code 297) 36 = .ok (.invokevirtual 163, 3) := by decide +kernel
theorem x_297_39 : decode (q_code 297) 39 = .ok (.iload 4, 2) := by decide +kernel
theorem x_297_41 : decode (q_code 297) 41 = .ok (.aload_n 0, 1) := by decide +kernel
theorem x_297_42 : decode (q_code 297) 42 = .ok (.getfield 297, 3) := by decide +kernel
theorem x_297_45 : decode (q_code 297) 45 = .ok (.invokevirtual 405, 3) := by decide +kernel
theorem x_297_48 : decode (q_code 297) 48 = .ok (.istore 5, 2) := by decide +kernel
theorem x_297_50 : decode (q_code 297) 50 = .ok (.aload_n 0, 1) := by decide +kernel
theorem x_297_51 : decode (q_code 297) 51 = .ok (.iload 4, 2) := by decide +kernel
theorem x_297_53 : decode (q_code 297) 53 = .ok (.putfield 297, 3) := by decide +kernel
theorem x_297_56 : decode (q_code 297) 56 = .ok (.iload 5, 2) := by decide +kernel
theorem x_297_58 : decode (q_code 297) 58 = .ok (.ifCond .eq 5, 3) := by decide +kernel
theorem x_297_61 : decode (q_code 297) 61 = .ok (.iconst 1, 1) := by decide +kernel
theorem x_297_62 : decode (q_code 297) 62 = .ok (.ireturn, 1) := by decide +kernel
theorem x_297_63 : decode (q_code 297) 63 = .ok (.goto 32, 3) := by decide +kernel
theorem x_297_66 : decode (q_code 297) 66 = .ok (.aload_n 0, 1) := by decide +kernel
theorem x_297_67 : decode (q_code 297) 67 = .ok (.getfield 10, 3) := by decide +kernel
theorem x_297_70 : decode (q_code 297) 70 = .ok (.iload_n 3, 1) := by decide +kernel
theorem x_297_71 : decode (q_code 297) 71 = .ok (.baload, 1) := by decide +kernel
theorem x_297_72 : decode (q_code 297) 72 = .ok (.iconst 3, 1) := by decide +kernel
theorem x_297_73 : decode (q_code 297) 73 = .ok (.if_icmp .ne 22, 3) := by decide +kernel
theorem x_297_76 : decode (q_code 297) 76 = .ok (.aload_n 0, 1) := by decide +kernel
theorem x_297_77 : decode (q_code 297) 77 = .ok (.aload_n 0, 1) := by decide +kernel
theorem x_297_78 : decode (q_code 297) 78 = .ok (.iload_n 1, 1) := by decide +kernel
theorem x_297_79 : decode (q_code 297) 79 = .ok (.invokevirtual 163, 3) := by decide +kernel
theorem x_297_82 : decode (q_code 297) 82 = .ok (.aload_n 0, 1) := by decide +kernel
theorem x_297_83 : decode (q_code 297) 83 = .ok (.iload_n 3, 1) := by decide +kernel
theorem x_297_84 : decode (q_code 297) 84 = .ok (.invokevirtual 163, 3) := by decide +kernel
theorem x_297_87 : decode (q_code 297) 87 = .ok (.invokevirtual 402, 3) := by decide +kernel
theorem x_297_90 : decode (q_code 297) 90 = .ok (.ifCond .eq 5, 3) := by decide +kernel
theorem x_297_93 : decode (q_code 297) 93 = .ok (.iconst 1, 1) := by decide +kernel
theorem x_297_94 : decode (q_code 297) 94 = .ok (.ireturn, 1) := by decide +kernel
theorem x_297_95 : decode (q_code 297) 95 = .ok (.aload_n 0, 1) := by decide +kernel
theorem x_297_96 : decode (q_code 297) 96 = .ok (.iload_n 3, 1) := by decide +kernel
theorem x_297_97 : decode (q_code 297) 97 = .ok (.invokevirtual 180, 3) := by decide +kernel
theorem x_297_100 : decode (q_code 297) 100 = .ok (.istore_n 3, 1) := by decide +kernel
theorem x_297_101 : decode (q_code 297) 101 = .ok (.goto (-96), 3) := by decide +kernel
theorem x_297_104 : decode (q_code 297) 104 = .ok (.iconst 0, 1) := by decide +kernel
theorem x_297_105 : decode (q_code 297) 105 = .ok (.ireturn, 1) := by decide +kernel
theorem x_298_0 : decode (q_code 298) 0 = .ok (.iload_n 2, 1) := by decide +kernel
theorem x_298_1 : decode (q_code 298) 1 = .ok (.istore 4, 2) := by decide +kernel
theorem x_298_3 : decode (q_code 298) 3 = .ok (.iload 4, 2) := by decide +kernel
theorem x_298_5 : decode (q_code 298) 5 = .ok (.iload_n 3, 1) := by decide +kernel
theorem x_298_6 : decode (q_code 298) 6 = .ok (.if_icmp .ge 109, 3) := by decide +kernel
theorem x_298_9 : decode (q_code 298) 9 = .ok (.aload_n 0, 1) := by decide +kernel
theorem x_298_10 : decode (q_code 298) 10 = .ok (.getfield 19, 3) := by decide +kernel
theorem x_298_13 : decode (q_code 298) 13 = .ok (.iload 4, 2) := by decide +kernel
theorem x_298_15 : decode (q_code 298) 15 = .ok (.iaload, 1) := by decide +kernel
theorem x_298_16 : decode (q_code 298) 16 = .ok (.istore 5, 2) := by decide +kernel
theorem x_298_18 : decode (q_code 298) 18 = .ok (.iload 5, 2) := by decide +kernel
theorem x_298_20 : decode (q_code 298) 20 = .ok (.iconst (-1), 1) := by decide +kernel
theorem x_298_21 : decode (q_code 298) 21 = .ok (.if_icmp .ne 16, 3) := by decide +kernel
theorem x_298_24 : decode (q_code 298) 24 = .ok (.aload_n 0, 1) := by decide +kernel
theorem x_298_25 : decode (q_code 298) 25 = .ok (.getfield 10, 3) := by decide +kernel
theorem x_298_28 : decode (q_code 298) 28 = .ok (.iload_n 1, 1) := by decide +kernel
theorem x_298_29 : decode (q_code 298) 29 = .ok (.baload, 1) := by decide +kernel
theorem x_298_30 : decode (q_code 298) 30 = .ok (.bipush 10, 2) := by decide +kernel
theorem x_298_32 : decode (q_code 298) 32 = .ok (.if_icmp .ne 77, 3) := by decide +kernel
theorem x_298_35 : decode (q_code 298) 35 = .ok (.iconst 1, 1) := by decide +kernel
theorem x_298_36 : decode (q_code 298) 36 = .ok (.ireturn, 1) := by decide +kernel
theorem x_298_37 : decode (q_code 298) 37 = .ok (.aload_n 0, 1) := by decide +kernel
theorem x_298_38 : decode (q_code 298) 38 = .ok (.iload 5, 2) := by decide +kernel
theorem x_298_40 : decode (q_code 298) 40 = .ok (.iload_n 1, 1) := by decide +kernel
theorem x_298_41 : decode (q_code 298) 41 = .ok (.invokevirtual 423, 3) := by decide +kernel
theorem x_298_44 : decode (q_code 298) 44 = .ok (.ifCond .eq 5, 3) := by decide +kernel
theorem x_298_47 : decode (q_code 298) 47 = .ok (.iconst 1, 1) := by decide +kernel
theorem x_298_48 : decode (q_code 298) 48 = .ok (.ireturn, 1) := by decide +kernel
theorem x_298_49 : decode (q_code 298) 49 = .ok (.aload_n 0, 1) := by decide +kernel
theorem x_298_50 : decode (q_code 298) 50 = .ok (.getfield 10, 3) := by decide +kernel
theorem x_298_53 : decode (q_code 298) 53 = .ok (.iload 5, 2) := by decide +kernel
theorem x_298_55 : decode (q_code 298) 55 = .ok (.baload, 1) := by decide +kernel
theorem x_298_56 : decode (q_code 298) 56 = .ok (.iconst 4, 1) := by decide +kernel
theorem x_298_57 : decode (q_code 298) 57 = .ok (.if_icmp .ne 52, 3) := by decide +kernel
theorem x_298_60 : decode (q_code 298) 60 = .ok (.aload_n 0, 1) := by decide +kernel
theorem x_298_61 : decode (q_code 298) 61 = .ok (.iload 5, 2) := by decide +kernel
theorem x_298_63 : decode (q_code 298) 63 = .ok (.invokevirtual 163, 3) := by decide +kernel
theorem x_298_66 : decode (q_code 298) 66 = .ok (.invokestatic 174, 3) := by decide +kernel
theorem x_298_69 : decode (q_code 298) 69 = .ok (.istore 6, 2) := by decide +kernel
theorem x_298_71 : decode (q_code 298) 71 = .ok (.iload 6, 2) := by decide +kernel
theorem x_298_73 : decode (q_code 298) 73 = .ok (.aload_n 0, 1) := by decide +kernel
theorem x_298_74 : decode (q_code 298) 74 = .ok (.aload_n 0, 1) := by decide +kernel
theorem x_298_75 : decode (q_code 298) 75 = .ok (.iload 5, 2) := by decide +kernel
theorem x_298_77 : decode (q_code 298) 77 = .ok (.invokevirtual 163, 3) := by decide +kernel
theorem x_298_80 : decode (q_code 298) 80 = .ok (.invokevirtual 177, 3) := by decide +kernel
theorem x_298_83 : decode (q_code 298) 83 = .ok (.if_icmp .ge 26, 3) := by decide +kernel
theorem x_298_86 : decode (q_code 298) 86 = .ok (.aload_n 0, 1) := by decide +kernel
theorem x_298_87 : decode (q_code 298) 87 = .ok (.iload 6, 2) := by decide +kernel
theorem x_298_89 : decode (q_code 298) 89 = .ok (.iload_n 1, 1) := by decide +kernel
theorem x_298_90 : decode (q_code 298) 90 = .ok (.invokevirtual 423, 3) := by decide +kernel
theorem x_298_93 : decode (q_code 298) 93 = .ok (.ifCond .eq 5, 3) := by decide +kernel
theorem x_298_96 : decode (q_code 298) 96 = .ok (.iconst 1, 1) := by decide +kernel
theorem x_298_97 : decode (q_code 298) 97 = .ok (.ireturn, 1) := by decide +kernel
theorem x_298_98 : decode (q_code 298) 98 = .ok (.aload_n 0, 1) := by decide +kernel
theorem x_298_99 : decode (q_code 298) 99 = .ok (.iload 6, 2) := by decide +kernel
theorem x_298_101 : decode (q_code 298) 101 = .ok (.invokevirtual 180, 3) := by decide +kernel
theorem x_298_104 : decode (q_code 298) 104 = .ok (.istore 6, 2) := by decide +kernel
theorem x_298_106 : decode (q_code 298) 106 = .ok (.goto (-35), 3) := by decide +kernel
theorem x_298_109 : decode (q_code 298) 109 = .ok (.iinc 4 1, 3) := by decide +kernel
theorem x_298_112 : decode (q_code 298) 112 = .ok (.goto (-109), 3) := by decide +kernel
theorem x_298_115 : decode (q_code 298) 115 = .ok (.iconst 0, 1) := by decide +kernel
theorem x_298_116 : decode (q_code 298) 116 = .ok (.ireturn, 1) := by decide +kernel
theorem x_299_0 : decode (q_code 299) 0 = .ok (.aload_n 0, 1) := by decide +kernel
theorem x_299_1 : decode (q_code 299) 1 = .ok (.iload_n 1, 1) := by decide +kernel
theorem x_299_2 : decode (q_code 299) 2 = .ok (.invokevirtual 163, 3) := by decide +kernel
theorem x_299_5 : decode (q_code 299) 5 = .ok (.invokestatic 174, 3) := by decide +kernel
theorem x_299_8 : decode (q_code 299) 8 = .ok (.istore 4, 2) := by decide +kernel
theorem x_299_10 : decode (q_code 299) 10 = .ok (.iload 4, 2) := by decide +kernel
theorem x_299_12 : decode (q_code 299) 12 = .ok (.aload_n 0, 1) := by decide +kernel
theorem x_299_13 : decode (q_code 299) 13 = .ok (.aload_n 0, 1) := by decide +kernel
theorem x_299_14 : decode (q_code 299) 14 = .ok (.iload_n 1, 1) := by decide +kernel
theorem x_299_15 : decode (q_code 299) 15 = .ok (.invokevirtual 163, 3) := by decide +kernel
theorem x_299_18 : decode (q_code 299) 18 = .ok (.invokevirtual 177, 3) := by decide +kernel
theorem x_299_21 : decode (q_code 299) 21 = .ok (.if_icmp .ge 27, 3) := by decide +kernel
theorem x_299_24 : decode (q_code 299) 24 = .ok (.aload_n 0, 1) := by decide +kernel
theorem x_299_25 : decode (q_code 299) 25 = .ok (.iload 4, 2) := by decide +kernel
theorem x_299_27 : decode (q_code 299) 27 = .ok (.iload_n 2, 1) := by decide +kernel
theorem x_299_28 : decode (q_code 299) 28 = .ok (.iload_n 3, 1) := by decide +kernel
theorem x_299_29 : decode (q_code 299) 29 = .ok (.invokevirtual 408, 3) := by decide +kernel
theorem x_299_32 : decode (q_code 299) 32 = .ok (.ifCond .eq 5, 3) := by decide +kernel
theorem x_299_35 : decode (q_code 299) 35 = .ok (.iconst 1, 1) := by decide +kernel
theorem x_299_36 : decode (q_code 299) 36 = .ok (.ireturn, 1) := by decide +kernel
theorem x_299_37 : decode (q_code 299) 37 = .ok (.aload_n 0, 1) := by decide +kernel
theorem x_299_38 : decode (q_code 299) 38 = .ok (.iload 4, 2) := by decide +kernel
theorem x_299_40 : decode (q_code 299) 40 = .ok (.invokevirtual 180, 3) := by decide +kernel
theorem x_299_43 : decode (q_code 299) 43 = .ok (.istore 4, 2) := by decide +kernel
theorem x_299_45 : decode (q_code 299) 45 = .ok (.goto (-35), 3) := by decide +kernel
theorem x_299_48 : decode (q_code 299) 48 = .ok (.iconst 0, 1) := by decide +kernel
theorem x_299_49 : decode (q_code 299) 49 = .ok (.ireturn, 1) := by decide +kernel
theorem x_300_0 : decode (q_code 300) 0 = .ok (.aload_n 0, 1) := by decide +kernel
theorem x_300_1 : decode (q_code 300) 1 = .ok (.getfield 10, 3) := by decide +kernel
theorem x_300_4 : decode (q_code 300) 4 = .ok (.iload_n 1, 1) := by decide +kernel
theorem x_300_5 : decode (q_code 300) 5 = .ok (.baload, 1) := by decide +kernel
theorem x_300_6 : decode (q_code 300) 6 = .ok (.bipush 10, 2) := by decide +kernel
theorem x_300_8 : decode (q_code 300) 8 = .ok (.if_icmp .ne 33, 3) := by decide +kernel
theorem x_300_11 : decode (q_code 300) 11 = .ok (.aload_n 0, 1) := by decide +kernel
theorem x_300_12 : decode (q_code 300) 12 = .ok (.iload_n 1, 1) := by decide +kernel
theorem x_300_13 : decode (q_code 300) 13 = .ok (.ldc_w 373, 3) := by decide +kernel
theorem x_300_16 : decode (q_code 300) 16 = .ok (.invokevirtual 325, 3) := by decide +kernel
theorem x_300_19 : decode (q_code 300) 19 = .ok (.ifCond .ne 14, 3) := by decide +kernel
theorem x_300_22 : decode (q_code 300) 22 = .ok (.aload_n 0, 1) := by decide +kernel
theorem x_300_23 : decode (q_code 300) 23 = .ok (.iload_n 1, 1) := by decide +kernel
theorem x_300_24 : decode (q_code 300) 24 = .ok (.ldc_w 377, 3) := by decide +kernel
theorem x_300_27 : decode (q_code 300) 27 = .ok (.invokevirtual 325, 3) := by decide +kernel
theorem x_300_30 : decode (q_code 300) 30 = .ok (.ifCond .eq 11, 3) := by decide +kernel
theorem x_300_33 : decode (q_code 300) 33 = .ok (.aload_n 0, 1) := by decide +kernel
theorem x_300_34 : decode (q_code 300) 34 = .ok (.iload_n 1, 1) := by decide +kernel
theorem x_300_35 : decode (q_code 300) 35 = .ok (.iload_n 2, 1) := by decide +kernel
theorem x_300_36 : decode (q_code 300) 36 = .ok (.iload_n 3, 1) := by decide +kernel
theorem x_300_37 : decode (q_code 300) 37 = .ok (.invokevirtual 408, 3) := by decide +kernel
theorem x_300_40 : decode (q_code 300) 40 = .ok (.ireturn, 1) := by decide +kernel
theorem x_300_41 : decode (q_code 300) 41 = .ok (.iload_n 2, 1) := by decide +kernel
theorem x_300_42 : decode (q_code 300) 42 = .ok (.istore 4, 2) := by decide +kernel
theorem x_300_44 : decode (q_code 300) 44 = .ok (.iload 4, 2) := by decide +kernel
theorem x_300_46 : decode (q_code 300) 46 = .ok (.iload_n 3, 1) := by decide +kernel
theorem x_300_47 : decode (q_code 300) 47 = .ok (.if_icmp .ge 99, 3) := by decide +kernel
theorem x_300_50 : decode (q_code 300) 50 = .ok (.aload_n 0, 1) := by decide +kernel
theorem x_300_51 : decode (q_code 300) 51 = .ok (.getfield 19, 3) := by decide +kernel
theorem x_300_54 : decode (q_code 300) 54 = .ok (.iload 4, 2) := by decide +kernel
theorem x_300_56 : decode (q_code 300) 56 = .ok (.iaload, 1) := by decide +kernel
theorem x_300_57 : decode (q_code 300) 57 = .ok (.istore 5, 2) := by decide +kernel
theorem x_300_59 : decode (q_code 300) 59 = .ok (.iload 5, 2) := by decide +kernel
theorem x_300_61 : decode (q_code 300) 61 = .ok (.iconst (-1), 1) := by decide +kernel
theorem x_300_62 : decode (q_code 300) 62 = .ok (.if_icmp .ne 6, 3) := by decide +kernel
theorem x_300_65 : decode (q_code 300) 65 = .ok (.goto 75, 3) := by decide +kernel
theorem x_300_68 : decode (q_code 300) 68 = .ok (.aload_n 0, 1) := by decide +kernel
theorem x_300_69 : decode (q_code 300) 69 = .ok (.iload 5, 2) := by decide +kernel
theorem x_300_71 : decode (q_code 300) 71 = .ok (.iload_n 1, 1) := by decide +kernel
theorem x_300_72 : decode (q_code 300) 72 = .ok (.invokevirtual 426, 3) := by decide +kernel
theorem x_300_75 : decode (q_code 300) 75 = .ok (.ifCond .eq 5, 3) := by decide +kernel
theorem x_300_78 : decode (q_code 300) 78 = .ok (.iconst 1, 1) := by decide +kernel
theorem x_300_79 : decode (q_code 300) 79 = .ok (.ireturn, 1) := by decide +kernel
theorem x_300_80 : decode (q_code 300) 80 = .ok (.aload_n 0, 1) := by decide +kernel
theorem x_300_81 : decode (q_code 300) 81 = .ok (.getfield 10, 3) := by decide +kernel
theorem x_300_84 : decode (q_code 300) 84 = .ok (.iload 5, 2) := by decide +kernel
theorem x_300_86 : decode (q_code 300) 86 = .ok (.baload, 1) := by decide +kernel
theorem x_300_87 : decode (q_code 300) 87 = .ok (.iconst 4, 1) := by decide +kernel
theorem x_300_88 : decode (q_code 300) 88 = .ok (.if_icmp .ne 52, 3) := by decide +kernel
theorem x_300_91 : decode (q_code 300) 91 = .ok (.aload_n 0, 1) := by decide +kernel
theorem x_300_92 : decode (q_code 300) 92 = .ok (.iload 5, 2) := by decide +kernel
theorem x_300_94 : decode (q_code 300) 94 = .ok (.invokevirtual 163, 3) := by decide +kernel
theorem x_300_97 : decode (q_code 300) 97 = .ok (.invokestatic 174, 3) := by decide +kernel
theorem x_300_100 : decode (q_code 300) 100 = .ok (.istore 6, 2) := by decide +kernel
theorem x_300_102 : decode (q_code 300) 102 = .ok (.iload 6, 2) := by decide +kernel
theorem x_300_104 : decode (q_code 300) 104 = .ok (.aload_n 0, 1) := by decide +kernel
theorem x_300_105 : decode (q_code 300) 105 = .ok (.aload_n 0, 1) := by decide +kernel
theorem x_300_106 : decode (q_code 300) 106 = .ok (.iload 5, 2) := by decide +kernel
theorem x_300_108 : decode (q_code 300) 108 = .ok (.invokevirtual 163, 3) := by decide +kernel
theorem x_300_111 : decode (q_code 300) 111 = .ok (.invokevirtual 177, 3) := by decide +kernel
theorem x_300_114 : decode (q_code 300) 114 = .ok (.if_icmp .ge 26, 3) := by decide +kernel
theorem x_300_117 : decode (q_code 300) 117 = .ok (.aload_n 0, 1) := by decide +kernel
theorem x_300_118 : decode (q_code 300) 118 = .ok (.iload 6, 2) := by decide +kernel
theorem x_300_120 : decode (q_code 300) 120 = .ok (.iload_n 1, 1) := by decide +kernel
theorem x_300_121 : decode (q_code 300) 121 = .ok (.invokevirtual 426, 3) := by decide +kernel
theorem x_300_124 : decode (q_code 300) 124 = .ok (.ifCond .eq 5, 3) := by decide +kernel
theorem x_300_127 : decode (q_code 300) 127 = .ok (.iconst 1, 1) := by decide +kernel
theorem x_300_128 : decode (q_code 300) 128 = .ok (.ireturn, 1) := by decide +kernel
theorem x_300_129 : decode (q_code 300) 129 = .ok (.aload_n 0, 1) := by decide +kernel
theorem x_300_130 : decode (q_code 300) 130 = .ok (.iload 6, 2) := by decide +kernel
theorem x_300_132 : decode (q_code 300) 132 = .ok (.invokevirtual 180, 3) := by decide +kernel
theorem x_300_135 : decode (q_code 300) 135 = .ok (.istore 6, 2) := by decide +kernel
theorem x_300_137 : decode (q_code 300) 137 = .ok (.goto (-35), 3) := by decide +kernel
theorem x_300_140 : decode (q_code 300) 140 = .ok (.iinc 4 1, 3) := by decide +kernel
theorem x_300_143 : decode (q_code 300) 143 = .ok (.goto (-99), 3) := by decide +kernel
theorem x_300_146 : decode (q_code 300) 146 = .ok (.iconst 0, 1) := by decide +kernel
theorem x_300_147 : decode (q_code 300) 147 = .ok (.ireturn, 1) := by decide +kernel
theorem x_301_0 : decode (q_code 301) 0 = .ok (.aload_n 0, 1) := by decide +kernel
theorem x_301_1 : decode (q_code 301) 1 = .ok (.iload_n 1, 1) := by decide +kernel
theorem x_301_2 : decode (q_code 301) 2 = .ok (.invokevirtual 270, 3) := by decide +kernel
theorem x_301_5 : decode (q_code 301) 5 = .ok (.aload_n 0, 1) := by decide +kernel
theorem x_301_6 : decode (q_code 301) 6 = .ok (.iload_n 2, 1) := by decide +kernel
theorem x_301_7 : decode (q_code 301) 7 = .ok (.invokevirtual 270, 3) := by decide +kernel
theorem x_301_10 : decode (q_code 301) 10 = .ok (.if_icmp .eq 5, 3) := by decide +kernel
theorem x_301_13 : decode (q_code 301) 13 = .ok (.iconst 0, 1) := by decide +kernel
theorem x_301_14 : decode (q_code 301) 14 = .ok (.ireturn, 1) := by decide +kernel
theorem x_301_15 : decode (q_code 301) 15 = .ok (.aload_n 0, 1) := by decide +kernel
theorem x_301_16 : decode (q_code 301) 16 = .ok (.iload_n 1, 1) := by decide +kernel
theorem x_301_17 : decode (q_code 301) 17 = .ok (.iload_n 2, 1) := by decide +kernel
theorem x_301_18 : decode (q_code 301) 18 = .ok (.invokevirtual 284, 3) := by decide +kernel
theorem x_301_21 : decode (q_code 301) 21 = .ok (.istore_n 3, 1) := by decide +kernel
theorem x_301_22 : decode (q_code 301) 22 = .ok (.aload_n 0, 1) := by decide +kernel
theorem x_301_23 : decode (q_code 301) 23 = .ok (.iload_n 2, 1) := by decide +kernel
theorem x_301_24 : decode (q_code 301) 24 = .ok (.ldc_w 371, 3) := by decide +kernel
theorem x_301_27 : decode (q_code 301) 27 = .ok (.invokevirtual 325, 3) := by decide +kernel
theorem x_301_30 : decode (q_code 301) 30 = .ok (.ifCond .eq 15, 3) := by decide +kernel
theorem x_301_33 : decode (q_code 301) 33 = .ok (.iload_n 3, 1) := by decide +kernel
theorem x_301_34 : decode (q_code 301) 34 = .ok (.ifCond .ge 7, 3) := by decide +kernel
theorem x_301_37 : decode (q_code 301) 37 = .ok (.iconst 1, 1) := by decide +kernel
theorem x_301_38 : decode (q_code 301) 38 = .ok (.goto 62, 3) := by decide +kernel
theorem x_301_41 : decode (q_code 301) 41 = .ok (.iconst 0, 1) := by decide +kernel
theorem x_301_42 : decode (q_code 301) 42 = .ok (.goto 58, 3) := by decide +kernel
theorem x_301_45 : decode (q_code 301) 45 = .ok (.aload_n 0, 1) := by decide +kernel
theorem x_301_46 : decode (q_code 301) 46 = .ok (.iload_n 2, 1) := by decide +kernel
theorem x_301_47 : decode (q_code 301) 47 = .ok (.ldc_w 373, 3) := by decide +kernel
theorem x_301_50 : decode (q_code 301) 50 = .ok (.invokevirtual 325, 3) := by decide +kernel
theorem x_301_53 : decode (q_code 301) 53 = .ok (.ifCond .eq 15, 3) := by decide +kernel
theorem x_301_56 : decode (q_code 301) 56 = .ok (.iload_n 3, 1) := by decide +kernel
theorem x_301_57 : decode (q_code 301) 57 = .ok (.ifCond .gt 7, 3) := by decide +kernel
theorem x_301_60 : decode (q_code 301) 60 = .ok (.iconst 1, 1) := by decide +kernel
theorem x_301_61 : decode (q_code 301) 61 = .ok (.goto 39, 3) := by decide +kernel
theorem x_301_64 : decode (q_code 301) 64 = .ok (.iconst 0, 1) := by decide +kernel
theorem x_301_65 : decode (q_code 301) 65 = .ok (.goto 35, 3) := by decide +kernel
theorem x_301_68 : decode (q_code 301) 68 = .ok (.aload_n 0, 1) := by decide +kernel
theorem x_301_69 : decode (q_code 301) 69 = .ok (.iload_n 2, 1) := by decide +kernel
theorem x_301_70 : decode (q_code 301) 70 = .ok (.ldc_w 375, 3) := by decide +kernel
theorem x_301_73 : decode (q_code 301) 73 = .ok (.invokevirtual 325, 3) := by decide +kernel
theorem x_301_76 : decode (q_code 301) 76 = .ok (.ifCond .eq 15, 3) := by decide +kernel
theorem x_301_79 : decode (q_code 301) 79 = .ok (.iload_n 3, 1) := by decide +kernel
theorem x_301_80 : decode (q_code 301) 80 = .ok (.ifCond .le 7, 3) := by decide +kernel
theorem x_301_83 : decode (q_code 301) 83 = .ok (.iconst 1, 1) := by decide +kernel
theorem x_301_84 : decode (q_code 301) 84 = .ok (.goto 16, 3) := by decide +kernel
theorem x_301_87 : decode (q_code 301) 87 = .ok (.iconst 0, 1) := by decide +kernel
theorem x_301_88 : decode (q_code 301) 88 = .ok (.goto 12, 3) := by decide +kernel
theorem x_301_91 : decode (q_code 301) 91 = .ok (.iload_n 3, 1) := by decide +kernel
theorem x_301_92 : decode (q_code 301) 92 = .ok (.ifCond .lt 7, 3) := by decide +kernel
theorem x_301_95 : decode (q_code 301) 95 = .ok (.iconst 1, 1) := by decide +kernel
theorem x_301_96 : decode (q_code 301) 96 = .ok (.goto 4, 3) := by decide +kernel
theorem x_301_99 : decode (q_code 301) 99 = .ok (.iconst 0, 1) := by decide +kernel
theorem x_301_100 : decode (q_code 301) 100 = .ok (.ireturn, 1) := by decide +kernel
theorem x_302_0 : decode (q_code 302) 0 = .ok (.aload_n 0, 1) := by decide +kernel
theorem x_302_1 : decode (q_code 302) 1 = .ok (.iload_n 1, 1) := by decide +kernel
theorem x_302_2 : decode (q_code 302) 2 = .ok (.ldc_w 429, 3) := by decide +kernel
theorem x_302_5 : decode (q_code 302) 5 = .ok (.invokevirtual 325, 3) := by decide +kernel
theorem x_302_8 : decode (q_code 302) 8 = .ok (.ifCond .ne 58, 3) := by decide +kernel
theorem x_302_11 : decode (q_code 302) 11 = .ok (.aload_n 0, 1) := by decide +kernel
theorem x_302_12 : decode (q_code 302) 12 = .ok (.iload_n 1, 1) := by decide +kernel
theorem x_302_13 : decode (q_code 302) 13 = .ok (.ldc_w 431, 3) := by decide +kernel
theorem x_302_16 : decode (q_code 302) 16 = .ok (.invokevirtual 325, 3) := by decide +kernel
theorem x_302_19 : decode (q_code 302) 19 = .ok (.ifCond .ne 47, 3) := by decide +kernel
theorem x_302_22 : decode (q_code 302) 22 = .ok (.aload_n 0, 1) := by decide +kernel
theorem x_302_23 : decode (q_code 302) 23 = .ok (.iload_n 1, 1) := by decide +kernel
theorem x_302_24 : decode (q_code 302) 24 = .ok (.ldc_w 433, 3) := by decide +kernel
theorem x_302_27 : decode (q_code 302) 27 = .ok (.invokevirtual 325, 3) := by decide +kernel
theorem x_302_30 : decode (q_code 302) 30 = .ok (.ifCond .ne 36, 3) := by decide +kernel
theorem x_302_33 : decode (q_code 302) 33 = .ok (.aload_n 0, 1) := by decide +kernel
theorem x_302_34 : decode (q_code 302) 34 = .ok (.iload_n 1, 1) := by decide +kernel
theorem x_302_35 : decode (q_code 302) 35 = .ok (.ldc_w 435, 3) := by decide +kernel
theorem x_302_38 : decode (q_code 302) 38 = .ok (.invokevirtual 325, 3) := by decide +kernel
theorem x_302_41 : decode (q_code 302) 41 = .ok (.ifCond .ne 25, 3) := by decide +kernel
theorem x_302_44 : decode (q_code 302) 44 = .ok (.aload_n 0, 1) := by decide +kernel
theorem x_302_45 : decode (q_code 302) 45 = .ok (.iload_n 1, 1) := by decide +kernel
theorem x_302_46 : decode (q_code 302) 46 = .ok (.ldc_w 437, 3) := by decide +kernel
theorem x_302_49 : decode (q_code 302) 49 = .ok (.invokevirtual 325, 3) := by decide +kernel
theorem x_302_52 : decode (q_code 302) 52 = .ok (.ifCond .ne 14, 3) := by decide +kernel
theorem x_302_55 : decode (q_code 302) 55 = .ok (.aload_n 0, 1) := by decide +kernel
theorem x_302_56 : decode (q_code 302) 56 = .ok (.iload_n 1, 1) := by decide +kernel
theorem x_302_57 : decode (q_code 302) 57 = .ok (.ldc_w 439, 3) := by decide +kernel
theorem x_302_60 : decode (q_code 302) 60 = .ok (.invokevirtual 325, 3) := by decide +kernel
theorem x_302_63 : decode (q_code 302) 63 = .ok (.ifCond .eq 7, 3) := by decide +kernel
theorem x_302_66 : decode (q_code 302) 66 = .ok (.iconst 1, 1) := by decide +kernel
theorem x_302_67 : decode (q_code 302) 67 = .ok (.goto 4, 3) := by decide +kernel
theorem x_302_70 : decode (q_code 302) 70 = .ok (.iconst 0, 1) := by decide +kernel
theorem x_302_71 : decode (q_code 302) 71 = .ok (.ireturn, 1) := by decide +kernel
theorem x_303_0 : decode (q_code 303) 0 = .ok (.aload_n 0, 1) := by decide +kernel
theorem x_303_1 : decode (q_code 303) 1 = .ok (.iload_n 1, 1) := by decide +kernel
theorem x_303_2 : decode (q_code 303) 2 = .ok (.invokevirtual 160, 3) := by decide +kernel
theorem x_303_5 : decode (q_code 303) 5 = .ok (.iload_n 1, 1) := by decide +kernel
theorem x_303_6 : decode (q_code 303) 6 = .ok (.isub, 1) := by decide +kernel
theorem x_303_7 : decode (q_code 303) 7 = .ok (.iconst 1, 1) := by decide +kernel
theorem x_303_8 : decode (q_code 303) 8 = .ok (.isub, 1) := by decide +kernel
theorem x_303_9 : decode (q_code 303) 9 = .ok (.istore_n 3, 1) := by decide +kernel
theorem x_303_10 : decode (q_code 303) 10 = .ok (.aload_n 0, 1) := by decide +kernel
theorem x_303_11 : decode (q_code 303) 11 = .ok (.iload_n 2, 1) := by decide +kernel
theorem x_303_12 : decode (q_code 303) 12 = .ok (.invokevirtual 160, 3) := by decide +kernel
theorem x_303_15 : decode (q_code 303) 15 = .ok (.iload_n 2, 1) := by decide +kernel
theorem x_303_16 : decode (q_code 303) 16 = .ok (.isub, 1) := by decide +kernel
theorem x_303_17 : decode (q_code 303) 17 = .ok (.iconst 1, 1) := by decide +kernel
theorem x_303_18 : decode (q_code 303) 18 = .ok (.isub, 1) := by decide +kernel
theorem x_303_19 : decode (q_code 303) 19 = .ok (.istore 4, 2) := by decide +kernel
theorem x_303_21 : decode (q_code 303) 21 = .ok (.iload_n 3, 1) := by decide +kernel
theorem x_303_22 : decode (q_code 303) 22 = .ok (.iload 4, 2) := by decide +kernel
theorem x_303_24 : decode (q_code 303) 24 = .ok (.if_icmp .ge 7, 3) := by decide +kernel
theorem x_303_27 : decode (q_code 303) 27 = .ok (.iload_n 3, 1) := by decide +kernel
theorem x_303_28 : decode (q_code 303) 28 = .ok (.goto 5, 3) := by decide +kernel
theorem x_303_31 : decode (q_code 303) 31 = .ok (.iload 4, 2) := by decide +kernel
theorem x_303_33 : decode (q_code 303) 33 = .ok (.istore 5, 2) := by decide +kernel
theorem x_303_35 : decode (q_code 303) 35 = .ok (.iconst 0, 1) := by decide +kernel
theorem x_303_36 : decode (q_code 303) 36 = .ok (.istore 6, 2) := by decide +kernel
theorem x_303_38 : decode (q_code 303) 38 = .ok (.iload 6, 2) := by decide +kernel
theorem x_303_40 : decode (q_code 303) 40 = .ok (.iload 5, 2) := by decide +kernel
theorem x_303_42 : decode (q_code 303) 42 = .ok (.if_icmp .ge 36, 3) := by decide +kernel
theorem x_303_45 : decode (q_code 303) 45 = .ok (.aload_n 0, 1) := by decide +kernel
theorem x_303_46 : decode (q_code 303) 46 = .ok (.getfield 10, 3) := by decide +kernel
theorem x_303_49 : decode (q_code 303) 49 = .ok (.iload_n 1, 1) := by decide +kernel
theorem x_303_50 : decode (q_code 303) 50 = .ok (.iconst 1, 1) := by decide +kernel
theorem x_303_51 : decode (q_code 303) 51 = .ok (.iadd, 1) := by decide +kernel
theorem x_303_52 : decode (q_code 303) 52 = .ok (.iload 6, 2) := by decide +kernel
theorem x_303_54 : decode (q_code 303) 54 = .ok (.iadd, 1) := by decide +kernel
theorem x_303_55 : decode (q_code 303) 55 = .ok (.baload, 1) := by decide +kernel
theorem x_303_56 : decode (q_code 303) 56 = .ok (.aload_n 0, 1) := by decide +kernel
theorem x_303_57 : decode (q_code 303) 57 = .ok (.getfield 10, 3) := by decide +kernel
theorem x_303_60 : decode (q_code 303) 60 = .ok (.iload_n 2, 1) := by decide +kernel
theorem x_303_61 : decode (q_code 303) 61 = .ok (.iconst 1, 1) := by decide +kernel
theorem x_303_62 : decode (q_code 303) 62 = .ok (.iadd, 1) := by decide +kernel
theorem x_303_63 : decode (q_code 303) 63 = .ok (.iload 6, 2) := by decide +kernel
theorem x_303_65 : decode (q_code 303) 65 = .ok (.iadd, 1) := by decide +kernel
theorem x_303_66 : decode (q_code 303) 66 = .ok (.baload, 1) := by decide +kernel
theorem x_303_67 : decode (q_code 303) 67 = .ok (.if_icmp .eq 5, 3) := by decide +kernel
theorem x_303_70 : decode (q_code 303) 70 = .ok (.iconst 0, 1) := by decide +kernel
theorem x_303_71 : decode (q_code 303) 71 = .ok (.ireturn, 1) := by decide +kernel
theorem x_303_72 : decode (q_code 303) 72 = .ok (.iinc 6 1, 3) := by decide +kernel
theorem x_303_75 : decode (q_code 303) 75 = .ok (.goto (-37), 3) := by decide +kernel
theorem x_303_78 : decode (q_code 303) 78 = .ok (.iload_n 3, 1) := by decide +kernel
theorem x_303_79 : decode (q_code 303) 79 = .ok (.iload 4, 2) := by decide +kernel
theorem x_303_81 : decode (q_code 303) 81 = .ok (.if_icmp .eq 36, 3) := by decide +kernel
theorem x_303_84 : decode (q_code 303) 84 = .ok (.iload_n 3, 1) := by decide +kernel
theorem x_303_85 : decode (q_code 303) 85 = .ok (.iload 4, 2) := by decide +kernel
theorem x_303_87 : decode (q_code 303) 87 = .ok (.if_icmp .ge 15, 3) := by decide +kernel
theorem x_303_90 : decode (q_code 303) 90 = .ok (.aload_n 0, 1) := by decide +kernel
theorem x_303_91 : decode (q_code 303) 91 = .ok (.iload_n 2, 1) := by decide +kernel
theorem x_303_92 : decode (q_code 303) 92 = .ok (.iconst 1, 1) := by decide +kernel
theorem x_303_93 : decode (q_code 303) 93 = .ok (.iadd, 1) := by decide +kernel
theorem x_303_94 : decode (q_code 303) 94 = .ok (.iload_n 3, 1) := by decide +kernel
theorem x_303_95 : decode (q_code 303) 95 = .ok (.iadd, 1) := by decide +kernel
theorem x_303_96 : decode (q_code 303) 96 = .ok (.invokevirtual 141, 3) := by decide +kernel
theorem x_303_99 : decode (q_code 303) 99 = .ok (.goto 13, 3) := by decide +kernel
theorem x_303_102 : decode (q_code 303) 102 = .ok (.aload_n 0, 1) := by decide +kernel
theorem x_303_103 : decode (q_code 303) 103 = .ok (.iload_n 1, 1) := by decide +kernel
theorem x_303_104 : decode (q_code 303) 104 = .ok (.iconst 1, 1) := by decide +kernel
theorem x_303_105 : decode (q_code 303) 105 = .ok (.iadd, 1) := by decide +kernel
theorem x_303_106 : decode (q_code 303) 106 = .ok (.iload 4, 2) := by decide +kernel
theorem x_303_108 : decode (q_code 303) 108 = .ok (.iadd, 1) := by decide +kernel
theorem x_303_109 : decode (q_code 303) 109 = .ok (.invokevirtual 141, 3) := by decide +kernel
theorem x_303_112 : decode (q_code 303) 112 = .ok (.bipush 46, 2) := by decide +kernel
theorem x_303_114 : decode (q_code 303) 114 = .ok (.if_icmp .ne 7, 3) := by decide +kernel
theorem x_303_117 : decode (q_code 303) 117 = .ok (.iconst 1, 1) := by decide +kernel
theorem x_303_118 : decode (q_code 303) 118 = .ok (.goto 4, 3) := by decide +kernel
theorem x_303_121 : decode (q_code 303) 121 = .ok (.iconst 0, 1) := by decide +kernel
theorem x_303_122 : decode (q_code 303) 122 = .ok (.ireturn, 1) := by decide +kernel
theorem x_304_0 : decode (q_code 304) 0 = .ok (.iload_n 1, 1) := by decide +kernel
theorem x_304_1 : decode (q_code 304) 1 = .ok (.invokestatic 174, 3) := by decide +kernel
theorem x_304_4 : decode (q_code 304) 4 = .ok (.istore_n 3, 1) := by decide +kernel
theorem x_304_5 : decode (q_code 304) 5 = .ok (.iload_n 3, 1) := by decide +kernel
theorem x_304_6 : decode (q_code 304) 6 = .ok (.aload_n 0, 1) := by decide +kernel
theorem x_304_7 : decode (q_code 304) 7 = .ok (.iload_n 1, 1) := by decide +kernel
theorem x_304_8 : decode (q_code 304) 8 = .ok (.invokevirtual 177, 3) := by decide +kernel
theorem x_304_11 : decode (q_code 304) 11 = .ok (.if_icmp .ge 70, 3) := by decide +kernel
theorem x_304_14 : decode (q_code 304) 14 = .ok (.iload_n 3, 1) := by decide +kernel
theorem x_304_15 : decode (q_code 304) 15 = .ok (.iload_n 2, 1) := by decide +kernel
theorem x_304_16 : decode (q_code 304) 16 = .ok (.if_icmp .ge 65, 3) := by decide +kernel
theorem x_304_19 : decode (q_code 304) 19 = .ok (.aload_n 0, 1) := by decide +kernel
theorem x_304_20 : decode (q_code 304) 20 = .ok (.iload_n 3, 1) := by decide +kernel
theorem x_304_21 : decode (q_code 304) 21 = .ok (.invokevirtual 163, 3) := by decide +kernel
theorem x_304_24 : decode (q_code 304) 24 = .ok (.invokestatic 174, 3) := by decide +kernel
theorem x_304_27 : decode (q_code 304) 27 = .ok (.istore 4, 2) := by decide +kernel
theorem x_304_29 : decode (q_code 304) 29 = .ok (.iload 4, 2) := by decide +kernel
theorem x_304_31 : decode (q_code 304) 31 = .ok (.aload_n 0, 1) := by decide +kernel
theorem x_304_32 : decode (q_code 304) 32 = .ok (.aload_n 0, 1) := by decide +kernel
theorem x_304_33 : decode (q_code 304) 33 = .ok (.iload_n 3, 1) := by decide +kernel
theorem x_304_34 : decode (q_code 304) 34 = .ok (.invokevirtual 163, 3) := by decide +kernel
theorem x_304_37 : decode (q_code 304) 37 = .ok (.invokevirtual 177, 3) := by decide +kernel
theorem x_304_40 : decode (q_code 304) 40 = .ok (.if_icmp .ge 32, 3) := by decide +kernel
theorem x_304_43 : decode (q_code 304) 43 = .ok (.iload 4, 2) := by decide +kernel
theorem x_304_45 : decode (q_code 304) 45 = .ok (.iload_n 2, 1) := by decide +kernel
theorem x_304_46 : decode (q_code 304) 46 = .ok (.if_icmp .ge 26, 3) := by decide +kernel
theorem x_304_49 : decode (q_code 304) 49 = .ok (.aload_n 0, 1) := by decide +kernel
theorem x_304_50 : decode (q_code 304) 50 = .ok (.iload 4, 2) := by decide +kernel
theorem x_304_52 : decode (q_code 304) 52 = .ok (.iload_n 2, 1) := by decide +kernel
theorem x_304_53 : decode (q_code 304) 53 = .ok (.invokevirtual 441, 3) := by decide +kernel
theorem x_304_56 : decode (q_code 304) 56 = .ok (.ifCond .eq 5, 3) := by decide +kernel
theorem x_304_59 : decode (q_code 304) 59 = .ok (.iconst 1, 1) := by decide +kernel
theorem x_304_60 : decode (q_code 304) 60 = .ok (.ireturn, 1) := by decide +kernel
theorem x_304_61 : decode (q_code 304) 61 = .ok (.aload_n 0, 1) := by decide +kernel
theorem x_304_62 : decode (q_code 304) 62 = .ok (.iload 4, 2) := by decide +kernel
theorem x_304_64 : decode (q_code 304) 64 = .ok (.invokevirtual 180, 3) := by decide +kernel
theorem x_304_67 : decode (q_code 304) 67 = .ok (.istore 4, 2) := by decide +kernel
theorem x_304_69 : decode (q_code 304) 69 = .ok (.goto (-40), 3) := by decide +kernel
theorem x_304_72 : decode (q_code 304) 72 = .ok (.aload_n 0, 1) := by decide +kernel
theorem x_304_73 : decode (q_code 304) 73 = .ok (.iload_n 3, 1) := by decide +kernel
theorem x_304_74 : decode (q_code 304) 74 = .ok (.invokevirtual 180, 3) := by decide +kernel
theorem x_304_77 : decode (q_code 304) 77 = .ok (.istore_n 3, 1) := by decide +kernel
theorem x_304_78 : decode (q_code 304) 78 = .ok (.goto (-73), 3) := by decide +kernel
theorem x_304_81 : decode (q_code 304) 81 = .ok (.iconst 0, 1) := by decide +kernel
theorem x_304_82 : decode (q_code 304) 82 = .ok (.ireturn, 1) := by decide +kernel
theorem x_305_0 : decode (q_code 305) 0 = .ok (.iload_n 1, 1) := by decide +kernel
theorem x_305_1 : decode (q_code 305) 1 = .ok (.invokestatic 174, 3) := by decide +kernel
theorem x_305_4 : decode (q_code 305) 4 = .ok (.istore_n 2, 1) := by decide +kernel
theorem x_305_5 : decode (q_code 305) 5 = .ok (.iload_n 2, 1) := by decide +kernel
theorem x_305_6 : decode (q_code 305) 6 = .ok (.aload_n 0, 1) := by decide +kernel
theorem x_305_7 : decode (q_code 305) 7 = .ok (.iload_n 1, 1) := by decide +kernel
theorem x_305_8 : decode (q_code 305) 8 = .ok (.invokevirtual 177, 3) := by decide +kernel
theorem x_305_11 : decode (q_code 305) 11 = .ok (.if_icmp .ge 139, 3) := by decide +kernel
theorem x_305_14 : decode (q_code 305) 14 = .ok (.aload_n 0, 1) := by decide +kernel
theorem x_305_15 : decode (q_code 305) 15 = .ok (.iload_n 2, 1) := by decide +kernel
theorem x_305_16 : decode (q_code 305) 16 = .ok (.invokevirtual 444, 3) := by decide +kernel
theorem x_305_19 : decode (q_code 305) 19 = .ok (.ifCond .ne 10, 3) := by decide +kernel
theorem x_305_22 : decode (q_code 305) 22 = .ok (.aload_n 0, 1) := by decide +kernel
theorem x_305_23 : decode (q_code 305) 23 = .ok (.iconst 1, 1) := by decide +kernel
theorem x_305_24 : decode (q_code 305) 24 = .ok (.iload_n 2, 1) := by decide +kernel
theorem x_305_25 : decode (q_code 305) 25 = .ok (.invokevirtual 237, 3) := by decide +kernel
theorem x_305_28 : decode (q_code 305) 28 = .ok (.ireturn, 1) := by decide +kernel
theorem x_305_29 : decode (q_code 305) 29 = .ok (.aload_n 0, 1) := by decide +kernel
theorem x_305_30 : decode (q_code 305) 30 = .ok (.getfield 10, 3) := by decide +kernel
theorem x_305_33 : decode (q_code 305) 33 = .ok (.iload_n 2, 1) := by decide +kernel
theorem x_305_34 : decode (q_code 305) 34 = .ok (.baload, 1) := by decide +kernel
theorem x_305_35 : decode (q_code 305) 35 = .ok (.iconst 3, 1) := by decide +kernel
theorem x_305_36 : decode (q_code 305) 36 = .ok (.if_icmp .eq 10, 3) := by decide +kernel
theorem x_305_39 : decode (q_code 305) 39 = .ok (.aload_n 0, 1) := by decide +kernel
theorem x_305_40 : decode (q_code 305) 40 = .ok (.iconst 2, 1) := by decide +kernel
theorem x_305_41 : decode (q_code 305) 41 = .ok (.iload_n 2, 1) := by decide +kernel
theorem x_305_42 : decode (q_code 305) 42 = .ok (.invokevirtual 237, 3) := by decide +kernel
theorem x_305_45 : decode (q_code 305) 45 = .ok (.ireturn, 1) := by decide +kernel
theorem x_305_46 : decode (q_code 305) 46 = .ok (.aload_n 0, 1) := by decide +kernel
theorem x_305_47 : decode (q_code 305) 47 = .ok (.iload_n 2, 1) := by decide +kernel
theorem x_305_48 : decode (q_code 305) 48 = .ok (.invokevirtual 163, 3) := by decide +kernel
theorem x_305_51 : decode (q_code 305) 51 = .ok (.invokestatic 174, 3) := by decide +kernel
theorem x_305_54 : decode (q_code 305) 54 = .ok (.istore_n 3, 1) := by decide +kernel
theorem x_305_55 : decode (q_code 305) 55 = .ok (.iload_n 3, 1) := by decide +kernel
theorem x_305_56 : decode (q_code 305) 56 = .ok (.aload_n 0, 1) := by decide +kernel
theorem x_305_57 : decode (q_code 305) 57 = .ok (.aload_n 0, 1) := by decide +kernel
theorem x_305_58 : decode (q_code 305) 58 = .ok (.iload_n 2, 1) := by decide +kernel
theorem x_305_59 : decode (q_code 305) 59 = .ok (.invokevirtual 163, 3) := by decide +kernel
theorem x_305_62 : decode (q_code 305) 62 = .ok (.invokevirtual 177, 3) := by decide +kernel
theorem x_305_65 : decode (q_code 305) 65 = .ok (.if_icmp .ge 76, 3) := by decide +kernel
theorem x_305_68 : decode (q_code 305) 68 = .ok (.aload_n 0, 1) := by decide +kernel
theorem x_305_69 : decode (q_code 305) 69 = .ok (.iload_n 3, 1) := by decide +kernel
theorem x_305_70 : decode (q_code 305) 70 = .ok (.iconst 1, 1) := by decide +kernel
theorem x_305_71 : decode (q_code 305) 71 = .ok (.iadd, 1) := by decide +kernel
theorem x_305_72 : decode (q_code 305) 72 = .ok (.aload_n 0, 1) := by decide +kernel
theorem x_305_73 : decode (q_code 305) 73 = .ok (.iload_n 3, 1) := by decide +kernel
theorem x_305_74 : decode (q_code 305) 74 = .ok (.invokevirtual 160, 3) := by decide +kernel
theorem x_305_77 : decode (q_code 305) 77 = .ok (.invokevirtual 290, 3) := by decide +kernel
theorem x_305_80 : decode (q_code 305) 80 = .ok (.ifCond .ne 10, 3) := by decide +kernel
theorem x_305_83 : decode (q_code 305) 83 = .ok (.aload_n 0, 1) := by decide +kernel
theorem x_305_84 : decode (q_code 305) 84 = .ok (.iconst 3, 1) := by decide +kernel
theorem x_305_85 : decode (q_code 305) 85 = .ok (.iload_n 3, 1) := by decide +kernel
theorem x_305_86 : decode (q_code 305) 86 = .ok (.invokevirtual 237, 3) := by decide +kernel
theorem x_305_89 : decode (q_code 305) 89 = .ok (.ireturn, 1) := by decide +kernel
theorem x_305_90 : decode (q_code 305) 90 = .ok (.aload_n 0, 1) := by decide +kernel
theorem x_305_91 : decode (q_code 305) 91 = .ok (.iload_n 2, 1) := by decide +kernel
theorem x_305_92 : decode (q_code 305) 92 = .ok (.ldc_w 433, 3) := by decide +kernel
theorem x_305_95 : decode (q_code 305) 95 = .ok (.invokevirtual 325, 3) := by decide +kernel
theorem x_305_98 : decode (q_code 305) 98 = .ok (.ifCond .eq 18, 3) := by decide +kernel
theorem x_305_101 : decode (q_code 305) 101 = .ok (.aload_n 0, 1) := by decide +kernel
theorem x_305_102 : decode (q_code 305) 102 = .ok (.iload_n 3, 1) := by decide +kernel
theorem x_305_103 : decode (q_code 305) 103 = .ok (.invokevirtual 387, 3) := by decide +kernel
theorem x_305_106 : decode (q_code 305) 106 = .ok (.ifCond .ne 10, 3) := by decide +kernel
theorem x_305_109 : decode (q_code 305) 109 = .ok (.aload_n 0, 1) := by decide +kernel
theorem x_305_110 : decode (q_code 305) 110 = .ok (.iconst 4, 1) := by decide +kernel
theorem x_305_111 : decode (q_code 305) 111 = .ok (.iload_n 3, 1) := by decide +kernel
theorem x_305_112 : decode (q_code 305) 112 = .ok (.invokevirtual 237, 3) := by decide +kernel
theorem x_305_115 : decode (q_code 305) 115 = .ok (.ireturn, 1) := by decide +kernel
theorem x_305_116 : decode (q_code 305) 116 = .ok (.aload_n 0, 1) := by decide +kernel
theorem x_305_117 : decode (q_code 305) 117 = .ok (.iload_n 1, 1) := by decide +kernel
theorem x_305_118 : decode (q_code 305) 118 = .ok (.iload_n 3, 1) := by decide +kernel
theorem x_305_119 : decode (q_code 305) 119 = .ok (.invokevirtual 447, 3) := by decide +kernel
theorem x_305_122 : decode (q_code 305) 122 = .ok (.ifCond .eq 10, 3) := by decide +kernel
theorem x_305_125 : decode (q_code 305) 125 = .ok (.aload_n 0, 1) := by decide +kernel
theorem x_305_126 : decode (q_code 305) 126 = .ok (.iconst 5, 1) := by decide +kernel
theorem x_305_127 : decode (q_code 305) 127 = .ok (.iload_n 3, 1) := by decide +kernel
theorem x_305_128 : decode (q_code 305) 128 = .ok (.invokevirtual 237, 3) := by decide +kernel
theorem x_305_131 : decode (q_code 305) 131 = .ok (.ireturn, 1) := by decide +kernel
theorem x_305_132 : decode (q_code 305) 132 = .ok (.aload_n 0, 1) := by decide +kernel
theorem x_305_133 : decode (q_code 305) 133 = .ok (.iload_n 3, 1) := by decide +kernel
theorem x_305_134 : decode (q_code 305) 134 = .ok (.invokevirtual 180, 3) := by decide +kernel
theorem x_305_137 : decode (q_code 305) 137 = .ok (.istore_n 3, 1) := by decide +kernel
theorem x_305_138 : decode (q_code 305) 138 = .ok (.goto (-83), 3) := by decide +kernel
theorem x_305_141 : decode (q_code 305) 141 = .ok (.aload_n 0, 1) := by decide +kernel
theorem x_305_142 : decode (q_code 305) 142 = .ok (.iload_n 2, 1) := by decide +kernel
theorem x_305_143 : decode (q_code 305) 143 = .ok (.invokevirtual 180, 3) := by decide +kernel
theorem x_305_146 : decode (q_code 305) 146 = .ok (.istore_n 2, 1) := by decide +kernel
theorem x_305_147 : decode (q_code 305) 147 = .ok (.goto (-142), 3) := by decide +kernel
theorem x_305_150 : decode (q_code 305) 150 = .ok (.iconst 1, 1) := by decide +kernel
theorem x_305_151 : decode (q_code 305) 151 = .ok (.ireturn, 1) := by decide +kernel
theorem x_306_0 : decode (q_code 306) 0 = .ok (.aload_n 0, 1) := by decide +kernel
theorem x_306_1 : decode (q_code 306) 1 = .ok (.getfield 194, 3) := by decide +kernel
theorem x_306_4 : decode (q_code 306) 4 = .ok (.ldc_w 450, 3) := by decide +kernel
theorem x_306_7 : decode (q_code 306) 7 = .ok (.isub, 1) := by decide +kernel
theorem x_306_8 : decode (q_code 306) 8 = .ok (.istore_n 3, 1) := by decide +kernel
theorem x_306_9 : decode (q_code 306) 9 = .ok (.ldc_w 451, 3) := by decide +kernel
theorem x_306_12 : decode (q_code 306) 12 = .ok (.aload_n 0, 1) := by decide +kernel
theorem x_306_13 : decode (q_code 306) 13 = .ok (.ldc_w 451, 3) := by decide +kernel
theorem x_306_16 : decode (q_code 306) 16 = .ok (.invokevirtual 145, 3) := by decide +kernel
theorem x_306_19 : decode (q_code 306) 19 = .ok (.iadd, 1) := by decide +kernel
theorem x_306_20 : decode (q_code 306) 20 = .ok (.istore 4, 2) := by decide +kernel
theorem x_306_22 : decode (q_code 306) 22 = .ok (.iload_n 3, 1) := by decide +kernel
theorem x_306_23 : decode (q_code 306) 23 = .ok (.iload_n 2, 1) := by decide +kernel
theorem x_306_24 : decode (q_code 306) 24 = .ok (.if_icmp .ge 42, 3) := by decide +kernel
theorem x_306_27 : decode (q_code 306) 27 = .ok (.iload_n 1, 1) := by decide +kernel
theorem x_306_28 : decode (q_code 306) 28 = .ok (.iload_n 2, 1) := by decide +kernel
theorem x_306_29 : decode (q_code 306) 29 = .ok (.iadd, 1) := by decide +kernel
theorem x_306_30 : decode (q_code 306) 30 = .ok (.istore 5, 2) := by decide +kernel
theorem x_306_32 : decode (q_code 306) 32 = .ok (.iload 5, 2) := by decide +kernel
theorem x_306_34 : decode (q_code 306) 34 = .ok (.iload 4, 2) := by decide +kernel
theorem x_306_36 : decode (q_code 306) 36 = .ok (.if_icmp .ge 27, 3) := by decide +kernel
theorem x_306_39 : decode (q_code 306) 39 = .ok (.aload_n 0, 1) := by decide +kernel
theorem x_306_40 : decode (q_code 306) 40 = .ok (.getfield 10, 3) := by decide +kernel
theorem x_306_43 : decode (q_code 306) 43 = .ok (.iload 5, 2) := by decide +kernel
theorem x_306_45 : decode (q_code 306) 45 = .ok (.iload_n 3, 1) := by decide +kernel
theorem x_306_46 : decode (q_code 306) 46 = .ok (.iadd, 1) := by decide +kernel
theorem x_306_47 : decode (q_code 306) 47 = .ok (.iload_n 2, 1) := by decide +kernel
theorem x_306_48 : decode (q_code 306) 48 = .ok (.isub, 1) := by decide +kernel
theorem x_306_49 : decode (q_code 306) 49 = .ok (.aload_n 0, 1) := by decide +kernel
theorem x_306_50 : decode (q_code 306) 50 = .ok (.getfield 10, 3) := by decide +kernel
theorem x_306_53 : decode (q_code 306) 53 = .ok (.iload 5, 2) := by decide +kernel
theorem x_306_55 : decode (q_code 306) 55 = .ok (.baload, 1) := by decide +kernel
theorem x_306_56 : decode (q_code 306) 56 = .ok (.bastore, 1) := by decide +kernel
theorem x_306_57 : decode (q_code 306) 57 = .ok (.iinc 5 1, 3) := by decide +kernel
theorem x_306_60 : decode (q_code 306) 60 = .ok (.goto (-28), 3) := by decide +kernel
theorem x_306_63 : decode (q_code 306) 63 = .ok (.goto 41, 3) := by decide +kernel
theorem x_306_66 : decode (q_code 306) 66 = .ok (.iload 4, 2) := by decide +kernel
theorem x_306_68 : decode (q_code 306) 68 = .ok (.iconst 1, 1) := by decide +kernel
theorem x_306_69 : decode (q_code 306) 69 = .ok (.isub, 1) := by decide +kernel
theorem x_306_70 : decode (q_code 306) 70 = .ok (.istore 5, 2) := by decide +kernel
theorem x_306_72 : decode (q_code 306) 72 = .ok (.iload 5, 2) := by decide +kernel
theorem x_306_74 : decode (q_code 306) 74 = .ok (.iload_n 1, 1) := by decide +kernel
theorem x_306_75 : decode (q_code 306) 75 = .ok (.iload_n 2, 1) := by decide +kernel
theorem x_306_76 : decode (q_code 306) 76 = .ok (.iadd, 1) := by decide +kernel
theorem x_306_77 : decode (q_code 306) 77 = .ok (.if_icmp .lt 27, 3) := by decide +kernel
theorem x_306_80 : decode (q_code 306) 80 = .ok (.aload_n 0, 1) := by decide +kernel
theorem x_306_81 : decode (q_code 306) 81 = .ok (.getfield 10, 3) := by decide +kernel
theorem x_306_84 : decode (q_code 306) 84 = .ok (.iload 5, 2) := by decide +kernel
theorem x_306_86 : decode (q_code 306) 86 = .ok (.iload_n 3, 1) := by decide +kernel
theorem x_306_87 : decode (q_code 306) 87 = .ok (.iadd, 1) := by decide +kernel
theorem x_306_88 : decode (q_code 306) 88 = .ok (.iload_n 2, 1) := by decide +kernel
theorem x_306_89 : decode (q_code 306) 89 = .ok (.isub, 1) := by decide +kernel
theorem x_306_90 : decode (q_code 306) 90 = .ok (.aload_n 0, 1) := by decide +kernel
theorem x_306_91 : decode (q_code 306) 91 = .ok (.getfield 10, 3) := by decide +kernel
theorem x_306_94 : decode (q_code 306) 94 = .ok (.iload 5, 2) := by decide +kernel
theorem x_306_96 : decode (q_code 306) 96 = .ok (.baload, 1) := by decide +kernel
theorem x_306_97 : decode (q_code 306) 97 = .ok (.bastore, 1) := by decide +kernel
theorem x_306_98 : decode (q_code 306) 98 = .ok (.iinc 5 (-1), 3) := by decide +kernel
theorem x_306_101 : decode (q_code 306) 101 = .ok (.goto (-29), 3) := by decide +kernel
theorem x_306_104 : decode (q_code 306) 104 = .ok (.iconst 0, 1) := by decide +kernel
theorem x_306_105 : decode (q_code 306) 105 = .ok (.istore 5, 2) := by decide +kernel
theorem x_306_107 : decode (q_code 306) 107 = .ok (.iload 5, 2) := by decide +kernel
theorem x_306_109 : decode (q_code 306) 109 = .ok (.iload_n 3, 1) := by decide +kernel
theorem x_306_110 : decode (q_code 306) 110 = .ok (.if_icmp .ge 29, 3) := by decide +kernel
theorem x_306_113 : decode (q_code 306) 113 = .ok (.aload_n 0, 1) := by decide +kernel
theorem x_306_114 : decode (q_code 306) 114 = .ok (.getfield 10, 3) := by decide +kernel
theorem x_306_117 : decode (q_code 306) 117 = .ok (.iload_n 1, 1) := by decide +kernel
theorem x_306_118 : decode (q_code 306) 118 = .ok (.iload 5, 2) := by decide +kernel
theorem x_306_120 : decode (q_code 306) 120 = .ok (.iadd, 1) := by decide +kernel
theorem x_306_121 : decode (q_code 306) 121 = .ok (.aload_n 0, 1) := by decide +kernel
theorem x_306_122 : decode (q_code 306) 122 = .ok (.getfield 10, 3) := by decide +kernel
theorem x_306_125 : decode (q_code 306) 125 = .ok (.ldc_w 450, 3) := by decide +kernel
theorem x_306_128 : decode (q_code 306) 128 = .ok (.iload 5, 2) := by decide +kernel
theorem x_306_130 : decode (q_code 306) 130 = .ok (.iadd, 1) := by decide +kernel
theorem x_306_131 : decode (q_code 306) 131 = .ok (.baload, 1) := by decide +kernel
theorem x_306_132 : decode (q_code 306) 132 = .ok (.bastore, 1) := by decide +kernel
theorem x_306_133 : decode (q_code 306) 133 = .ok (.iinc 5 1, 3) := by decide +kernel
theorem x_306_136 : decode (q_code 306) 136 = .ok (.goto (-29), 3) := by decide +kernel
theorem x_306_139 : decode (q_code 306) 139 = .ok (.iconst 0, 1) := by decide +kernel
theorem x_306_140 : decode (q_code 306) 140 = .ok (.istore 5, 2) := by decide +kernel
theorem x_306_142 : decode (q_code 306) 142 = .ok (.iload 5, 2) := by decide +kernel
theorem x_306_144 : decode (q_code 306) 144 = .ok (.aload_n 0, 1) := by decide +kernel
theorem x_306_145 : decode (q_code 306) 145 = .ok (.getfield 452, 3) := by decide +kernel
theorem x_306_148 : decode (q_code 306) 148 = .ok (.if_icmp .ge 35, 3) := by decide +kernel
theorem x_306_151 : decode (q_code 306) 151 = .ok (.aload_n 0, 1) := by decide +kernel
theorem x_306_152 : decode (q_code 306) 152 = .ok (.aload_n 0, 1) := by decide +kernel
theorem x_306_153 : decode (q_code 306) 153 = .ok (.getfield 22, 3) := by decide +kernel
theorem x_306_156 : decode (q_code 306) 156 = .ok (.iload 5, 2) := by decide +kernel
theorem x_306_158 : decode (q_code 306) 158 = .ok (.iaload, 1) := by decide +kernel
theorem x_306_159 : decode (q_code 306) 159 = .ok (.aload_n 0, 1) := by decide +kernel
theorem x_306_160 : decode (q_code 306) 160 = .ok (.aload_n 0, 1) := by decide +kernel
theorem x_306_161 : decode (q_code 306) 161 = .ok (.getfield 22, 3) := by decide +kernel
theorem x_306_164 : decode (q_code 306) 164 = .ok (.iload 5, 2) := by decide +kernel
theorem x_306_166 : decode (q_code 306) 166 = .ok (.iaload, 1) := by decide +kernel
theorem x_306_167 : decode (q_code 306) 167 = .ok (.invokevirtual 145, 3) := by decide +kernel
theorem x_306_170 : decode (q_code 306) 170 = .ok (.iload_n 3, 1) := by decide +kernel
theorem x_306_171 : decode (q_code 306) 171 = .ok (.iadd, 1) := by decide +kernel
theorem x_306_172 : decode (q_code 306) 172 = .ok (.iload_n 2, 1) := by decide +kernel
theorem x_306_173 : decode (q_code 306) 173 = .ok (.isub, 1) := by decide +kernel
theorem x_306_174 : decode (q_code 306) 174 = .ok (.invokevirtual 210, 3) := by decide +kernel
theorem x_306_177 : decode (q_code 306) 177 = .ok (.iinc 5 1, 3) := by decide +kernel
theorem x_306_180 : decode (q_code 306) 180 = .ok (.goto (-38), 3) := by decide +kernel
theorem x_306_183 : decode (q_code 306) 183 = .ok (.return_, 1) := by decide +kernel
theorem x_307_0 : decode (q_code 307) 0 = .ok (.aload_n 0, 1) := by decide +kernel
theorem x_307_1 : decode (q_code 307) 1 = .ok (.ldc_w 450, 3) := by decide +kernel
theorem x_307_4 : decode (q_code 307) 4 = .ok (.ldc_w 455, 3) := by decide +kernel
theorem x_307_7 : decode (q_code 307) 7 = .ok (.invokevirtual 456, 3) := by decide +kernel
theorem x_307_10 : decode (q_code 307) 10 = .ok (.return_, 1) := by decide +kernel
theorem x_308_0 : decode (q_code 308) 0 = .ok (.aload_n 0, 1) := by decide +kernel
theorem x_308_1 : decode (q_code 308) 1 = .ok (.aload_n 0, 1) := by decide +kernel
theorem x_308_2 : decode (q_code 308) 2 = .ok (.getfield 22, 3) := by decide +kernel
theorem x_308_5 : decode (q_code 308) 5 = .ok (.aload_n 0, 1) := by decide +kernel
theorem x_308_6 : decode (q_code 308) 6 = .ok (.getfield 452, 3) := by decide +kernel
theorem x_308_9 : decode (q_code 308) 9 = .ok (.iconst 1, 1) := by decide +kernel
theorem x_308_10 : decode (q_code 308) 10 = .ok (.isub, 1) := by decide +kernel
theorem x_308_11 : decode (q_code 308) 11 = .ok (.iaload, 1) := by decide +kernel
theorem x_308_12 : decode (q_code 308) 12 = .ok (.invokevirtual 177, 3) := by decide +kernel
theorem x_308_15 : decode (q_code 308) 15 = .ok (.istore_n 1, 1) := by decide +kernel
theorem x_308_16 : decode (q_code 308) 16 = .ok (.aload_n 0, 1) := by decide +kernel
theorem x_308_17 : decode (q_code 308) 17 = .ok (.iload_n 1, 1) := by decide +kernel
theorem x_308_18 : decode (q_code 308) 18 = .ok (.iconst 0, 1) := by decide +kernel
theorem x_308_19 : decode (q_code 308) 19 = .ok (.invokevirtual 459, 3) := by decide +kernel
theorem x_308_22 : decode (q_code 308) 22 = .ok (.iload_n 1, 1) := by decide +kernel
theorem x_308_23 : decode (q_code 308) 23 = .ok (.ireturn, 1) := by decide +kernel
theorem x_309_0 : decode (q_code 309) 0 = .ok (.aload_n 0, 1) := by decide +kernel
theorem x_309_1 : decode (q_code 309) 1 = .ok (.aload_n 0, 1) := by decide +kernel
theorem x_309_2 : decode (q_code 309) 2 = .ok (.getfield 10, 3) := by decide +kernel
theorem x_309_5 : decode (q_code 309) 5 = .ok (.iload_n 1, 1) := by decide +kernel
theorem x_309_6 : decode (q_code 309) 6 = .ok (.baload, 1) := by decide +kernel
theorem x_309_7 : decode (q_code 309) 7 = .ok (.iconst 4, 1) := by decide +kernel
theorem x_309_8 : decode (q_code 309) 8 = .ok (.if_icmp .ne 7, 3) := by decide +kernel
theorem x_309_11 : decode (q_code 309) 11 = .ok (.iconst 1, 1) := by decide +kernel
theorem x_309_12 : decode (q_code 309) 12 = .ok (.goto 4, 3) := by decide +kernel
theorem x_309_15 : decode (q_code 309) 15 = .ok (.iconst 0, 1) := by decide +kernel
theorem x_309_16 : decode (q_code 309) 16 = .ok (.putfield 462, 3) := by decide +kernel
theorem x_309_19 : decode (q_code 309) 19 = .ok (.aload_n 0, 1) := by decide +kernel
theorem x_309_20 : decode (q_code 309) 20 = .ok (.getfield 22, 3) := by decide +kernel
theorem x_309_23 : decode (q_code 309) 23 = .ok (.aload_n 0, 1) := by decide +kernel
theorem x_309_24 : decode (q_code 309) 24 = .ok (.getfield 452, 3) := by decide +kernel
theorem x_309_27 : decode (q_code 309) 27 = .ok (.aload_n 0, 1) := by decide +kernel
theorem x_309_28 : decode (q_code 309) 28 = .ok (.iload_n 1, 1) := by decide +kernel
theorem x_309_29 : decode (q_code 309) 29 = .ok (.invokevirtual 163, 3) := by decide +kernel
theorem x_309_32 : decode (q_code 309) 32 = .ok (.iastore, 1) := by decide +kernel
theorem x_309_33 : decode (q_code 309) 33 = .ok (.aload_n 0, 1) := by decide +kernel
theorem x_309_34 : decode (q_code 309) 34 = .ok (.dup, 1) := by decide +kernel
theorem x_309_35 : decode (q_code 309) 35 = .ok (.getfield 452, 3) := by decide +kernel
theorem x_309_38 : decode (q_code 309) 38 = .ok (.iconst 1, 1) := by decide +kernel
theorem x_309_39 : decode (q_code 309) 39 = .ok (.iadd, 1) := by decide +kernel
theorem x_309_40 : decode (q_code 309) 40 = .ok (.putfield 452, 3) := by decide +kernel
theorem x_309_43 : decode (q_code 309) 43 = .ok (.return_, 1) := by decide +kernel
theorem x_310_0 : decode (q_code 310) 0 = .ok (.aload_n 0, 1) := by decide +kernel
theorem x_310_1 : decode (q_code 310) 1 = .ok (.getfield 22, 3) := by decide +kernel
theorem x_310_4 : decode (q_code 310) 4 = .ok (.iconst 0, 1) := by decide +kernel
theorem x_310_5 : decode (q_code 310) 5 = .ok (.ldc_w 451, 3) := by decide +kernel
theorem x_310_8 : decode (q_code 310) 8 = .ok (.iastore, 1) := by decide +kernel
theorem x_310_9 : decode (q_code 310) 9 = .ok (.aload_n 0, 1) := by decide +kernel
theorem x_310_10 : decode (q_code 310) 10 = .ok (.iconst 1, 1) := by decide +kernel
theorem x_310_11 : decode (q_code 310) 11 = .ok (.putfield 452, 3) := by decide +kernel
theorem x_310_14 : decode (q_code 310) 14 = .ok (.aload_n 0, 1) := by decide +kernel
theorem x_310_15 : decode (q_code 310) 15 = .ok (.iconst 0, 1) := by decide +kernel
theorem x_310_16 : decode (q_code 310) 16 = .ok (.putfield 462, 3) := by decide +kernel
theorem x_310_19 : decode (q_code 310) 19 = .ok (.return_, 1) := by decide +kernel
theorem x_311_0 : decode (q_code 311) 0 = .ok (.aload_n 0, 1) := by decide +kernel
theorem x_311_1 : decode (q_code 311) 1 = .ok (.getfield 22, 3) := by decide +kernel
theorem x_311_4 : decode (q_code 311) 4 = .ok (.aload_n 0, 1) := by decide +kernel
theorem x_311_5 : decode (q_code 311) 5 = .ok (.getfield 452, 3) := by decide +kernel
theorem x_311_8 : decode (q_code 311) 8 = .ok (.iconst 1, 1) := by decide +kernel
theorem x_311_9 : decode (q_code 311) 9 = .ok (.isub, 1) := by decide +kernel
theorem x_311_10 : decode (q_code 311) 10 = .ok (.iaload, 1) := by decide +kernel
theorem x_311_11 : decode (q_code 311) 11 = .ok (.istore_n 3, 1) := by decide +kernel
theorem x_311_12 : decode (q_code 311) 12 = .ok (.aload_n 0, 1) := by decide +kernel
theorem x_311_13 : decode (q_code 311) 13 = .ok (.getfield 462, 3) := by decide +kernel
theorem x_311_16 : decode (q_code 311) 16 = .ok (.ifCond .ne 11, 3) := by decide +kernel
theorem x_311_19 : decode (q_code 311) 19 = .ok (.aload_n 0, 1) := by decide +kernel
theorem x_311_20 : decode (q_code 311) 20 = .ok (.iload_n 3, 1) := by decide +kernel
theorem x_311_21 : decode (q_code 311) 21 = .ok (.iload_n 1, 1) := by decide +kernel
theorem x_311_22 : decode (q_code 311) 22 = .ok (.iload_n 2, 1) := by decide +kernel
theorem x_311_23 : decode (q_code 311) 23 = .ok (.invokevirtual 310, 3) := by decide +kernel
theorem x_311_26 : decode (q_code 311) 26 = .ok (.ireturn, 1) := by decide +kernel
theorem x_311_27 : decode (q_code 311) 27 = .ok (.aload_n 0, 1) := by decide +kernel
theorem x_311_28 : decode (q_code 311) 28 = .ok (.iload_n 1, 1) := by decide +kernel
theorem x_311_29 : decode (q_code 311) 29 = .ok (.iload_n 2, 1) := by decide +kernel
theorem x_311_30 : decode (q_code 311) 30 = .ok (.invokevirtual 317, 3) := by decide +kernel
theorem x_311_33 : decode (q_code 311) 33 = .ok (.istore 4, 2) := by decide +kernel
theorem x_311_35 : decode (q_code 311) 35 = .ok (.iload 4, 2) := by decide +kernel
theorem x_311_37 : decode (q_code 311) 37 = .ok (.ifCond .ge 7, 3) := by decide +kernel
theorem x_311_40 : decode (q_code 311) 40 = .ok (.iconst (-1), 1) := by decide +kernel
theorem x_311_41 : decode (q_code 311) 41 = .ok (.goto 10, 3) := by decide +kernel
theorem x_311_44 : decode (q_code 311) 44 = .ok (.aload_n 0, 1) := by decide +kernel
theorem x_311_45 : decode (q_code 311) 45 = .ok (.iload_n 3, 1) := by decide +kernel
theorem x_311_46 : decode (q_code 311) 46 = .ok (.iload 4, 2) := by decide +kernel
theorem x_311_48 : decode (q_code 311) 48 = .ok (.invokevirtual 320, 3) := by decide +kernel
theorem x_311_51 : decode (q_code 311) 51 = .ok (.ireturn, 1) := by decide +kernel
theorem x_312_0 : decode (q_code 312) 0 = .ok (.aload_n 0, 1) := by decide +kernel
theorem x_312_1 : decode (q_code 312) 1 = .ok (.invokevirtual 465, 3) := by decide +kernel
theorem x_312_4 : decode (q_code 312) 4 = .ok (.iload_n 1, 1) := by decide +kernel
theorem x_312_5 : decode (q_code 312) 5 = .ok (.istore_n 3, 1) := by decide +kernel
theorem x_312_6 : decode (q_code 312) 6 = .ok (.aload_n 0, 1) := by decide +kernel
theorem x_312_7 : decode (q_code 312) 7 = .ok (.iload_n 3, 1) := by decide +kernel
theorem x_312_8 : decode (q_code 312) 8 = .ok (.iload_n 2, 1) := by decide +kernel
theorem x_312_9 : decode (q_code 312) 9 = .ok (.invokevirtual 287, 3) := by decide +kernel
theorem x_312_12 : decode (q_code 312) 12 = .ok (.istore 4, 2) := by decide +kernel
theorem x_312_14 : decode (q_code 312) 14 = .ok (.aload_n 0, 1) := by decide +kernel
theorem x_312_15 : decode (q_code 312) 15 = .ok (.getfield 462, 3) := by decide +kernel
theorem x_312_18 : decode (q_code 312) 18 = .ok (.ifCond .eq 13, 3) := by decide +kernel
theorem x_312_21 : decode (q_code 312) 21 = .ok (.aload_n 0, 1) := by decide +kernel
theorem x_312_22 : decode (q_code 312) 22 = .ok (.iload_n 3, 1) := by decide +kernel
theorem x_312_23 : decode (q_code 312) 23 = .ok (.iload 4, 2) := by decide +kernel
theorem x_312_25 : decode (q_code 312) 25 = .ok (.invokevirtual 317, 3) := by decide +kernel
theorem x_312_28 : decode (q_code 312) 28 = .ok (.goto 4, 3) := by decide +kernel
theorem x_312_31 : decode (q_code 312) 31 = .ok (.iconst 0, 1) := by decide +kernel
theorem x_312_32 : decode (q_code 312) 32 = .ok (.istore 5, 2) := by decide +kernel
theorem x_312_34 : decode (q_code 312) 34 = .ok (.aload_n 0, 1) := by decide +kernel
theorem x_312_35 : decode (q_code 312) 35 = .ok (.getfield 462, 3) := by decide +kernel
theorem x_312_38 : decode (q_code 312) 38 = .ok (.ifCond .eq 31, 3) := by decide +kernel
theorem x_312_41 : decode (q_code 312) 41 = .ok (.iload 5, 2) := by decide +kernel
theorem x_312_43 : decode (q_code 312) 43 = .ok (.ifCond .lt 23, 3) := by decide +kernel
theorem x_312_46 : decode (q_code 312) 46 = .ok (.iload 5, 2) := by decide +kernel
theorem x_312_48 : decode (q_code 312) 48 = .ok (.aload_n 0, 1) := by decide +kernel
theorem x_312_49 : decode (q_code 312) 49 = .ok (.aload_n 0, 1) := by decide +kernel
theorem x_312_50 : decode (q_code 312) 50 = .ok (.getfield 22, 3) := by decide +kernel
theorem x_312_53 : decode (q_code 312) 53 = .ok (.aload_n 0, 1) := by decide +kernel
theorem x_312_54 : decode (q_code 312) 54 = .ok (.getfield 452, 3) := by decide +kernel
theorem x_312_57 : decode (q_code 312) 57 = .ok (.iconst 1, 1) := by decide +kernel
theorem x_312_58 : decode (q_code 312) 58 = .ok (.isub, 1) := by decide +kernel
theorem x_312_59 : decode (q_code 312) 59 = .ok (.iaload, 1) := by decide +kernel
theorem x_312_60 : decode (q_code 312) 60 = .ok (.invokevirtual 360, 3) := by decide +kernel
theorem x_312_63 : decode (q_code 312) 63 = .ok (.if_icmp .le 6, 3) := by decide +kernel
theorem x_312_66 : decode (q_code 312) 66 = .ok (.bipush (-2), 2) := by decide +kernel
theorem x_312_68 : decode (q_code 312) 68 = .ok (.ireturn, 1) := by decide +kernel
theorem x_312_69 : decode (q_code 312) 69 = .ok (.aload_n 0, 1) := by decide +kernel
theorem x_312_70 : decode (q_code 312) 70 = .ok (.iload_n 3, 1) := by decide +kernel
theorem x_312_71 : decode (q_code 312) 71 = .ok (.iload 4, 2) := by decide +kernel
theorem x_312_73 : decode (q_code 312) 73 = .ok (.invokevirtual 468, 3) := by decide +kernel
theorem x_312_76 : decode (q_code 312) 76 = .ok (.istore 6, 2) := by decide +kernel
theorem x_312_78 : decode (q_code 312) 78 = .ok (.aload_n 0, 1) := by decide +kernel
theorem x_312_79 : decode (q_code 312) 79 = .ok (.iload_n 3, 1) := by decide +kernel
theorem x_312_80 : decode (q_code 312) 80 = .ok (.putfield 471, 3) := by decide +kernel
theorem x_312_83 : decode (q_code 312) 83 = .ok (.aload_n 0, 1) := by decide +kernel
theorem x_312_84 : decode (q_code 312) 84 = .ok (.iload 4, 2) := by decide +kernel
theorem x_312_86 : decode (q_code 312) 86 = .ok (.putfield 474, 3) := by decide +kernel
theorem x_312_89 : decode (q_code 312) 89 = .ok (.iload 4, 2) := by decide +kernel
theorem x_312_91 : decode (q_code 312) 91 = .ok (.iload_n 2, 1) := by decide +kernel
theorem x_312_92 : decode (q_code 312) 92 = .ok (.if_icmp .ne 6, 3) := by decide +kernel
theorem x_312_95 : decode (q_code 312) 95 = .ok (.iload 6, 2) := by decide +kernel
theorem x_312_97 : decode (q_code 312) 97 = .ok (.ireturn, 1) := by decide +kernel
theorem x_312_98 : decode (q_code 312) 98 = .ok (.iload 6, 2) := by decide +kernel
theorem x_312_100 : decode (q_code 312) 100 = .ok (.iconst (-1), 1) := by decide +kernel
theorem x_312_101 : decode (q_code 312) 101 = .ok (.if_icmp .ne 40, 3) := by decide +kernel
theorem x_312_104 : decode (q_code 312) 104 = .ok (.aload_n 0, 1) := by decide +kernel
theorem x_312_105 : decode (q_code 312) 105 = .ok (.invokevirtual 477, 3) := by decide +kernel
theorem x_312_108 : decode (q_code 312) 108 = .ok (.aload_n 0, 1) := by decide +kernel
theorem x_312_109 : decode (q_code 312) 109 = .ok (.iconst 3, 1) := by decide +kernel
theorem x_312_110 : decode (q_code 312) 110 = .ok (.invokevirtual 204, 3) := by decide +kernel
theorem x_312_113 : decode (q_code 312) 113 = .ok (.aload_n 0, 1) := by decide +kernel
theorem x_312_114 : decode (q_code 312) 114 = .ok (.iload_n 3, 1) := by decide +kernel
theorem x_312_115 : decode (q_code 312) 115 = .ok (.iload 4, 2) := by decide +kernel
theorem x_312_117 : decode (q_code 312) 117 = .ok (.invokevirtual 214, 3) := by decide +kernel
theorem x_312_120 : decode (q_code 312) 120 = .ok (.aload_n 0, 1) := by decide +kernel
theorem x_312_121 : decode (q_code 312) 121 = .ok (.iconst 0, 1) := by decide +kernel
theorem x_312_122 : decode (q_code 312) 122 = .ok (.invokevirtual 204, 3) := by decide +kernel
theorem x_312_125 : decode (q_code 312) 125 = .ok (.aload_n 0, 1) := by decide +kernel
theorem x_312_126 : decode (q_code 312) 126 = .ok (.iconst 5, 1) := by decide +kernel
theorem x_312_127 : decode (q_code 312) 127 = .ok (.invokevirtual 207, 3) := by decide +kernel
theorem x_312_130 : decode (q_code 312) 130 = .ok (.aload_n 0, 1) := by decide +kernel
theorem x_312_131 : decode (q_code 312) 131 = .ok (.iconst 0, 1) := by decide +kernel
theorem x_312_132 : decode (q_code 312) 132 = .ok (.invokevirtual 204, 3) := by decide +kernel
theorem x_312_135 : decode (q_code 312) 135 = .ok (.aload_n 0, 1) := by decide +kernel
theorem x_312_136 : decode (q_code 312) 136 = .ok (.invokevirtual 480, 3) := by decide +kernel
theorem x_312_139 : decode (q_code 312) 139 = .ok (.istore 6, 2) := by decide +kernel
theorem x_312_141 : decode (q_code 312) 141 = .ok (.aload_n 0, 1) := by decide +kernel
theorem x_312_142 : decode (q_code 312) 142 = .ok (.getfield 10, 3) := by decide +kernel
theorem x_312_145 : decode (q_code 312) 145 = .ok (.iload 6, 2) := by decide +kernel
theorem x_312_147 : decode (q_code 312) 147 = .ok (.baload, 1) := by decide +kernel
theorem x_312_148 : decode (q_code 312) 148 = .ok (.iconst 3, 1) := by decide +kernel
theorem x_312_149 : decode (q_code 312) 149 = .ok (.if_icmp .eq 17, 3) := by decide +kernel
theorem x_312_152 : decode (q_code 312) 152 = .ok (.aload_n 0, 1) := by decide +kernel
theorem x_312_153 : decode (q_code 312) 153 = .ok (.getfield 10, 3) := by decide +kernel
theorem x_312_156 : decode (q_code 312) 156 = .ok (.iload 6, 2) := by decide +kernel
theorem x_312_158 : decode (q_code 312) 158 = .ok (.baload, 1) := by decide +kernel
theorem x_312_159 : decode (q_code 312) 159 = .ok (.iconst 4, 1) := by decide +kernel
theorem x_312_160 : decode (q_code 312) 160 = .ok (.if_icmp .eq 6, 3) := by decide +kernel
theorem x_312_163 : decode (q_code 312) 163 = .ok (.bipush (-2), 2) := by decide +kernel
theorem x_312_165 : decode (q_code 312) 165 = .ok (.ireturn, 1) := by decide +kernel
theorem x_312_166 : decode (q_code 312) 166 = .ok (.aload_n 0, 1) := by decide +kernel
theorem x_312_167 : decode (q_code 312) 167 = .ok (.iload 6, 2) := by decide +kernel
theorem x_312_169 : decode (q_code 312) 169 = .ok (.invokevirtual 483, 3) := by decide +kernel
theorem x_312_172 : decode (q_code 312) 172 = .ok (.iload 4, 2) := by decide +kernel
theorem x_312_174 : decode (q_code 312) 174 = .ok (.iconst 1, 1) := by decide +kernel
theorem x_312_175 : decode (q_code 312) 175 = .ok (.iadd, 1) := by decide +kernel
theorem x_312_176 : decode (q_code 312) 176 = .ok (.istore_n 3, 1) := by decide +kernel
theorem x_312_177 : decode (q_code 312) 177 = .ok (.goto (-171), 3) := by decide +kernel
theorem x_313_0 : decode (q_code 313) 0 = .ok (.aload_n 0, 1) := by decide +kernel
theorem x_313_1 : decode (q_code 313) 1 = .ok (.invokevirtual 465, 3) := by decide +kernel
theorem x_313_4 : decode (q_code 313) 4 = .ok (.iload_n 1, 1) := by decide +kernel
theorem x_313_5 : decode (q_code 313) 5 = .ok (.istore_n 3, 1) := by decide +kernel
theorem x_313_6 : decode (q_code 313) 6 = .ok (.aload_n 0, 1) := by decide +kernel
theorem x_313_7 : decode (q_code 313) 7 = .ok (.iload_n 3, 1) := by decide +kernel
theorem x_313_8 : decode (q_code 313) 8 = .ok (.iload_n 2, 1) := by decide +kernel
theorem x_313_9 : decode (q_code 313) 9 = .ok (.invokevirtual 287, 3) := by decide +kernel
theorem x_313_12 : decode (q_code 313) 12 = .ok (.istore 4, 2) := by decide +kernel
theorem x_313_14 : decode (q_code 313) 14 = .ok (.aload_n 0, 1) := by decide +kernel
theorem x_313_15 : decode (q_code 313) 15 = .ok (.iload_n 3, 1) := by decide +kernel
theorem x_313_16 : decode (q_code 313) 16 = .ok (.iload 4, 2) := by decide +kernel
theorem x_313_18 : decode (q_code 313) 18 = .ok (.invokevirtual 468, 3) := by decide +kernel
theorem x_313_21 : decode (q_code 313) 21 = .ok (.istore 5, 2) := by decide +kernel
theorem x_313_23 : decode (q_code 313) 23 = .ok (.iload 5, 2) := by decide +kernel
theorem x_313_25 : decode (q_code 313) 25 = .ok (.iconst (-1), 1) := by decide +kernel
theorem x_313_26 : decode (q_code 313) 26 = .ok (.if_icmp .eq 9, 3) := by decide +kernel
theorem x_313_29 : decode (q_code 313) 29 = .ok (.iload 4, 2) := by decide +kernel
theorem x_313_31 : decode (q_code 313) 31 = .ok (.iload_n 2, 1) := by decide +kernel
theorem x_313_32 : decode (q_code 313) 32 = .ok (.if_icmp .ne 6, 3) := by decide +kernel
theorem x_313_35 : decode (q_code 313) 35 = .ok (.iload 5, 2) := by decide +kernel
theorem x_313_37 : decode (q_code 313) 37 = .ok (.ireturn, 1) := by decide +kernel
theorem x_313_38 : decode (q_code 313) 38 = .ok (.aload_n 0, 1) := by decide +kernel
theorem x_313_39 : decode (q_code 313) 39 = .ok (.getfield 10, 3) := by decide +kernel
theorem x_313_42 : decode (q_code 313) 42 = .ok (.iload 5, 2) := by decide +kernel
theorem x_313_44 : decode (q_code 313) 44 = .ok (.baload, 1) := by decide +kernel
theorem x_313_45 : decode (q_code 313) 45 = .ok (.iconst 3, 1) := by decide +kernel
theorem x_313_46 : decode (q_code 313) 46 = .ok (.if_icmp .eq 16, 3) := by decide +kernel
theorem x_313_49 : decode (q_code 313) 49 = .ok (.aload_n 0, 1) := by decide +kernel
theorem x_313_50 : decode (q_code 313) 50 = .ok (.getfield 10, 3) := by decide +kernel
theorem x_313_53 : decode (q_code 313) 53 = .ok (.iload 5, 2) := by decide +kernel
theorem x_313_55 : decode (q_code 313) 55 = .ok (.baload, 1) := by decide +kernel
theorem x_313_56 : decode (q_code 313) 56 = .ok (.iconst 4, 1) := by decide +kernel
theorem x_313_57 : decode (q_code 313) 57 = .ok (.if_icmp .eq 5, 3) := by decide +kernel
theorem x_313_60 : decode (q_code 313) 60 = .ok (.iconst (-1), 1) := by decide +kernel
theorem x_313_61 : decode (q_code 313) 61 = .ok (.ireturn, 1) := by decide +kernel
theorem x_313_62 : decode (q_code 313) 62 = .ok (.aload_n 0, 1) := by decide +kernel
theorem x_313_63 : decode (q_code 313) 63 = .ok (.iload 5, 2) := by decide +kernel
theorem x_313_65 : decode (q_code 313) 65 = .ok (.invokevirtual 483, 3) := by decide +kernel
theorem x_313_68 : decode (q_code 313) 68 = .ok (.iload 4, 2) := by decide +kernel
theorem x_313_70 : decode (q_code 313) 70 = .ok (.iconst 1, 1) := by decide +kernel
theorem x_313_71 : decode (q_code 313) 71 = .ok (.iadd, 1) := by decide +kernel
theorem x_313_72 : decode (q_code 313) 72 = .ok (.istore_n 3, 1) := by decide +kernel
theorem x_313_73 : decode (q_code 313) 73 = .ok (.goto (-67), 3) := by decide +kernel
theorem x_314_0 : decode (q_code 314) 0 = .ok (.iload_n 1, 1) := by decide +kernel
theorem x_314_1 : decode (q_code 314) 1 = .ok (.iconst (-1), 1) := by decide +kernel
theorem x_314_2 : decode (q_code 314) 2 = .ok (.if_icmp .eq 38, 3) := by decide +kernel
theorem x_314_5 : decode (q_code 314) 5 = .ok (.aload_n 0, 1) := by decide +kernel
theorem x_314_6 : decode (q_code 314) 6 = .ok (.aload_n 0, 1) := by decide +kernel
theorem x_314_7 : decode (q_code 314) 7 = .ok (.getfield 10, 3) := by decide +kernel
theorem x_314_10 : decode (q_code 314) 10 = .ok (.iload_n 1, 1) := by decide +kernel
theorem x_314_11 : decode (q_code 314) 11 = .ok (.baload, 1) := by decide +kernel
theorem x_314_12 : decode (q_code 314) 12 = .ok (.aload_n 0, 1) := by decide +kernel
theorem x_314_13 : decode (q_code 314) 13 = .ok (.iload_n 1, 1) := by decide +kernel
theorem x_314_14 : decode (q_code 314) 14 = .ok (.invokevirtual 163, 3) := by decide +kernel
theorem x_314_17 : decode (q_code 314) 17 = .ok (.invokevirtual 166, 3) := by decide +kernel
theorem x_314_20 : decode (q_code 314) 20 = .ok (.istore_n 3, 1) := by decide +kernel
theorem x_314_21 : decode (q_code 314) 21 = .ok (.aload_n 0, 1) := by decide +kernel
theorem x_314_22 : decode (q_code 314) 22 = .ok (.getfield 10, 3) := by decide +kernel
theorem x_314_25 : decode (q_code 314) 25 = .ok (.iload_n 1, 1) := by decide +kernel
theorem x_314_26 : decode (q_code 314) 26 = .ok (.iload_n 2, 1) := by decide +kernel
theorem x_314_27 : decode (q_code 314) 27 = .ok (.i2b, 1) := by decide +kernel
theorem x_314_28 : decode (q_code 314) 28 = .ok (.bastore, 1) := by decide +kernel
theorem x_314_29 : decode (q_code 314) 29 = .ok (.aload_n 0, 1) := by decide +kernel
theorem x_314_30 : decode (q_code 314) 30 = .ok (.aload_n 0, 1) := by decide +kernel
theorem x_314_31 : decode (q_code 314) 31 = .ok (.iload_n 1, 1) := by decide +kernel
theorem x_314_32 : decode (q_code 314) 32 = .ok (.invokevirtual 163, 3) := by decide +kernel
theorem x_314_35 : decode (q_code 314) 35 = .ok (.iload_n 3, 1) := by decide +kernel
theorem x_314_36 : decode (q_code 314) 36 = .ok (.invokevirtual 459, 3) := by decide +kernel
theorem x_314_39 : decode (q_code 314) 39 = .ok (.return_, 1) := by decide +kernel
theorem x_314_40 : decode (q_code 314) 40 = .ok (.aload_n 0, 1) := by decide +kernel
theorem x_314_41 : decode (q_code 314) 41 = .ok (.getfield 194, 3) := by decide +kernel
theorem x_314_44 : decode (q_code 314) 44 = .ok (.ldc_w 450, 3) := by decide +kernel
theorem x_314_47 : decode (q_code 314) 47 = .ok (.isub, 1) := by decide +kernel
theorem x_314_48 : decode (q_code 314) 48 = .ok (.istore_n 3, 1) := by decide +kernel
theorem x_314_49 : decode (q_code 314) 49 = .ok (.aload_n 0, 1) := by decide +kernel
theorem x_314_50 : decode (q_code 314) 50 = .ok (.getfield 474, 3) := by decide +kernel
theorem x_314_53 : decode (q_code 314) 53 = .ok (.aload_n 0, 1) := by decide +kernel
theorem x_314_54 : decode (q_code 314) 54 = .ok (.getfield 471, 3) := by decide +kernel
theorem x_314_57 : decode (q_code 314) 57 = .ok (.isub, 1) := by decide +kernel
theorem x_314_58 : decode (q_code 314) 58 = .ok (.iconst 2, 1) := by decide +kernel
theorem x_314_59 : decode (q_code 314) 59 = .ok (.iadd, 1) := by decide +kernel
theorem x_314_60 : decode (q_code 314) 60 = .ok (.istore 4, 2) := by decide +kernel
theorem x_314_62 : decode (q_code 314) 62 = .ok (.iload_n 3, 1) := by decide +kernel
theorem x_314_63 : decode (q_code 314) 63 = .ok (.iconst 1, 1) := by decide +kernel
theorem x_314_64 : decode (q_code 314) 64 = .ok (.isub, 1) := by decide +kernel
theorem x_314_65 : decode (q_code 314) 65 = .ok (.istore 5, 2) := by decide +kernel
theorem x_314_67 : decode (q_code 314) 67 = .ok (.iload 5, 2) := by decide +kernel
theorem x_314_69 : decode (q_code 314) 69 = .ok (.ifCond .lt 34, 3) := by decide +kernel
theorem x_314_72 : decode (q_code 314) 72 = .ok (.aload_n 0, 1) := by decide +kernel
theorem x_314_73 : decode (q_code 314) 73 = .ok (.getfield 10, 3) := by decide +kernel
theorem x_314_76 : decode (q_code 314) 76 = .ok (.ldc_w 450, 3) := by decide +kernel
theorem x_314_79 : decode (q_code 314) 79 = .ok (.iload 4, 2) := by decide +kernel
theorem x_314_81 : decode (q_code 314) 81 = .ok (.iadd, 1) := by decide +kernel
theorem x_314_82 : decode (q_code 314) 82 = .ok (.iload 5, 2) := by decide +kernel
theorem x_314_84 : decode (q_code 314) 84 = .ok (.iadd, 1) := by decide +kernel
theorem x_314_85 : decode (q_code 314) 85 = .ok (.aload_n 0, 1) := by decide +kernel
theorem x_314_86 : decode (q_code 314) 86 = .ok (.getfield 10, 3) := by decide +kernel
theorem x_314_89 : decode (q_code 314) 89 = .ok (.ldc_w 450, 3) := by decide +kernel
theorem x_314_92 : decode (q_code 314) 92 = .ok (.iload 5, 2) := by decide +kernel
theorem x_314_94 : decode (q_code 314) 94 = .ok (.iadd, 1) := by decide +kernel
theorem x_314_95 : decode (q_code 314) 95 = .ok (.baload, 1) := by decide +kernel
theorem x_314_96 : decode (q_code 314) 96 = .ok (.bastore, 1) := by decide +kernel
theorem x_314_97 : decode (q_code 314) 97 = .ok (.iinc 5 (-1), 3) := by decide +kernel
theorem x_314_100 : decode (q_code 314) 100 = .ok (.goto (-33), 3) := by decide +kernel
theorem x_314_103 : decode (q_code 314) 103 = .ok (.aload_n 0, 1) := by decide +kernel
theorem x_314_104 : decode (q_code 314) 104 = .ok (.ldc_w 450, 3) := by decide +kernel
theorem x_314_107 : decode (q_code 314) 107 = .ok (.ldc_w 455, 3) := by decide +kernel
theorem x_314_110 : decode (q_code 314) 110 = .ok (.invokevirtual 456, 3) := by decide +kernel
theorem x_314_113 : decode (q_code 314) 113 = .ok (.aload_n 0, 1) := by decide +kernel
theorem x_314_114 : decode (q_code 314) 114 = .ok (.iload_n 2, 1) := by decide +kernel
theorem x_314_115 : decode (q_code 314) 115 = .ok (.invokevirtual 204, 3) := by decide +kernel
theorem x_314_118 : decode (q_code 314) 118 = .ok (.aload_n 0, 1) := by decide +kernel
theorem x_314_119 : decode (q_code 314) 119 = .ok (.aload_n 0, 1) := by decide +kernel
theorem x_314_120 : decode (q_code 314) 120 = .ok (.getfield 471, 3) := by decide +kernel
theorem x_314_123 : decode (q_code 314) 123 = .ok (.aload_n 0, 1) := by decide +kernel
theorem x_314_124 : decode (q_code 314) 124 = .ok (.getfield 474, 3) := by decide +kernel
theorem x_314_127 : decode (q_code 314) 127 = .ok (.invokevirtual 214, 3) := by decide +kernel
theorem x_314_130 : decode (q_code 314) 130 = .ok (.aload_n 0, 1) := by decide +kernel
theorem x_314_131 : decode (q_code 314) 131 = .ok (.iconst 0, 1) := by decide +kernel
theorem x_314_132 : decode (q_code 314) 132 = .ok (.invokevirtual 204, 3) := by decide +kernel
theorem x_314_135 : decode (q_code 314) 135 = .ok (.aload_n 0, 1) := by decide +kernel
theorem x_314_136 : decode (q_code 314) 136 = .ok (.dup, 1) := by decide +kernel
theorem x_314_137 : decode (q_code 314) 137 = .ok (.getfield 194, 3) := by decide +kernel
theorem x_314_140 : decode (q_code 314) 140 = .ok (.iload_n 3, 1) := by decide +kernel
theorem x_314_141 : decode (q_code 314) 141 = .ok (.iadd, 1) := by decide +kernel
theorem x_314_142 : decode (q_code 314) 142 = .ok (.putfield 194, 3) := by decide +kernel
theorem x_314_145 : decode (q_code 314) 145 = .ok (.aload_n 0, 1) := by decide +kernel
theorem x_314_146 : decode (q_code 314) 146 = .ok (.invokevirtual 480, 3) := by decide +kernel
theorem x_314_149 : decode (q_code 314) 149 = .ok (.pop, 1) := by decide +kernel
theorem x_314_150 : decode (q_code 314) 150 = .ok (.return_, 1) := by decide +kernel
theorem x_315_0 : decode (q_code 315) 0 = .ok (.iload_n 2, 1) := by decide +kernel
theorem x_315_1 : decode (q_code 315) 1 = .ok (.iconst 1, 1) := by decide +kernel
theorem x_315_2 : decode (q_code 315) 2 = .ok (.iadd, 1) := by decide +kernel
theorem x_315_3 : decode (q_code 315) 3 = .ok (.istore_n 3, 1) := by decide +kernel
theorem x_315_4 : decode (q_code 315) 4 = .ok (.aload_n 0, 1) := by decide +kernel
theorem x_315_5 : decode (q_code 315) 5 = .ok (.iload_n 2, 1) := by decide +kernel
theorem x_315_6 : decode (q_code 315) 6 = .ok (.invokevirtual 160, 3) := by decide +kernel
theorem x_315_9 : decode (q_code 315) 9 = .ok (.istore 4, 2) := by decide +kernel
theorem x_315_11 : decode (q_code 315) 11 = .ok (.aload_n 0, 1) := by decide +kernel
theorem x_315_12 : decode (q_code 315) 12 = .ok (.iload_n 1, 1) := by decide +kernel
theorem x_315_13 : decode (q_code 315) 13 = .ok (.ldc_w 431, 3) := by decide +kernel
theorem x_315_16 : decode (q_code 315) 16 = .ok (.invokevirtual 325, 3) := by decide +kernel
theorem x_315_19 : decode (q_code 315) 19 = .ok (.ifCond .eq 59, 3) := by decide +kernel
theorem x_315_22 : decode (q_code 315) 22 = .ok (.aload_n 0, 1) := by decide +kernel
theorem x_315_23 : decode (q_code 315) 23 = .ok (.iload_n 3, 1) := by decide +kernel
theorem x_315_24 : decode (q_code 315) 24 = .ok (.iload 4, 2) := by decide +kernel
theorem x_315_26 : decode (q_code 315) 26 = .ok (.invokevirtual 486, 3) := by decide +kernel
theorem x_315_29 : decode (q_code 315) 29 = .ok (.istore 5, 2) := by decide +kernel
theorem x_315_31 : decode (q_code 315) 31 = .ok (.iload 5, 2) := by decide +kernel
theorem x_315_33 : decode (q_code 315) 33 = .ok (.iconst (-1), 1) := by decide +kernel
theorem x_315_34 : decode (q_code 315) 34 = .ok (.if_icmp .ne 5, 3) := by decide +kernel
theorem x_315_37 : decode (q_code 315) 37 = .ok (.iconst 0, 1) := by decide +kernel
theorem x_315_38 : decode (q_code 315) 38 = .ok (.ireturn, 1) := by decide +kernel
theorem x_315_39 : decode (q_code 315) 39 = .ok (.aload_n 0, 1) := by decide +kernel
theorem x_315_40 : decode (q_code 315) 40 = .ok (.invokevirtual 477, 3) := by decide +kernel
theorem x_315_43 : decode (q_code 315) 43 = .ok (.aload_n 0, 1) := by decide +kernel
theorem x_315_44 : decode (q_code 315) 44 = .ok (.getfield 462, 3) := by decide +kernel
theorem x_315_47 : decode (q_code 315) 47 = .ok (.ifCond .eq 14, 3) := by decide +kernel
theorem x_315_50 : decode (q_code 315) 50 = .ok (.aload_n 0, 1) := by decide +kernel
theorem x_315_51 : decode (q_code 315) 51 = .ok (.iload 5, 2) := by decide +kernel
theorem x_315_53 : decode (q_code 315) 53 = .ok (.bipush 10, 2) := by decide +kernel
theorem x_315_55 : decode (q_code 315) 55 = .ok (.invokevirtual 489, 3) := by decide +kernel
theorem x_315_58 : decode (q_code 315) 58 = .ok (.goto 18, 3) := by decide +kernel
theorem x_315_61 : decode (q_code 315) 61 = .ok (.aload_n 0, 1) := by decide +kernel
theorem x_315_62 : decode (q_code 315) 62 = .ok (.iload 5, 2) := by decide +kernel
theorem x_315_64 : decode (q_code 315) 64 = .ok (.aload_n 0, 1) := by decide +kernel
theorem x_315_65 : decode (q_code 315) 65 = .ok (.iload 5, 2) := by decide +kernel
theorem x_315_67 : decode (q_code 315) 67 = .ok (.invokevirtual 180, 3) := by decide +kernel
theorem x_315_70 : decode (q_code 315) 70 = .ok (.iload 5, 2) := by decide +kernel
theorem x_315_72 : decode (q_code 315) 72 = .ok (.isub, 1) := by decide +kernel
theorem x_315_73 : decode (q_code 315) 73 = .ok (.invokevirtual 459, 3) := by decide +kernel
theorem x_315_76 : decode (q_code 315) 76 = .ok (.iconst 0, 1) := by decide +kernel
theorem x_315_77 : decode (q_code 315) 77 = .ok (.ireturn, 1) := by decide +kernel
theorem x_315_78 : decode (q_code 315) 78 = .ok (.aload_n 0, 1) := by decide +kernel
theorem x_315_79 : decode (q_code 315) 79 = .ok (.iload_n 1, 1) := by decide +kernel
theorem x_315_80 : decode (q_code 315) 80 = .ok (.ldc_w 437, 3) := by decide +kernel
theorem x_315_83 : decode (q_code 315) 83 = .ok (.invokevirtual 325, 3) := by decide +kernel
theorem x_315_86 : decode (q_code 315) 86 = .ok (.ifCond .eq 30, 3) := by decide +kernel
theorem x_315_89 : decode (q_code 315) 89 = .ok (.aload_n 0, 1) := by decide +kernel
theorem x_315_90 : decode (q_code 315) 90 = .ok (.iload_n 3, 1) := by decide +kernel
theorem x_315_91 : decode (q_code 315) 91 = .ok (.iload 4, 2) := by decide +kernel
theorem x_315_93 : decode (q_code 315) 93 = .ok (.invokevirtual 486, 3) := by decide +kernel
theorem x_315_96 : decode (q_code 315) 96 = .ok (.istore 5, 2) := by decide +kernel
theorem x_315_98 : decode (q_code 315) 98 = .ok (.iload 5, 2) := by decide +kernel
theorem x_315_100 : decode (q_code 315) 100 = .ok (.iconst (-1), 1) := by decide +kernel
theorem x_315_101 : decode (q_code 315) 101 = .ok (.if_icmp .ne 7, 3) := by decide +kernel
theorem x_315_104 : decode (q_code 315) 104 = .ok (.iconst 0, 1) := by decide +kernel
theorem x_315_105 : decode (q_code 315) 105 = .ok (.goto 10, 3) := by decide +kernel
theorem x_315_108 : decode (q_code 315) 108 = .ok (.aload_n 0, 1) := by decide +kernel
theorem x_315_109 : decode (q_code 315) 109 = .ok (.iload 5, 2) := by decide +kernel
theorem x_315_111 : decode (q_code 315) 111 = .ok (.iload_n 2, 1) := by decide +kernel
theorem x_315_112 : decode (q_code 315) 112 = .ok (.invokevirtual 492, 3) := by decide +kernel
theorem x_315_115 : decode (q_code 315) 115 = .ok (.ireturn, 1) := by decide +kernel
theorem x_315_116 : decode (q_code 315) 116 = .ok (.aload_n 0, 1) := by decide +kernel
theorem x_315_117 : decode (q_code 315) 117 = .ok (.iload_n 3, 1) := by decide +kernel
theorem x_315_118 : decode (q_code 315) 118 = .ok (.iload 4, 2) := by decide +kernel
theorem x_315_120 : decode (q_code 315) 120 = .ok (.invokevirtual 495, 3) := by decide +kernel
theorem x_315_123 : decode (q_code 315) 123 = .ok (.istore 5, 2) := by decide +kernel
theorem x_315_125 : decode (q_code 315) 125 = .ok (.iload 5, 2) := by decide +kernel
theorem x_315_127 : decode (q_code 315) 127 = .ok (.bipush (-2), 2) := by decide +kernel
theorem x_315_129 : decode (q_code 315) 129 = .ok (.if_icmp .ne 6, 3) := by decide +kernel
theorem x_315_132 : decode (q_code 315) 132 = .ok (.bipush 6, 2) := by decide +kernel
theorem x_315_134 : decode (q_code 315) 134 = .ok (.ireturn, 1) := by decide +kernel
theorem x_315_135 : decode (q_code 315) 135 = .ok (.aload_n 0, 1) := by decide +kernel
theorem x_315_136 : decode (q_code 315) 136 = .ok (.iload_n 1, 1) := by decide +kernel
theorem x_315_137 : decode (q_code 315) 137 = .ok (.ldc_w 429, 3) := by decide +kernel
theorem x_315_140 : decode (q_code 315) 140 = .ok (.invokevirtual 325, 3) := by decide +kernel
theorem x_315_143 : decode (q_code 315) 143 = .ok (.ifCond .ne 20, 3) := by decide +kernel
theorem x_315_146 : decode (q_code 315) 146 = .ok (.iload 5, 2) := by decide +kernel
theorem x_315_148 : decode (q_code 315) 148 = .ok (.iconst (-1), 1) := by decide +kernel
theorem x_315_149 : decode (q_code 315) 149 = .ok (.if_icmp .ne 37, 3) := by decide +kernel
theorem x_315_152 : decode (q_code 315) 152 = .ok (.aload_n 0, 1) := by decide +kernel
theorem x_315_153 : decode (q_code 315) 153 = .ok (.iload_n 1, 1) := by decide +kernel
theorem x_315_154 : decode (q_code 315) 154 = .ok (.ldc_w 433, 3) := by decide +kernel
theorem x_315_157 : decode (q_code 315) 157 = .ok (.invokevirtual 325, 3) := by decide +kernel
theorem x_315_160 : decode (q_code 315) 160 = .ok (.ifCond .eq 26, 3) := by decide +kernel
theorem x_315_163 : decode (q_code 315) 163 = .ok (.aload_n 0, 1) := by decide +kernel
theorem x_315_164 : decode (q_code 315) 164 = .ok (.invokevirtual 477, 3) := by decide +kernel
theorem x_315_167 : decode (q_code 315) 167 = .ok (.aload_n 0, 1) := by decide +kernel
theorem x_315_168 : decode (q_code 315) 168 = .ok (.iload_n 2, 1) := by decide +kernel
theorem x_315_169 : decode (q_code 315) 169 = .ok (.invokevirtual 217, 3) := by decide +kernel
theorem x_315_172 : decode (q_code 315) 172 = .ok (.aload_n 0, 1) := by decide +kernel
theorem x_315_173 : decode (q_code 315) 173 = .ok (.iload 5, 2) := by decide +kernel
theorem x_315_175 : decode (q_code 315) 175 = .ok (.aload_n 0, 1) := by decide +kernel
theorem x_315_176 : decode (q_code 315) 176 = .ok (.getfield 10, 3) := by decide +kernel
theorem x_315_179 : decode (q_code 315) 179 = .ok (.iload_n 2, 1) := by decide +kernel
theorem x_315_180 : decode (q_code 315) 180 = .ok (.baload, 1) := by decide +kernel
theorem x_315_181 : decode (q_code 315) 181 = .ok (.invokevirtual 489, 3) := by decide +kernel
theorem x_315_184 : decode (q_code 315) 184 = .ok (.iconst 0, 1) := by decide +kernel
theorem x_315_185 : decode (q_code 315) 185 = .ok (.ireturn, 1) := by decide +kernel
theorem x_315_186 : decode (q_code 315) 186 = .ok (.aload_n 0, 1) := by decide +kernel
theorem x_315_187 : decode (q_code 315) 187 = .ok (.iload_n 1, 1) := by decide +kernel
theorem x_315_188 : decode (q_code 315) 188 = .ok (.ldc_w 433, 3) := by decide +kernel
theorem x_315_191 : decode (q_code 315) 191 = .ok (.invokevirtual 325, 3) := by decide +kernel
theorem x_315_194 : decode (q_code 315) 194 = .ok (.ifCond .eq 13, 3) := by decide +kernel
theorem x_315_197 : decode (q_code 315) 197 = .ok (.aload_n 0, 1) := by decide +kernel
theorem x_315_198 : decode (q_code 315) 198 = .ok (.iload 5, 2) := by decide +kernel
theorem x_315_200 : decode (q_code 315) 200 = .ok (.iload_n 2, 1) := by decide +kernel
theorem x_315_201 : decode (q_code 315) 201 = .ok (.invokevirtual 498, 3) := by decide +kernel
theorem x_315_204 : decode (q_code 315) 204 = .ok (.goto 18, 3) := by decide +kernel
theorem x_315_207 : decode (q_code 315) 207 = .ok (.aload_n 0, 1) := by decide +kernel
theorem x_315_208 : decode (q_code 315) 208 = .ok (.iload 5, 2) := by decide +kernel
theorem x_315_210 : decode (q_code 315) 210 = .ok (.iload_n 2, 1) := by decide +kernel
theorem x_315_211 : decode (q_code 315) 211 = .ok (.aload_n 0, 1) := by decide +kernel
theorem x_315_212 : decode (q_code 315) 212 = .ok (.iload_n 1, 1) := by decide +kernel
theorem x_315_213 : decode (q_code 315) 213 = .ok (.ldc_w 439, 3) := by decide +kernel
theorem x_315_216 : decode (q_code 315) 216 = .ok (.invokevirtual 325, 3) := by decide +kernel
theorem x_315_219 : decode (q_code 315) 219 = .ok (.invokevirtual 501, 3) := by decide +kernel
theorem x_315_222 : decode (q_code 315) 222 = .ok (.ireturn, 1) := by decide +kernel
theorem x_316_0 : decode (q_code 316) 0 = .ok (.aload_n 0, 1) := by decide +kernel
theorem x_316_1 : decode (q_code 316) 1 = .ok (.iload_n 1, 1) := by decide +kernel
theorem x_316_2 : decode (q_code 316) 2 = .ok (.invokevirtual 387, 3) := by decide +kernel
theorem x_316_5 : decode (q_code 316) 5 = .ok (.ifCond .ne 6, 3) := by decide +kernel
theorem x_316_8 : decode (q_code 316) 8 = .ok (.bipush 7, 2) := by decide +kernel
theorem x_316_10 : decode (q_code 316) 10 = .ok (.ireturn, 1) := by decide +kernel
theorem x_316_11 : decode (q_code 316) 11 = .ok (.aload_n 0, 1) := by decide +kernel
theorem x_316_12 : decode (q_code 316) 12 = .ok (.iload_n 1, 1) := by decide +kernel
theorem x_316_13 : decode (q_code 316) 13 = .ok (.invokevirtual 273, 3) := by decide +kernel
theorem x_316_16 : decode (q_code 316) 16 = .ok (.lstore_n 3, 1) := by decide +kernel
theorem x_316_17 : decode (q_code 316) 17 = .ok (.aload_n 0, 1) := by decide +kernel
theorem x_316_18 : decode (q_code 316) 18 = .ok (.iload_n 2, 1) := by decide +kernel
theorem x_316_19 : decode (q_code 316) 19 = .ok (.invokevirtual 273, 3) := by decide +kernel
theorem x_316_22 : decode (q_code 316) 22 = .ok (.lstore 5, 2) := by decide +kernel
theorem x_316_24 : decode (q_code 316) 24 = .ok (.lload_n 3, 1) := by decide +kernel
theorem x_316_25 : decode (q_code 316) 25 = .ok (.lload 5, 2) := by decide +kernel
theorem x_316_27 : decode (q_code 316) 27 = .ok (.ladd, 1) := by decide +kernel
theorem x_316_28 : decode (q_code 316) 28 = .ok (.lstore 7, 2) := by decide +kernel
theorem x_316_30 : decode (q_code 316) 30 = .ok (.lload_n 3, 1) := by decide +kernel
theorem x_316_31 : decode (q_code 316) 31 = .ok (.lload 7, 2) := by decide +kernel
theorem x_316_33 : decode (q_code 316) 33 = .ok (.lxor, 1) := by decide +kernel
theorem x_316_34 : decode (q_code 316) 34 = .ok (.lload 5, 2) := by decide +kernel
theorem x_316_36 : decode (q_code 316) 36 = .ok (.lload 7, 2) := by decide +kernel
theorem x_316_38 : decode (q_code 316) 38 = .ok (.lxor, 1) := by decide +kernel
theorem x_316_39 : decode (q_code 316) 39 = .ok (.land, 1) := by decide +kernel
theorem x_316_40 : decode (q_code 316) 40 = .ok (.lconst 0, 1) := by decide +kernel
theorem x_316_41 : decode (q_code 316) 41 = .ok (.lcmp, 1) := by decide +kernel
theorem x_316_42 : decode (q_code 316) 42 = .ok (.ifCond .ge 6, 3) := by decide +kernel
theorem x_316_45 : decode (q_code 316) 45 = .ok (.bipush 8, 2) := by decide +kernel
theorem x_316_47 : decode (q_code 316) 47 = .ok (.ireturn, 1) := by decide +kernel
theorem x_316_48 : decode (q_code 316) 48 = .ok (.aload_n 0, 1) := by decide +kernel
theorem x_316_49 : decode (q_code 316) 49 = .ok (.getfield 10, 3) := by decide +kernel
theorem x_316_52 : decode (q_code 316) 52 = .ok (.iload_n 1, 1) := by decide +kernel
theorem x_316_53 : decode (q_code 316) 53 = .ok (.baload, 1) := by decide +kernel
theorem x_316_54 : decode (q_code 316) 54 = .ok (.bipush 16, 2) := by decide +kernel
theorem x_316_56 : decode (q_code 316) 56 = .ok (.if_icmp .ne 36, 3) := by decide +kernel
theorem x_316_59 : decode (q_code 316) 59 = .ok (.aload_n 0, 1) := by decide +kernel
theorem x_316_60 : decode (q_code 316) 60 = .ok (.getfield 10, 3) := by decide +kernel
theorem x_316_63 : decode (q_code 316) 63 = .ok (.iload_n 2, 1) := by decide +kernel
theorem x_316_64 : decode (q_code 316) 64 = .ok (.baload, 1) := by decide +kernel
theorem x_316_65 : decode (q_code 316) 65 = .ok (.bipush 16, 2) := by decide +kernel
theorem x_316_67 : decode (q_code 316) 67 = .ok (.if_icmp .ne 25, 3) := by decide +kernel
theorem x_316_70 : decode (q_code 316) 70 = .ok (.lload 7, 2) := by decide +kernel
theorem x_316_72 : decode (q_code 316) 72 = .ok (.ldc2_w 504, 3) := by decide +kernel
theorem x_316_75 : decode (q_code 316) 75 = .ok (.lcmp, 1) := by decide +kernel
theorem x_316_76 : decode (q_code 316) 76 = .ok (.ifCond .lt 16, 3) := by decide +kernel
theorem x_316_79 : decode (q_code 316) 79 = .ok (.lload 7, 2) := by decide +kernel
theorem x_316_81 : decode (q_code 316) 81 = .ok (.ldc2_w 506, 3) := by decide +kernel
theorem x_316_84 : decode (q_code 316) 84 = .ok (.lcmp, 1) := by decide +kernel
theorem x_316_85 : decode (q_code 316) 85 = .ok (.ifCond .gt 7, 3) := by decide +kernel
theorem x_316_88 : decode (q_code 316) 88 = .ok (.iconst 1, 1) := by decide +kernel
theorem x_316_89 : decode (q_code 316) 89 = .ok (.goto 4, 3) := by decide +kernel
theorem x_316_92 : decode (q_code 316) 92 = .ok (.iconst 0, 1) := by decide +kernel
theorem x_316_93 : decode (q_code 316) 93 = .ok (.istore 9, 2) := by decide +kernel
theorem x_316_95 : decode (q_code 316) 95 = .ok (.aload_n 0, 1) := by decide +kernel
theorem x_316_96 : decode (q_code 316) 96 = .ok (.invokevirtual 477, 3) := by decide +kernel
theorem x_316_99 : decode (q_code 316) 99 = .ok (.aload_n 0, 1) := by decide +kernel
theorem x_316_100 : decode (q_code 316) 100 = .ok (.lload 7, 2) := by decide +kernel
theorem x_316_102 : decode (q_code 316) 102 = .ok (.l2i, 1) := by decide +kernel
theorem x_316_103 : decode (q_code 316) 103 = .ok (.invokevirtual 207, 3) := by decide +kernel
theorem x_316_106 : decode (q_code 316) 106 = .ok (.iload 9, 2) := by decide +kernel
theorem x_316_108 : decode (q_code 316) 108 = .ok (.ifCond .ne 13, 3) := by decide +kernel
theorem x_316_111 : decode (q_code 316) 111 = .ok (.aload_n 0, 1) := by decide +kernel
theorem x_316_112 : decode (q_code 316) 112 = .ok (.lload 7, 2) := by decide +kernel
theorem x_316_114 : decode (q_code 316) 114 = .ok (.bipush 32, 2) := by decide +kernel
theorem x_316_116 : decode (q_code 316) 116 = .ok (.lshr, 1) := by decide +kernel
theorem x_316_117 : decode (q_code 316) 117 = .ok (.l2i, 1) := by decide +kernel
theorem x_316_118 : decode (q_code 316) 118 = .ok (.invokevirtual 207, 3) := by decide +kernel
theorem x_316_121 : decode (q_code 316) 121 = .ok (.aload_n 0, 1) := by decide +kernel
theorem x_316_122 : decode (q_code 316) 122 = .ok (.iload_n 1, 1) := by decide +kernel
theorem x_316_123 : decode (q_code 316) 123 = .ok (.iload 9, 2) := by decide +kernel
theorem x_316_125 : decode (q_code 316) 125 = .ok (.ifCond .eq 8, 3) := by decide +kernel
theorem x_316_128 : decode (q_code 316) 128 = .ok (.bipush 16, 2) := by decide +kernel
theorem x_316_130 : decode (q_code 316) 130 = .ok (.goto 5, 3) := by decide +kernel
theorem x_316_133 : decode (q_code 316) 133 = .ok (.bipush 18, 2) := by decide +kernel
theorem x_316_135 : decode (q_code 316) 135 = .ok (.invokevirtual 489, 3) := by decide +kernel
theorem x_316_138 : decode (q_code 316) 138 = .ok (.iconst 0, 1) := by decide +kernel
theorem x_316_139 : decode (q_code 316) 139 = .ok (.ireturn, 1) := by decide +kernel
theorem x_317_0 : decode (q_code 317) 0 = .ok (.iload_n 1, 1) := by decide +kernel
theorem x_317_1 : decode (q_code 317) 1 = .ok (.iconst (-1), 1) := by decide +kernel
theorem x_317_2 : decode (q_code 317) 2 = .ok (.if_icmp .ne 47, 3) := by decide +kernel
theorem x_317_5 : decode (q_code 317) 5 = .ok (.aload_n 0, 1) := by decide +kernel
theorem x_317_6 : decode (q_code 317) 6 = .ok (.invokevirtual 477, 3) := by decide +kernel
theorem x_317_9 : decode (q_code 317) 9 = .ok (.aload_n 0, 1) := by decide +kernel
theorem x_317_10 : decode (q_code 317) 10 = .ok (.invokevirtual 508, 3) := by decide +kernel
theorem x_317_13 : decode (q_code 317) 13 = .ok (.istore 4, 2) := by decide +kernel
theorem x_317_15 : decode (q_code 317) 15 = .ok (.aload_n 0, 1) := by decide +kernel
theorem x_317_16 : decode (q_code 317) 16 = .ok (.aload_n 0, 1) := by decide +kernel
theorem x_317_17 : decode (q_code 317) 17 = .ok (.getfield 10, 3) := by decide +kernel
theorem x_317_20 : decode (q_code 317) 20 = .ok (.iload_n 2, 1) := by decide +kernel
theorem x_317_21 : decode (q_code 317) 21 = .ok (.baload, 1) := by decide +kernel
theorem x_317_22 : decode (q_code 317) 22 = .ok (.invokevirtual 204, 3) := by decide +kernel
theorem x_317_25 : decode (q_code 317) 25 = .ok (.aload_n 0, 1) := by decide +kernel
theorem x_317_26 : decode (q_code 317) 26 = .ok (.iconst 0, 1) := by decide +kernel
theorem x_317_27 : decode (q_code 317) 27 = .ok (.invokevirtual 511, 3) := by decide +kernel
theorem x_317_30 : decode (q_code 317) 30 = .ok (.aload_n 0, 1) := by decide +kernel
theorem x_317_31 : decode (q_code 317) 31 = .ok (.iload_n 2, 1) := by decide +kernel
theorem x_317_32 : decode (q_code 317) 32 = .ok (.invokevirtual 217, 3) := by decide +kernel
theorem x_317_35 : decode (q_code 317) 35 = .ok (.aload_n 0, 1) := by decide +kernel
theorem x_317_36 : decode (q_code 317) 36 = .ok (.iload 4, 2) := by decide +kernel
theorem x_317_38 : decode (q_code 317) 38 = .ok (.invokevirtual 514, 3) := by decide +kernel
theorem x_317_41 : decode (q_code 317) 41 = .ok (.aload_n 0, 1) := by decide +kernel
theorem x_317_42 : decode (q_code 317) 42 = .ok (.iload_n 1, 1) := by decide +kernel
theorem x_317_43 : decode (q_code 317) 43 = .ok (.iconst 4, 1) := by decide +kernel
theorem x_317_44 : decode (q_code 317) 44 = .ok (.invokevirtual 489, 3) := by decide +kernel
theorem x_317_47 : decode (q_code 317) 47 = .ok (.iconst 0, 1) := by decide +kernel
theorem x_317_48 : decode (q_code 317) 48 = .ok (.ireturn, 1) := by decide +kernel
theorem x_317_49 : decode (q_code 317) 49 = .ok (.aload_n 0, 1) := by decide +kernel
theorem x_317_50 : decode (q_code 317) 50 = .ok (.getfield 10, 3) := by decide +kernel
theorem x_317_53 : decode (q_code 317) 53 = .ok (.iload_n 1, 1) := by decide +kernel
theorem x_317_54 : decode (q_code 317) 54 = .ok (.baload, 1) := by decide +kernel
theorem x_317_55 : decode (q_code 317) 55 = .ok (.iconst 4, 1) := by decide +kernel
theorem x_317_56 : decode (q_code 317) 56 = .ok (.if_icmp .eq 6, 3) := by decide +kernel
theorem x_317_59 : decode (q_code 317) 59 = .ok (.bipush 7, 2) := by decide +kernel
theorem x_317_61 : decode (q_code 317) 61 = .ok (.ireturn, 1) := by decide +kernel
theorem x_317_62 : decode (q_code 317) 62 = .ok (.aload_n 0, 1) := by decide +kernel
theorem x_317_63 : decode (q_code 317) 63 = .ok (.iload_n 1, 1) := by decide +kernel
theorem x_317_64 : decode (q_code 317) 64 = .ok (.invokevirtual 163, 3) := by decide +kernel
theorem x_317_67 : decode (q_code 317) 67 = .ok (.invokestatic 174, 3) := by decide +kernel
theorem x_317_70 : decode (q_code 317) 70 = .ok (.istore 4, 2) := by decide +kernel
theorem x_317_72 : decode (q_code 317) 72 = .ok (.iload 4, 2) := by decide +kernel
theorem x_317_74 : decode (q_code 317) 74 = .ok (.aload_n 0, 1) := by decide +kernel
theorem x_317_75 : decode (q_code 317) 75 = .ok (.aload_n 0, 1) := by decide +kernel
theorem x_317_76 : decode (q_code 317) 76 = .ok (.iload_n 1, 1) := by decide +kernel
theorem x_317_77 : decode (q_code 317) 77 = .ok (.invokevirtual 163, 3) := by decide +kernel
theorem x_317_80 : decode (q_code 317) 80 = .ok (.invokevirtual 177, 3) := by decide +kernel
theorem x_317_83 : decode (q_code 317) 83 = .ok (.if_icmp .ge 30, 3) := by decide +kernel
theorem x_317_86 : decode (q_code 317) 86 = .ok (.iload_n 3, 1) := by decide +kernel
theorem x_317_87 : decode (q_code 317) 87 = .ok (.ifCond .eq 26, 3) := by decide +kernel
theorem x_317_90 : decode (q_code 317) 90 = .ok (.aload_n 0, 1) := by decide +kernel
theorem x_317_91 : decode (q_code 317) 91 = .ok (.iload 4, 2) := by decide +kernel
theorem x_317_93 : decode (q_code 317) 93 = .ok (.iload_n 2, 1) := by decide +kernel
theorem x_317_94 : decode (q_code 317) 94 = .ok (.invokevirtual 423, 3) := by decide +kernel
theorem x_317_97 : decode (q_code 317) 97 = .ok (.ifCond .eq 5, 3) := by decide +kernel
theorem x_317_100 : decode (q_code 317) 100 = .ok (.iconst 0, 1) := by decide +kernel
theorem x_317_101 : decode (q_code 317) 101 = .ok (.ireturn, 1) := by decide +kernel
theorem x_317_102 : decode (q_code 317) 102 = .ok (.aload_n 0, 1) := by decide +kernel
theorem x_317_103 : decode (q_code 317) 103 = .ok (.iload 4, 2) := by decide +kernel
theorem x_317_105 : decode (q_code 317) 105 = .ok (.invokevirtual 180, 3) := by decide +kernel
theorem x_317_108 : decode (q_code 317) 108 = .ok (.istore 4, 2) := by decide +kernel
theorem x_317_110 : decode (q_code 317) 110 = .ok (.goto (-38), 3) := by decide +kernel
theorem x_317_113 : decode (q_code 317) 113 = .ok (.aload_n 0, 1) := by decide +kernel
theorem x_317_114 : decode (q_code 317) 114 = .ok (.aload_n 0, 1) := by decide +kernel
theorem x_317_115 : decode (q_code 317) 115 = .ok (.iload_n 1, 1) := by decide +kernel
theorem x_317_116 : decode (q_code 317) 116 = .ok (.invokevirtual 163, 3) := by decide +kernel
theorem x_317_119 : decode (q_code 317) 119 = .ok (.invokevirtual 360, 3) := by decide +kernel
theorem x_317_122 : decode (q_code 317) 122 = .ok (.istore 4, 2) := by decide +kernel
theorem x_317_124 : decode (q_code 317) 124 = .ok (.aload_n 0, 1) := by decide +kernel
theorem x_317_125 : decode (q_code 317) 125 = .ok (.iload_n 1, 1) := by decide +kernel
theorem x_317_126 : decode (q_code 317) 126 = .ok (.invokevirtual 483, 3) := by decide +kernel
theorem x_317_129 : decode (q_code 317) 129 = .ok (.aload_n 0, 1) := by decide +kernel
theorem x_317_130 : decode (q_code 317) 130 = .ok (.invokevirtual 477, 3) := by decide +kernel
theorem x_317_133 : decode (q_code 317) 133 = .ok (.aload_n 0, 1) := by decide +kernel
theorem x_317_134 : decode (q_code 317) 134 = .ok (.aload_n 0, 1) := by decide +kernel
theorem x_317_135 : decode (q_code 317) 135 = .ok (.getfield 10, 3) := by decide +kernel
theorem x_317_138 : decode (q_code 317) 138 = .ok (.iload_n 2, 1) := by decide +kernel
theorem x_317_139 : decode (q_code 317) 139 = .ok (.baload, 1) := by decide +kernel
theorem x_317_140 : decode (q_code 317) 140 = .ok (.invokevirtual 204, 3) := by decide +kernel
theorem x_317_143 : decode (q_code 317) 143 = .ok (.aload_n 0, 1) := by decide +kernel
theorem x_317_144 : decode (q_code 317) 144 = .ok (.iload 4, 2) := by decide +kernel
theorem x_317_146 : decode (q_code 317) 146 = .ok (.invokevirtual 511, 3) := by decide +kernel
theorem x_317_149 : decode (q_code 317) 149 = .ok (.aload_n 0, 1) := by decide +kernel
theorem x_317_150 : decode (q_code 317) 150 = .ok (.iload_n 2, 1) := by decide +kernel
theorem x_317_151 : decode (q_code 317) 151 = .ok (.invokevirtual 217, 3) := by decide +kernel
theorem x_317_154 : decode (q_code 317) 154 = .ok (.aload_n 0, 1) := by decide +kernel
theorem x_317_155 : decode (q_code 317) 155 = .ok (.invokevirtual 480, 3) := by decide +kernel
theorem x_317_158 : decode (q_code 317) 158 = .ok (.pop, 1) := by decide +kernel
theorem x_317_159 : decode (q_code 317) 159 = .ok (.iconst 0, 1) := by decide +kernel
theorem x_317_160 : decode (q_code 317) 160 = .ok (.ireturn, 1) := by decide +kernel
theorem x_318_0 : decode (q_code 318) 0 = .ok (.aload_n 0, 1) := by decide +kernel
theorem x_318_1 : decode (q_code 318) 1 = .ok (.getfield 10, 3) := by decide +kernel
theorem x_318_4 : decode (q_code 318) 4 = .ok (.iload_n 1, 1) := by decide +kernel
theorem x_318_5 : decode (q_code 318) 5 = .ok (.baload, 1) := by decide +kernel
theorem x_318_6 : decode (q_code 318) 6 = .ok (.iconst 4, 1) := by decide +kernel
theorem x_318_7 : decode (q_code 318) 7 = .ok (.if_icmp .eq 6, 3) := by decide +kernel
theorem x_318_10 : decode (q_code 318) 10 = .ok (.bipush 7, 2) := by decide +kernel
theorem x_318_12 : decode (q_code 318) 12 = .ok (.ireturn, 1) := by decide +kernel
theorem x_318_13 : decode (q_code 318) 13 = .ok (.aload_n 0, 1) := by decide +kernel
theorem x_318_14 : decode (q_code 318) 14 = .ok (.invokevirtual 477, 3) := by decide +kernel
theorem x_318_17 : decode (q_code 318) 17 = .ok (.aload_n 0, 1) := by decide +kernel
theorem x_318_18 : decode (q_code 318) 18 = .ok (.invokevirtual 508, 3) := by decide +kernel
theorem x_318_21 : decode (q_code 318) 21 = .ok (.istore_n 3, 1) := by decide +kernel
theorem x_318_22 : decode (q_code 318) 22 = .ok (.iconst 0, 1) := by decide +kernel
theorem x_318_23 : decode (q_code 318) 23 = .ok (.istore 4, 2) := by decide +kernel
theorem x_318_25 : decode (q_code 318) 25 = .ok (.aload_n 0, 1) := by decide +kernel
theorem x_318_26 : decode (q_code 318) 26 = .ok (.iload_n 1, 1) := by decide +kernel
theorem x_318_27 : decode (q_code 318) 27 = .ok (.invokevirtual 163, 3) := by decide +kernel
theorem x_318_30 : decode (q_code 318) 30 = .ok (.invokestatic 174, 3) := by decide +kernel
theorem x_318_33 : decode (q_code 318) 33 = .ok (.istore 5, 2) := by decide +kernel
theorem x_318_35 : decode (q_code 318) 35 = .ok (.iload 5, 2) := by decide +kernel
theorem x_318_37 : decode (q_code 318) 37 = .ok (.aload_n 0, 1) := by decide +kernel
theorem x_318_38 : decode (q_code 318) 38 = .ok (.aload_n 0, 1) := by decide +kernel
theorem x_318_39 : decode (q_code 318) 39 = .ok (.iload_n 1, 1) := by decide +kernel
theorem x_318_40 : decode (q_code 318) 40 = .ok (.invokevirtual 163, 3) := by decide +kernel
theorem x_318_43 : decode (q_code 318) 43 = .ok (.invokevirtual 177, 3) := by decide +kernel
theorem x_318_46 : decode (q_code 318) 46 = .ok (.if_icmp .ge 53, 3) := by decide +kernel
theorem x_318_49 : decode (q_code 318) 49 = .ok (.aload_n 0, 1) := by decide +kernel
theorem x_318_50 : decode (q_code 318) 50 = .ok (.iload 5, 2) := by decide +kernel
theorem x_318_52 : decode (q_code 318) 52 = .ok (.iload_n 2, 1) := by decide +kernel
theorem x_318_53 : decode (q_code 318) 53 = .ok (.invokevirtual 423, 3) := by decide +kernel
theorem x_318_56 : decode (q_code 318) 56 = .ok (.ifCond .eq 6, 3) := by decide +kernel
theorem x_318_59 : decode (q_code 318) 59 = .ok (.goto 29, 3) := by decide +kernel
theorem x_318_62 : decode (q_code 318) 62 = .ok (.aload_n 0, 1) := by decide +kernel
theorem x_318_63 : decode (q_code 318) 63 = .ok (.aload_n 0, 1) := by decide +kernel
theorem x_318_64 : decode (q_code 318) 64 = .ok (.getfield 10, 3) := by decide +kernel
theorem x_318_67 : decode (q_code 318) 67 = .ok (.iload 5, 2) := by decide +kernel
theorem x_318_69 : decode (q_code 318) 69 = .ok (.baload, 1) := by decide +kernel
theorem x_318_70 : decode (q_code 318) 70 = .ok (.invokevirtual 204, 3) := by decide +kernel
theorem x_318_73 : decode (q_code 318) 73 = .ok (.aload_n 0, 1) := by decide +kernel
theorem x_318_74 : decode (q_code 318) 74 = .ok (.iload 4, 2) := by decide +kernel
theorem x_318_76 : decode (q_code 318) 76 = .ok (.invokevirtual 511, 3) := by decide +kernel
theorem x_318_79 : decode (q_code 318) 79 = .ok (.aload_n 0, 1) := by decide +kernel
theorem x_318_80 : decode (q_code 318) 80 = .ok (.iload 5, 2) := by decide +kernel
theorem x_318_82 : decode (q_code 318) 82 = .ok (.invokevirtual 217, 3) := by decide +kernel
theorem x_318_85 : decode (q_code 318) 85 = .ok (.iinc 4 1, 3) := by decide +kernel
theorem x_318_88 : decode (q_code 318) 88 = .ok (.aload_n 0, 1) := by decide +kernel
theorem x_318_89 : decode (q_code 318) 89 = .ok (.iload 5, 2) := by decide +kernel
theorem x_318_91 : decode (q_code 318) 91 = .ok (.invokevirtual 180, 3) := by decide +kernel
theorem x_318_94 : decode (q_code 318) 94 = .ok (.istore 5, 2) := by decide +kernel
theorem x_318_96 : decode (q_code 318) 96 = .ok (.goto (-61), 3) := by decide +kernel
theorem x_318_99 : decode (q_code 318) 99 = .ok (.aload_n 0, 1) := by decide +kernel
theorem x_318_100 : decode (q_code 318) 100 = .ok (.iload_n 3, 1) := by decide +kernel
theorem x_318_101 : decode (q_code 318) 101 = .ok (.invokevirtual 514, 3) := by decide +kernel
theorem x_318_104 : decode (q_code 318) 104 = .ok (.aload_n 0, 1) := by decide +kernel
theorem x_318_105 : decode (q_code 318) 105 = .ok (.aload_n 0, 1) := by decide +kernel
theorem x_318_106 : decode (q_code 318) 106 = .ok (.iload_n 1, 1) := by decide +kernel
theorem x_318_107 : decode (q_code 318) 107 = .ok (.invokevirtual 163, 3) := by decide +kernel
theorem x_318_110 : decode (q_code 318) 110 = .ok (.aload_n 0, 1) := by decide +kernel
theorem x_318_111 : decode (q_code 318) 111 = .ok (.aload_n 0, 1) := by decide +kernel
theorem x_318_112 : decode (q_code 318) 112 = .ok (.iload_n 1, 1) := by decide +kernel
theorem x_318_113 : decode (q_code 318) 113 = .ok (.invokevirtual 163, 3) := by decide +kernel
theorem x_318_116 : decode (q_code 318) 116 = .ok (.invokevirtual 145, 3) := by decide +kernel
theorem x_318_119 : decode (q_code 318) 119 = .ok (.invokevirtual 459, 3) := by decide +kernel
theorem x_318_122 : decode (q_code 318) 122 = .ok (.iconst 0, 1) := by decide +kernel
theorem x_318_123 : decode (q_code 318) 123 = .ok (.ireturn, 1) := by decide +kernel
theorem x_319_0 : decode (q_code 319) 0 = .ok (.iconst 0, 1) := by decide +kernel
theorem x_319_1 : decode (q_code 319) 1 = .ok (.istore 4, 2) := by decide +kernel
theorem x_319_3 : decode (q_code 319) 3 = .ok (.iload 4, 2) := by decide +kernel
theorem x_319_5 : decode (q_code 319) 5 = .ok (.iload_n 3, 1) := by decide +kernel
theorem x_319_6 : decode (q_code 319) 6 = .ok (.if_icmp .ge 27, 3) := by decide +kernel
theorem x_319_9 : decode (q_code 319) 9 = .ok (.aload_n 0, 1) := by decide +kernel
theorem x_319_10 : decode (q_code 319) 10 = .ok (.getfield 10, 3) := by decide +kernel
theorem x_319_13 : decode (q_code 319) 13 = .ok (.iload_n 2, 1) := by decide +kernel
theorem x_319_14 : decode (q_code 319) 14 = .ok (.iload 4, 2) := by decide +kernel
theorem x_319_16 : decode (q_code 319) 16 = .ok (.iadd, 1) := by decide +kernel
theorem x_319_17 : decode (q_code 319) 17 = .ok (.aload_n 0, 1) := by decide +kernel
theorem x_319_18 : decode (q_code 319) 18 = .ok (.getfield 10, 3) := by decide +kernel
theorem x_319_21 : decode (q_code 319) 21 = .ok (.iload_n 1, 1) := by decide +kernel
theorem x_319_22 : decode (q_code 319) 22 = .ok (.iload 4, 2) := by decide +kernel
theorem x_319_24 : decode (q_code 319) 24 = .ok (.iadd, 1) := by decide +kernel
theorem x_319_25 : decode (q_code 319) 25 = .ok (.baload, 1) := by decide +kernel
theorem x_319_26 : decode (q_code 319) 26 = .ok (.bastore, 1) := by decide +kernel
theorem x_319_27 : decode (q_code 319) 27 = .ok (.iinc 4 1, 3) := by decide +kernel
theorem x_319_30 : decode (q_code 319) 30 = .ok (.goto (-27), 3) := by decide +kernel
theorem x_319_33 : decode (q_code 319) 33 = .ok (.return_, 1) := by decide +kernel
theorem x_320_0 : decode (q_code 320) 0 = .ok (.aload_n 0, 1) := by decide +kernel
theorem x_320_1 : decode (q_code 320) 1 = .ok (.iload_n 2, 1) := by decide +kernel
theorem x_320_2 : decode (q_code 320) 2 = .ok (.ldc_w 451, 3) := by decide +kernel
theorem x_320_5 : decode (q_code 320) 5 = .ok (.aload_n 0, 1) := by decide +kernel
theorem x_320_6 : decode (q_code 320) 6 = .ok (.iload_n 2, 1) := by decide +kernel
theorem x_320_7 : decode (q_code 320) 7 = .ok (.invokevirtual 145, 3) := by decide +kernel
theorem x_320_10 : decode (q_code 320) 10 = .ok (.invokevirtual 517, 3) := by decide +kernel
theorem x_320_13 : decode (q_code 320) 13 = .ok (.aload_n 0, 1) := by decide +kernel
theorem x_320_14 : decode (q_code 320) 14 = .ok (.iconst 0, 1) := by decide +kernel
theorem x_320_15 : decode (q_code 320) 15 = .ok (.putfield 520, 3) := by decide +kernel
theorem x_320_18 : decode (q_code 320) 18 = .ok (.iload_n 1, 1) := by decide +kernel
theorem x_320_19 : decode (q_code 320) 19 = .ok (.invokestatic 174, 3) := by decide +kernel
theorem x_320_22 : decode (q_code 320) 22 = .ok (.istore_n 3, 1) := by decide +kernel
theorem x_320_23 : decode (q_code 320) 23 = .ok (.iload_n 3, 1) := by decide +kernel
theorem x_320_24 : decode (q_code 320) 24 = .ok (.aload_n 0, 1) := by decide +kernel
theorem x_320_25 : decode (q_code 320) 25 = .ok (.iload_n 1, 1) := by decide +kernel
theorem x_320_26 : decode (q_code 320) 26 = .ok (.invokevirtual 177, 3) := by decide +kernel
theorem x_320_29 : decode (q_code 320) 29 = .ok (.if_icmp .ge 136, 3) := by decide +kernel
theorem x_320_32 : decode (q_code 320) 32 = .ok (.aload_n 0, 1) := by decide +kernel
theorem x_320_33 : decode (q_code 320) 33 = .ok (.iload_n 3, 1) := by decide +kernel
theorem x_320_34 : decode (q_code 320) 34 = .ok (.invokevirtual 163, 3) := by decide +kernel
theorem x_320_37 : decode (q_code 320) 37 = .ok (.invokestatic 174, 3) := by decide +kernel
theorem x_320_40 : decode (q_code 320) 40 = .ok (.istore 4, 2) := by decide +kernel
theorem x_320_42 : decode (q_code 320) 42 = .ok (.iload 4, 2) := by decide +kernel
theorem x_320_44 : decode (q_code 320) 44 = .ok (.aload_n 0, 1) := by decide +kernel
theorem x_320_45 : decode (q_code 320) 45 = .ok (.aload_n 0, 1) := by decide +kernel
theorem x_320_46 : decode (q_code 320) 46 = .ok (.iload_n 3, 1) := by decide +kernel
theorem x_320_47 : decode (q_code 320) 47 = .ok (.invokevirtual 163, 3) := by decide +kernel
theorem x_320_50 : decode (q_code 320) 50 = .ok (.invokevirtual 177, 3) := by decide +kernel
theorem x_320_53 : decode (q_code 320) 53 = .ok (.if_icmp .ge 103, 3) := by decide +kernel
theorem x_320_56 : decode (q_code 320) 56 = .ok (.aload_n 0, 1) := by decide +kernel
theorem x_320_57 : decode (q_code 320) 57 = .ok (.ldc_w 451, 3) := by decide +kernel
theorem x_320_60 : decode (q_code 320) 60 = .ok (.ldc_w 523, 3) := by decide +kernel
theorem x_320_63 : decode (q_code 320) 63 = .ok (.aload_n 0, 1) := by decide +kernel
theorem x_320_64 : decode (q_code 320) 64 = .ok (.ldc_w 451, 3) := by decide +kernel
theorem x_320_67 : decode (q_code 320) 67 = .ok (.invokevirtual 145, 3) := by decide +kernel
theorem x_320_70 : decode (q_code 320) 70 = .ok (.invokevirtual 517, 3) := by decide +kernel
theorem x_320_73 : decode (q_code 320) 73 = .ok (.aload_n 0, 1) := by decide +kernel
theorem x_320_74 : decode (q_code 320) 74 = .ok (.iload_n 3, 1) := by decide +kernel
theorem x_320_75 : decode (q_code 320) 75 = .ok (.iload 4, 2) := by decide +kernel
theorem x_320_77 : decode (q_code 320) 77 = .ok (.invokevirtual 524, 3) := by decide +kernel
theorem x_320_80 : decode (q_code 320) 80 = .ok (.istore 5, 2) := by decide +kernel
theorem x_320_82 : decode (q_code 320) 82 = .ok (.iload 5, 2) := by decide +kernel
theorem x_320_84 : decode (q_code 320) 84 = .ok (.ifCond .le 12, 3) := by decide +kernel
theorem x_320_87 : decode (q_code 320) 87 = .ok (.aload_n 0, 1) := by decide +kernel
theorem x_320_88 : decode (q_code 320) 88 = .ok (.iload 5, 2) := by decide +kernel
theorem x_320_90 : decode (q_code 320) 90 = .ok (.iload 4, 2) := by decide +kernel
theorem x_320_92 : decode (q_code 320) 92 = .ok (.invokevirtual 237, 3) := by decide +kernel
theorem x_320_95 : decode (q_code 320) 95 = .ok (.ireturn, 1) := by decide +kernel
theorem x_320_96 : decode (q_code 320) 96 = .ok (.aload_n 0, 1) := by decide +kernel
theorem x_320_97 : decode (q_code 320) 97 = .ok (.dup, 1) := by decide +kernel
theorem x_320_98 : decode (q_code 320) 98 = .ok (.getfield 520, 3) := by decide +kernel
theorem x_320_101 : decode (q_code 320) 101 = .ok (.aload_n 0, 1) := by decide +kernel
theorem x_320_102 : decode (q_code 320) 102 = .ok (.ldc_w 451, 3) := by decide +kernel
theorem x_320_105 : decode (q_code 320) 105 = .ok (.ldc_w 451, 3) := by decide +kernel
theorem x_320_108 : decode (q_code 320) 108 = .ok (.aload_n 0, 1) := by decide +kernel
theorem x_320_109 : decode (q_code 320) 109 = .ok (.ldc_w 451, 3) := by decide +kernel
theorem x_320_112 : decode (q_code 320) 112 = .ok (.invokevirtual 145, 3) := by decide +kernel
theorem x_320_115 : decode (q_code 320) 115 = .ok (.iadd, 1) := by decide +kernel
theorem x_320_116 : decode (q_code 320) 116 = .ok (.ldc_w 523, 3) := by decide +kernel
theorem x_320_119 : decode (q_code 320) 119 = .ok (.ldc_w 523, 3) := by decide +kernel
theorem x_320_122 : decode (q_code 320) 122 = .ok (.aload_n 0, 1) := by decide +kernel
theorem x_320_123 : decode (q_code 320) 123 = .ok (.ldc_w 523, 3) := by decide +kernel
theorem x_320_126 : decode (q_code 320) 126 = .ok (.invokevirtual 145, 3) := by decide +kernel
theorem x_320_129 : decode (q_code 320) 129 = .ok (.iadd, 1) := by decide +kernel
theorem x_320_130 : decode (q_code 320) 130 = .ok (.invokevirtual 183, 3) := by decide +kernel
theorem x_320_133 : decode (q_code 320) 133 = .ok (.ifCond .ne 7, 3) := by decide +kernel
theorem x_320_136 : decode (q_code 320) 136 = .ok (.iconst 1, 1) := by decide +kernel
theorem x_320_137 : decode (q_code 320) 137 = .ok (.goto 4, 3) := by decide +kernel
theorem x_320_140 : decode (q_code 320) 140 = .ok (.iconst 0, 1) := by decide +kernel
theorem x_320_141 : decode (q_code 320) 141 = .ok (.ior, 1) := by decide +kernel
theorem x_320_142 : decode (q_code 320) 142 = .ok (.putfield 520, 3) := by decide +kernel
theorem x_320_145 : decode (q_code 320) 145 = .ok (.aload_n 0, 1) := by decide +kernel
theorem x_320_146 : decode (q_code 320) 146 = .ok (.iload 4, 2) := by decide +kernel
theorem x_320_148 : decode (q_code 320) 148 = .ok (.invokevirtual 180, 3) := by decide +kernel
theorem x_320_151 : decode (q_code 320) 151 = .ok (.istore 4, 2) := by decide +kernel
theorem x_320_153 : decode (q_code 320) 153 = .ok (.goto (-111), 3) := by decide +kernel
theorem x_320_156 : decode (q_code 320) 156 = .ok (.aload_n 0, 1) := by decide +kernel
theorem x_320_157 : decode (q_code 320) 157 = .ok (.iload_n 3, 1) := by decide +kernel
theorem x_320_158 : decode (q_code 320) 158 = .ok (.invokevirtual 180, 3) := by decide +kernel
theorem x_320_161 : decode (q_code 320) 161 = .ok (.istore_n 3, 1) := by decide +kernel
theorem x_320_162 : decode (q_code 320) 162 = .ok (.goto (-139), 3) := by decide +kernel
theorem x_320_165 : decode (q_code 320) 165 = .ok (.aload_n 0, 1) := by decide +kernel
theorem x_320_166 : decode (q_code 320) 166 = .ok (.ldc_w 451, 3) := by decide +kernel
theorem x_320_169 : decode (q_code 320) 169 = .ok (.invokevirtual 145, 3) := by decide +kernel
theorem x_320_172 : decode (q_code 320) 172 = .ok (.sipush 2000, 3) := by decide +kernel
theorem x_320_175 : decode (q_code 320) 175 = .ok (.if_icmp .gt 15, 3) := by decide +kernel
theorem x_320_178 : decode (q_code 320) 178 = .ok (.aload_n 0, 1) := by decide +kernel
theorem x_320_179 : decode (q_code 320) 179 = .ok (.ldc_w 451, 3) := by decide +kernel
theorem x_320_182 : decode (q_code 320) 182 = .ok (.invokevirtual 191, 3) := by decide +kernel
theorem x_320_185 : decode (q_code 320) 185 = .ok (.bipush 16, 2) := by decide +kernel
theorem x_320_187 : decode (q_code 320) 187 = .ok (.if_icmp .le 13, 3) := by decide +kernel
theorem x_320_190 : decode (q_code 320) 190 = .ok (.aload_n 0, 1) := by decide +kernel
theorem x_320_191 : decode (q_code 320) 191 = .ok (.bipush 9, 2) := by decide +kernel
theorem x_320_193 : decode (q_code 320) 193 = .ok (.iconst (-1), 1) := by decide +kernel
theorem x_320_194 : decode (q_code 320) 194 = .ok (.invokevirtual 237, 3) := by decide +kernel
theorem x_320_197 : decode (q_code 320) 197 = .ok (.ifCond .eq 7, 3) := by decide +kernel
theorem x_320_200 : decode (q_code 320) 200 = .ok (.iconst 1, 1) := by decide +kernel
theorem x_320_201 : decode (q_code 320) 201 = .ok (.goto 4, 3) := by decide +kernel
theorem x_320_204 : decode (q_code 320) 204 = .ok (.iconst 0, 1) := by decide +kernel
theorem x_320_205 : decode (q_code 320) 205 = .ok (.ireturn, 1) := by decide +kernel
theorem x_321_0 : decode (q_code 321) 0 = .ok (.iload_n 1, 1) := by decide +kernel
theorem x_321_1 : decode (q_code 321) 1 = .ok (.iload_n 2, 1) := by decide +kernel
theorem x_321_2 : decode (q_code 321) 2 = .ok (.if_icmp .eq 13, 3) := by decide +kernel
theorem x_321_5 : decode (q_code 321) 5 = .ok (.aload_n 0, 1) := by decide +kernel
theorem x_321_6 : decode (q_code 321) 6 = .ok (.iload_n 1, 1) := by decide +kernel
theorem x_321_7 : decode (q_code 321) 7 = .ok (.invokevirtual 141, 3) := by decide +kernel
theorem x_321_10 : decode (q_code 321) 10 = .ok (.bipush 36, 2) := by decide +kernel
theorem x_321_12 : decode (q_code 321) 12 = .ok (.if_icmp .ne 5, 3) := by decide +kernel
theorem x_321_15 : decode (q_code 321) 15 = .ok (.iconst 0, 1) := by decide +kernel
theorem x_321_16 : decode (q_code 321) 16 = .ok (.ireturn, 1) := by decide +kernel
theorem x_321_17 : decode (q_code 321) 17 = .ok (.iload_n 1, 1) := by decide +kernel
theorem x_321_18 : decode (q_code 321) 18 = .ok (.istore_n 3, 1) := by decide +kernel
theorem x_321_19 : decode (q_code 321) 19 = .ok (.iload_n 3, 1) := by decide +kernel
theorem x_321_20 : decode (q_code 321) 20 = .ok (.iload_n 2, 1) := by decide +kernel
theorem x_321_21 : decode (q_code 321) 21 = .ok (.if_icmp .ge 30, 3) := by decide +kernel
theorem x_321_24 : decode (q_code 321) 24 = .ok (.aload_n 0, 1) := by decide +kernel
theorem x_321_25 : decode (q_code 321) 25 = .ok (.iload_n 3, 1) := by decide +kernel
theorem x_321_26 : decode (q_code 321) 26 = .ok (.invokevirtual 141, 3) := by decide +kernel
theorem x_321_29 : decode (q_code 321) 29 = .ok (.bipush 46, 2) := by decide +kernel
theorem x_321_31 : decode (q_code 321) 31 = .ok (.if_icmp .eq 12, 3) := by decide +kernel
theorem x_321_34 : decode (q_code 321) 34 = .ok (.aload_n 0, 1) := by decide +kernel
theorem x_321_35 : decode (q_code 321) 35 = .ok (.getfield 10, 3) := by decide +kernel
theorem x_321_38 : decode (q_code 321) 38 = .ok (.iload_n 3, 1) := by decide +kernel
theorem x_321_39 : decode (q_code 321) 39 = .ok (.baload, 1) := by decide +kernel
theorem x_321_40 : decode (q_code 321) 40 = .ok (.ifCond .ne 5, 3) := by decide +kernel
theorem x_321_43 : decode (q_code 321) 43 = .ok (.iconst 0, 1) := by decide +kernel
theorem x_321_44 : decode (q_code 321) 44 = .ok (.ireturn, 1) := by decide +kernel
theorem x_321_45 : decode (q_code 321) 45 = .ok (.iinc 3 1, 3) := by decide +kernel
theorem x_321_48 : decode (q_code 321) 48 = .ok (.goto (-29), 3) := by decide +kernel
theorem x_321_51 : decode (q_code 321) 51 = .ok (.iconst 1, 1) := by decide +kernel
theorem x_321_52 : decode (q_code 321) 52 = .ok (.ireturn, 1) := by decide +kernel
theorem x_322_0 : decode (q_code 322) 0 = .ok (.aload_n 0, 1) := by decide +kernel
theorem x_322_1 : decode (q_code 322) 1 = .ok (.iload_n 1, 1) := by decide +kernel
theorem x_322_2 : decode (q_code 322) 2 = .ok (.invokevirtual 163, 3) := by decide +kernel
theorem x_322_5 : decode (q_code 322) 5 = .ok (.iconst 3, 1) := by decide +kernel
theorem x_322_6 : decode (q_code 322) 6 = .ok (.iadd, 1) := by decide +kernel
theorem x_322_7 : decode (q_code 322) 7 = .ok (.aload_n 0, 1) := by decide +kernel
theorem x_322_8 : decode (q_code 322) 8 = .ok (.aload_n 0, 1) := by decide +kernel
theorem x_322_9 : decode (q_code 322) 9 = .ok (.iload_n 1, 1) := by decide +kernel
theorem x_322_10 : decode (q_code 322) 10 = .ok (.invokevirtual 163, 3) := by decide +kernel
theorem x_322_13 : decode (q_code 322) 13 = .ok (.invokevirtual 145, 3) := by decide +kernel
theorem x_322_16 : decode (q_code 322) 16 = .ok (.iadd, 1) := by decide +kernel
theorem x_322_17 : decode (q_code 322) 17 = .ok (.ireturn, 1) := by decide +kernel
theorem x_323_0 : decode (q_code 323) 0 = .ok (.aload_n 0, 1) := by decide +kernel
theorem x_323_1 : decode (q_code 323) 1 = .ok (.getfield 10, 3) := by decide +kernel
theorem x_323_4 : decode (q_code 323) 4 = .ok (.iload_n 1, 1) := by decide +kernel
theorem x_323_5 : decode (q_code 323) 5 = .ok (.baload, 1) := by decide +kernel
theorem x_323_6 : decode (q_code 323) 6 = .ok (.iconst 2, 1) := by decide +kernel
theorem x_323_7 : decode (q_code 323) 7 = .ok (.if_icmp .ne 38, 3) := by decide +kernel
theorem x_323_10 : decode (q_code 323) 10 = .ok (.aload_n 0, 1) := by decide +kernel
theorem x_323_11 : decode (q_code 323) 11 = .ok (.iload_n 1, 1) := by decide +kernel
theorem x_323_12 : decode (q_code 323) 12 = .ok (.invokevirtual 527, 3) := by decide +kernel
theorem x_323_15 : decode (q_code 323) 15 = .ok (.aload_n 0, 1) := by decide +kernel
theorem x_323_16 : decode (q_code 323) 16 = .ok (.iload_n 1, 1) := by decide +kernel
theorem x_323_17 : decode (q_code 323) 17 = .ok (.invokevirtual 163, 3) := by decide +kernel
theorem x_323_20 : decode (q_code 323) 20 = .ok (.iconst 4, 1) := by decide +kernel
theorem x_323_21 : decode (q_code 323) 21 = .ok (.iadd, 1) := by decide +kernel
theorem x_323_22 : decode (q_code 323) 22 = .ok (.if_icmp .le 23, 3) := by decide +kernel
theorem x_323_25 : decode (q_code 323) 25 = .ok (.aload_n 0, 1) := by decide +kernel
theorem x_323_26 : decode (q_code 323) 26 = .ok (.aload_n 0, 1) := by decide +kernel
theorem x_323_27 : decode (q_code 323) 27 = .ok (.iload_n 1, 1) := by decide +kernel
theorem x_323_28 : decode (q_code 323) 28 = .ok (.invokevirtual 163, 3) := by decide +kernel
theorem x_323_31 : decode (q_code 323) 31 = .ok (.iconst 4, 1) := by decide +kernel
theorem x_323_32 : decode (q_code 323) 32 = .ok (.iadd, 1) := by decide +kernel
theorem x_323_33 : decode (q_code 323) 33 = .ok (.invokevirtual 141, 3) := by decide +kernel
theorem x_323_36 : decode (q_code 323) 36 = .ok (.bipush 36, 2) := by decide +kernel
theorem x_323_38 : decode (q_code 323) 38 = .ok (.if_icmp .ne 7, 3) := by decide +kernel
theorem x_323_41 : decode (q_code 323) 41 = .ok (.iconst 1, 1) := by decide +kernel
theorem x_323_42 : decode (q_code 323) 42 = .ok (.goto 4, 3) := by decide +kernel
theorem x_323_45 : decode (q_code 323) 45 = .ok (.iconst 0, 1) := by decide +kernel
theorem x_323_46 : decode (q_code 323) 46 = .ok (.ireturn, 1) := by decide +kernel
theorem x_324_0 : decode (q_code 324) 0 = .ok (.aload_n 0, 1) := by decide +kernel
theorem x_324_1 : decode (q_code 324) 1 = .ok (.iload_n 1, 1) := by decide +kernel
theorem x_324_2 : decode (q_code 324) 2 = .ok (.invokevirtual 530, 3) := by decide +kernel
theorem x_324_5 : decode (q_code 324) 5 = .ok (.ifCond .eq 22, 3) := by decide +kernel
theorem x_324_8 : decode (q_code 324) 8 = .ok (.aload_n 0, 1) := by decide +kernel
theorem x_324_9 : decode (q_code 324) 9 = .ok (.aload_n 0, 1) := by decide +kernel
theorem x_324_10 : decode (q_code 324) 10 = .ok (.iload_n 1, 1) := by decide +kernel
theorem x_324_11 : decode (q_code 324) 11 = .ok (.invokevirtual 163, 3) := by decide +kernel
theorem x_324_14 : decode (q_code 324) 14 = .ok (.iconst 5, 1) := by decide +kernel
theorem x_324_15 : decode (q_code 324) 15 = .ok (.iadd, 1) := by decide +kernel
theorem x_324_16 : decode (q_code 324) 16 = .ok (.aload_n 0, 1) := by decide +kernel
theorem x_324_17 : decode (q_code 324) 17 = .ok (.iload_n 1, 1) := by decide +kernel
theorem x_324_18 : decode (q_code 324) 18 = .ok (.invokevirtual 527, 3) := by decide +kernel
theorem x_324_21 : decode (q_code 324) 21 = .ok (.invokevirtual 351, 3) := by decide +kernel
theorem x_324_24 : decode (q_code 324) 24 = .ok (.ifCond .eq 7, 3) := by decide +kernel
theorem x_324_27 : decode (q_code 324) 27 = .ok (.iconst 0, 1) := by decide +kernel
theorem x_324_28 : decode (q_code 324) 28 = .ok (.goto 4, 3) := by decide +kernel
theorem x_324_31 : decode (q_code 324) 31 = .ok (.iconst 3, 1) := by decide +kernel
theorem x_324_32 : decode (q_code 324) 32 = .ok (.ireturn, 1) := by decide +kernel
theorem x_325_0 : decode (q_code 325) 0 = .ok (.iload_n 1, 1) := by decide +kernel
theorem x_325_1 : decode (q_code 325) 1 = .ok (.istore 4, 2) := by decide +kernel
theorem x_325_3 : decode (q_code 325) 3 = .ok (.iload_n 2, 1) := by decide +kernel
theorem x_325_4 : decode (q_code 325) 4 = .ok (.istore 5, 2) := by decide +kernel
theorem x_325_6 : decode (q_code 325) 6 = .ok (.aload_n 0, 1) := by decide +kernel
theorem x_325_7 : decode (q_code 325) 7 = .ok (.iconst 0, 1) := by decide +kernel
theorem x_325_8 : decode (q_code 325) 8 = .ok (.putfield 533, 3) := by decide +kernel
theorem x_325_11 : decode (q_code 325) 11 = .ok (.aload_n 0, 1) := by decide +kernel
theorem x_325_12 : decode (q_code 325) 12 = .ok (.iload 5, 2) := by decide +kernel
theorem x_325_14 : decode (q_code 325) 14 = .ok (.iload_n 3, 1) := by decide +kernel
theorem x_325_15 : decode (q_code 325) 15 = .ok (.invokevirtual 287, 3) := by decide +kernel
theorem x_325_18 : decode (q_code 325) 18 = .ok (.istore 6, 2) := by decide +kernel
theorem x_325_20 : decode (q_code 325) 20 = .ok (.aload_n 0, 1) := by decide +kernel
theorem x_325_21 : decode (q_code 325) 21 = .ok (.iload 4, 2) := by decide +kernel
theorem x_325_23 : decode (q_code 325) 23 = .ok (.iload 5, 2) := by decide +kernel
theorem x_325_25 : decode (q_code 325) 25 = .ok (.iload 6, 2) := by decide +kernel
theorem x_325_27 : decode (q_code 325) 27 = .ok (.invokevirtual 310, 3) := by decide +kernel
theorem x_325_30 : decode (q_code 325) 30 = .ok (.istore 7, 2) := by decide +kernel
theorem x_325_32 : decode (q_code 325) 32 = .ok (.iload 7, 2) := by decide +kernel
theorem x_325_34 : decode (q_code 325) 34 = .ok (.iconst (-1), 1) := by decide +kernel
theorem x_325_35 : decode (q_code 325) 35 = .ok (.if_icmp .ne 4, 3) := by decide +kernel
theorem x_325_38 : decode (q_code 325) 38 = .ok (.return_, 1) := by decide +kernel
theorem x_325_39 : decode (q_code 325) 39 = .ok (.iload 6, 2) := by decide +kernel
theorem x_325_41 : decode (q_code 325) 41 = .ok (.iload_n 3, 1) := by decide +kernel
theorem x_325_42 : decode (q_code 325) 42 = .ok (.if_icmp .ne 15, 3) := by decide +kernel
theorem x_325_45 : decode (q_code 325) 45 = .ok (.aload_n 0, 1) := by decide +kernel
theorem x_325_46 : decode (q_code 325) 46 = .ok (.iconst 1, 1) := by decide +kernel
theorem x_325_47 : decode (q_code 325) 47 = .ok (.putfield 533, 3) := by decide +kernel
theorem x_325_50 : decode (q_code 325) 50 = .ok (.aload_n 0, 1) := by decide +kernel
theorem x_325_51 : decode (q_code 325) 51 = .ok (.iload 7, 2) := by decide +kernel
theorem x_325_53 : decode (q_code 325) 53 = .ok (.putfield 536, 3) := by decide +kernel
theorem x_325_56 : decode (q_code 325) 56 = .ok (.return_, 1) := by decide +kernel
theorem x_325_57 : decode (q_code 325) 57 = .ok (.iload 6, 2) := by decide +kernel
theorem x_325_59 : decode (q_code 325) 59 = .ok (.iconst 1, 1) := by decide +kernel
theorem x_325_60 : decode (q_code 325) 60 = .ok (.iadd, 1) := by decide +kernel
theorem x_325_61 : decode (q_code 325) 61 = .ok (.istore 5, 2) := by decide +kernel
theorem x_325_63 : decode (q_code 325) 63 = .ok (.aload_n 0, 1) := by decide +kernel
theorem x_325_64 : decode (q_code 325) 64 = .ok (.getfield 10, 3) := by decide +kernel
theorem x_325_67 : decode (q_code 325) 67 = .ok (.iload 7, 2) := by decide +kernel
theorem x_325_69 : decode (q_code 325) 69 = .ok (.baload, 1) := by decide +kernel
theorem x_325_70 : decode (q_code 325) 70 = .ok (.iconst 4, 1) := by decide +kernel
theorem x_325_71 : decode (q_code 325) 71 = .ok (.if_icmp .ne 25, 3) := by decide +kernel
theorem x_325_74 : decode (q_code 325) 74 = .ok (.aload_n 0, 1) := by decide +kernel
theorem x_325_75 : decode (q_code 325) 75 = .ok (.iconst 2, 1) := by decide +kernel
theorem x_325_76 : decode (q_code 325) 76 = .ok (.putfield 533, 3) := by decide +kernel
theorem x_325_79 : decode (q_code 325) 79 = .ok (.aload_n 0, 1) := by decide +kernel
theorem x_325_80 : decode (q_code 325) 80 = .ok (.aload_n 0, 1) := by decide +kernel
theorem x_325_81 : decode (q_code 325) 81 = .ok (.iload 7, 2) := by decide +kernel
theorem x_325_83 : decode (q_code 325) 83 = .ok (.invokevirtual 163, 3) := by decide +kernel
theorem x_325_86 : decode (q_code 325) 86 = .ok (.putfield 536, 3) := by decide +kernel
theorem x_325_89 : decode (q_code 325) 89 = .ok (.aload_n 0, 1) := by decide +kernel
theorem x_325_90 : decode (q_code 325) 90 = .ok (.iload 5, 2) := by decide +kernel
theorem x_325_92 : decode (q_code 325) 92 = .ok (.putfield 539, 3) := by decide +kernel
theorem x_325_95 : decode (q_code 325) 95 = .ok (.return_, 1) := by decide +kernel
theorem x_325_96 : decode (q_code 325) 96 = .ok (.aload_n 0, 1) := by decide +kernel
theorem x_325_97 : decode (q_code 325) 97 = .ok (.getfield 10, 3) := by decide +kernel
theorem x_325_100 : decode (q_code 325) 100 = .ok (.iload 7, 2) := by decide +kernel
theorem x_325_102 : decode (q_code 325) 102 = .ok (.baload, 1) := by decide +kernel
theorem x_325_103 : decode (q_code 325) 103 = .ok (.iconst 3, 1) := by decide +kernel
theorem x_325_104 : decode (q_code 325) 104 = .ok (.if_icmp .eq 4, 3) := by decide +kernel
theorem x_325_107 : decode (q_code 325) 107 = .ok (.return_, 1) := by decide +kernel
theorem x_325_108 : decode (q_code 325) 108 = .ok (.aload_n 0, 1) := by decide +kernel
theorem x_325_109 : decode (q_code 325) 109 = .ok (.iload 7, 2) := by decide +kernel
theorem x_325_111 : decode (q_code 325) 111 = .ok (.invokevirtual 163, 3) := by decide +kernel
theorem x_325_114 : decode (q_code 325) 114 = .ok (.istore 4, 2) := by decide +kernel
theorem x_325_116 : decode (q_code 325) 116 = .ok (.goto (-105), 3) := by decide +kernel
theorem x_326_0 : decode (q_code 326) 0 = .ok (.aload_n 0, 1) := by decide +kernel
theorem x_326_1 : decode (q_code 326) 1 = .ok (.invokevirtual 508, 3) := by decide +kernel
theorem x_326_4 : decode (q_code 326) 4 = .ok (.istore 4, 2) := by decide +kernel
theorem x_326_6 : decode (q_code 326) 6 = .ok (.iconst 0, 1) := by decide +kernel
theorem x_326_7 : decode (q_code 326) 7 = .ok (.istore 5, 2) := by decide +kernel
theorem x_326_9 : decode (q_code 326) 9 = .ok (.iload_n 1, 1) := by decide +kernel
theorem x_326_10 : decode (q_code 326) 10 = .ok (.invokestatic 174, 3) := by decide +kernel
theorem x_326_13 : decode (q_code 326) 13 = .ok (.istore 6, 2) := by decide +kernel
theorem x_326_15 : decode (q_code 326) 15 = .ok (.iload 6, 2) := by decide +kernel
theorem x_326_17 : decode (q_code 326) 17 = .ok (.aload_n 0, 1) := by decide +kernel
theorem x_326_18 : decode (q_code 326) 18 = .ok (.iload_n 1, 1) := by decide +kernel
theorem x_326_19 : decode (q_code 326) 19 = .ok (.invokevirtual 177, 3) := by decide +kernel
theorem x_326_22 : decode (q_code 326) 22 = .ok (.if_icmp .ge 122, 3) := by decide +kernel
theorem x_326_25 : decode (q_code 326) 25 = .ok (.aload_n 0, 1) := by decide +kernel
theorem x_326_26 : decode (q_code 326) 26 = .ok (.getfield 10, 3) := by decide +kernel
theorem x_326_29 : decode (q_code 326) 29 = .ok (.iload 6, 2) := by decide +kernel
theorem x_326_31 : decode (q_code 326) 31 = .ok (.baload, 1) := by decide +kernel
theorem x_326_32 : decode (q_code 326) 32 = .ok (.iconst 3, 1) := by decide +kernel
theorem x_326_33 : decode (q_code 326) 33 = .ok (.if_icmp .eq 6, 3) := by decide +kernel
theorem x_326_36 : decode (q_code 326) 36 = .ok (.goto 97, 3) := by decide +kernel
theorem x_326_39 : decode (q_code 326) 39 = .ok (.aload_n 0, 1) := by decide +kernel
theorem x_326_40 : decode (q_code 326) 40 = .ok (.aload_n 0, 1) := by decide +kernel
theorem x_326_41 : decode (q_code 326) 41 = .ok (.iload 6, 2) := by decide +kernel
theorem x_326_43 : decode (q_code 326) 43 = .ok (.invokevirtual 163, 3) := by decide +kernel
theorem x_326_46 : decode (q_code 326) 46 = .ok (.iload_n 2, 1) := by decide +kernel
theorem x_326_47 : decode (q_code 326) 47 = .ok (.iload_n 3, 1) := by decide +kernel
theorem x_326_48 : decode (q_code 326) 48 = .ok (.invokevirtual 542, 3) := by decide +kernel
theorem x_326_51 : decode (q_code 326) 51 = .ok (.aload_n 0, 1) := by decide +kernel
theorem x_326_52 : decode (q_code 326) 52 = .ok (.getfield 533, 3) := by decide +kernel
theorem x_326_55 : decode (q_code 326) 55 = .ok (.ifCond .ne 6, 3) := by decide +kernel
theorem x_326_58 : decode (q_code 326) 58 = .ok (.goto 75, 3) := by decide +kernel
theorem x_326_61 : decode (q_code 326) 61 = .ok (.aload_n 0, 1) := by decide +kernel
theorem x_326_62 : decode (q_code 326) 62 = .ok (.getfield 533, 3) := by decide +kernel
theorem x_326_65 : decode (q_code 326) 65 = .ok (.istore 7, 2) := by decide +kernel
theorem x_326_67 : decode (q_code 326) 67 = .ok (.aload_n 0, 1) := by decide +kernel
theorem x_326_68 : decode (q_code 326) 68 = .ok (.getfield 536, 3) := by decide +kernel
theorem x_326_71 : decode (q_code 326) 71 = .ok (.istore 8, 2) := by decide +kernel
theorem x_326_73 : decode (q_code 326) 73 = .ok (.aload_n 0, 1) := by decide +kernel
theorem x_326_74 : decode (q_code 326) 74 = .ok (.getfield 539, 3) := by decide +kernel
theorem x_326_77 : decode (q_code 326) 77 = .ok (.istore 9, 2) := by decide +kernel
theorem x_326_79 : decode (q_code 326) 79 = .ok (.aload_n 0, 1) := by decide +kernel
theorem x_326_80 : decode (q_code 326) 80 = .ok (.iload 7, 2) := by decide +kernel
theorem x_326_82 : decode (q_code 326) 82 = .ok (.iconst 1, 1) := by decide +kernel
theorem x_326_83 : decode (q_code 326) 83 = .ok (.if_icmp .ne 13, 3) := by decide +kernel
theorem x_326_86 : decode (q_code 326) 86 = .ok (.aload_n 0, 1) := by decide +kernel
theorem x_326_87 : decode (q_code 326) 87 = .ok (.getfield 10, 3) := by decide +kernel
theorem x_326_90 : decode (q_code 326) 90 = .ok (.iload 8, 2) := by decide +kernel
theorem x_326_92 : decode (q_code 326) 92 = .ok (.baload, 1) := by decide +kernel
theorem x_326_93 : decode (q_code 326) 93 = .ok (.goto 4, 3) := by decide +kernel
theorem x_326_96 : decode (q_code 326) 96 = .ok (.iconst 4, 1) := by decide +kernel
theorem x_326_97 : decode (q_code 326) 97 = .ok (.invokevirtual 204, 3) := by decide +kernel
theorem x_326_100 : decode (q_code 326) 100 = .ok (.aload_n 0, 1) := by decide +kernel
theorem x_326_101 : decode (q_code 326) 101 = .ok (.iload 5, 2) := by decide +kernel
theorem x_326_103 : decode (q_code 326) 103 = .ok (.invokevirtual 511, 3) := by decide +kernel
theorem x_326_106 : decode (q_code 326) 106 = .ok (.iload 7, 2) := by decide +kernel
theorem x_326_108 : decode (q_code 326) 108 = .ok (.iconst 1, 1) := by decide +kernel
theorem x_326_109 : decode (q_code 326) 109 = .ok (.if_icmp .ne 12, 3) := by decide +kernel
theorem x_326_112 : decode (q_code 326) 112 = .ok (.aload_n 0, 1) := by decide +kernel
theorem x_326_113 : decode (q_code 326) 113 = .ok (.iload 8, 2) := by decide +kernel
theorem x_326_115 : decode (q_code 326) 115 = .ok (.invokevirtual 217, 3) := by decide +kernel
theorem x_326_118 : decode (q_code 326) 118 = .ok (.goto 12, 3) := by decide +kernel
theorem x_326_121 : decode (q_code 326) 121 = .ok (.aload_n 0, 1) := by decide +kernel
theorem x_326_122 : decode (q_code 326) 122 = .ok (.iload 8, 2) := by decide +kernel
theorem x_326_124 : decode (q_code 326) 124 = .ok (.iload 9, 2) := by decide +kernel
theorem x_326_126 : decode (q_code 326) 126 = .ok (.iload_n 3, 1) := by decide +kernel
theorem x_326_127 : decode (q_code 326) 127 = .ok (.invokevirtual 545, 3) := by decide +kernel
theorem x_326_130 : decode (q_code 326) 130 = .ok (.iinc 5 1, 3) := by decide +kernel
theorem x_326_133 : decode (q_code 326) 133 = .ok (.aload_n 0, 1) := by decide +kernel
theorem x_326_134 : decode (q_code 326) 134 = .ok (.iload 6, 2) := by decide +kernel
theorem x_326_136 : decode (q_code 326) 136 = .ok (.invokevirtual 180, 3) := by decide +kernel
theorem x_326_139 : decode (q_code 326) 139 = .ok (.istore 6, 2) := by decide +kernel
theorem x_326_141 : decode (q_code 326) 141 = .ok (.goto (-126), 3) := by decide +kernel
theorem x_326_144 : decode (q_code 326) 144 = .ok (.aload_n 0, 1) := by decide +kernel
theorem x_326_145 : decode (q_code 326) 145 = .ok (.iload 4, 2) := by decide +kernel
theorem x_326_147 : decode (q_code 326) 147 = .ok (.invokevirtual 514, 3) := by decide +kernel
theorem x_326_150 : decode (q_code 326) 150 = .ok (.return_, 1) := by decide +kernel
theorem x_327_0 : decode (q_code 327) 0 = .ok (.aload_n 0, 1) := by decide +kernel
theorem x_327_1 : decode (q_code 327) 1 = .ok (.iload_n 1, 1) := by decide +kernel
theorem x_327_2 : decode (q_code 327) 2 = .ok (.invokevirtual 530, 3) := by decide +kernel
theorem x_327_5 : decode (q_code 327) 5 = .ok (.ifCond .ne 5, 3) := by decide +kernel
theorem x_327_8 : decode (q_code 327) 8 = .ok (.iload_n 1, 1) := by decide +kernel
theorem x_327_9 : decode (q_code 327) 9 = .ok (.ireturn, 1) := by decide +kernel
theorem x_327_10 : decode (q_code 327) 10 = .ok (.aload_n 0, 1) := by decide +kernel
theorem x_327_11 : decode (q_code 327) 11 = .ok (.iload_n 1, 1) := by decide +kernel
theorem x_327_12 : decode (q_code 327) 12 = .ok (.invokevirtual 163, 3) := by decide +kernel
theorem x_327_15 : decode (q_code 327) 15 = .ok (.iconst 5, 1) := by decide +kernel
theorem x_327_16 : decode (q_code 327) 16 = .ok (.iadd, 1) := by decide +kernel
theorem x_327_17 : decode (q_code 327) 17 = .ok (.istore_n 3, 1) := by decide +kernel
theorem x_327_18 : decode (q_code 327) 18 = .ok (.aload_n 0, 1) := by decide +kernel
theorem x_327_19 : decode (q_code 327) 19 = .ok (.iload_n 1, 1) := by decide +kernel
theorem x_327_20 : decode (q_code 327) 20 = .ok (.invokevirtual 527, 3) := by decide +kernel
theorem x_327_23 : decode (q_code 327) 23 = .ok (.istore 4, 2) := by decide +kernel
theorem x_327_25 : decode (q_code 327) 25 = .ok (.aload_n 0, 1) := by decide +kernel
theorem x_327_26 : decode (q_code 327) 26 = .ok (.iload_n 2, 1) := by decide +kernel
theorem x_327_27 : decode (q_code 327) 27 = .ok (.iload_n 3, 1) := by decide +kernel
theorem x_327_28 : decode (q_code 327) 28 = .ok (.iload 4, 2) := by decide +kernel
theorem x_327_30 : decode (q_code 327) 30 = .ok (.invokevirtual 542, 3) := by decide +kernel
theorem x_327_33 : decode (q_code 327) 33 = .ok (.aload_n 0, 1) := by decide +kernel
theorem x_327_34 : decode (q_code 327) 34 = .ok (.getfield 533, 3) := by decide +kernel
theorem x_327_37 : decode (q_code 327) 37 = .ok (.iconst 2, 1) := by decide +kernel
theorem x_327_38 : decode (q_code 327) 38 = .ok (.if_icmp .ge 19, 3) := by decide +kernel
theorem x_327_41 : decode (q_code 327) 41 = .ok (.aload_n 0, 1) := by decide +kernel
theorem x_327_42 : decode (q_code 327) 42 = .ok (.getfield 533, 3) := by decide +kernel
theorem x_327_45 : decode (q_code 327) 45 = .ok (.ifCond .ne 7, 3) := by decide +kernel
theorem x_327_48 : decode (q_code 327) 48 = .ok (.iconst (-1), 1) := by decide +kernel
theorem x_327_49 : decode (q_code 327) 49 = .ok (.goto 7, 3) := by decide +kernel
theorem x_327_52 : decode (q_code 327) 52 = .ok (.aload_n 0, 1) := by decide +kernel
theorem x_327_53 : decode (q_code 327) 53 = .ok (.getfield 536, 3) := by decide +kernel
theorem x_327_56 : decode (q_code 327) 56 = .ok (.ireturn, 1) := by decide +kernel
theorem x_327_57 : decode (q_code 327) 57 = .ok (.aload_n 0, 1) := by decide +kernel
theorem x_327_58 : decode (q_code 327) 58 = .ok (.getfield 194, 3) := by decide +kernel
theorem x_327_61 : decode (q_code 327) 61 = .ok (.istore 5, 2) := by decide +kernel
theorem x_327_63 : decode (q_code 327) 63 = .ok (.aload_n 0, 1) := by decide +kernel
theorem x_327_64 : decode (q_code 327) 64 = .ok (.getfield 197, 3) := by decide +kernel
theorem x_327_67 : decode (q_code 327) 67 = .ok (.istore 6, 2) := by decide +kernel
theorem x_327_69 : decode (q_code 327) 69 = .ok (.aload_n 0, 1) := by decide +kernel
theorem x_327_70 : decode (q_code 327) 70 = .ok (.getfield 200, 3) := by decide +kernel
theorem x_327_73 : decode (q_code 327) 73 = .ok (.istore 7, 2) := by decide +kernel
theorem x_327_75 : decode (q_code 327) 75 = .ok (.aload_n 0, 1) := by decide +kernel
theorem x_327_76 : decode (q_code 327) 76 = .ok (.getfield 548, 3) := by decide +kernel
theorem x_327_79 : decode (q_code 327) 79 = .ok (.istore 8, 2) := by decide +kernel
theorem x_327_81 : decode (q_code 327) 81 = .ok (.aload_n 0, 1) := by decide +kernel
theorem x_327_82 : decode (q_code 327) 82 = .ok (.iload 8, 2) := by decide +kernel
theorem x_327_84 : decode (q_code 327) 84 = .ok (.ldc 136, 2) := by decide +kernel
theorem x_327_86 : decode (q_code 327) 86 = .ok (.invokevirtual 456, 3) := by decide +kernel
theorem x_327_89 : decode (q_code 327) 89 = .ok (.aload_n 0, 1) := by decide +kernel
theorem x_327_90 : decode (q_code 327) 90 = .ok (.iconst 4, 1) := by decide +kernel
theorem x_327_91 : decode (q_code 327) 91 = .ok (.invokevirtual 204, 3) := by decide +kernel
theorem x_327_94 : decode (q_code 327) 94 = .ok (.aload_n 0, 1) := by decide +kernel
theorem x_327_95 : decode (q_code 327) 95 = .ok (.iconst 0, 1) := by decide +kernel
theorem x_327_96 : decode (q_code 327) 96 = .ok (.invokevirtual 204, 3) := by decide +kernel
theorem x_327_99 : decode (q_code 327) 99 = .ok (.aload_n 0, 1) := by decide +kernel
theorem x_327_100 : decode (q_code 327) 100 = .ok (.aload_n 0, 1) := by decide +kernel
theorem x_327_101 : decode (q_code 327) 101 = .ok (.getfield 536, 3) := by decide +kernel
theorem x_327_104 : decode (q_code 327) 104 = .ok (.aload_n 0, 1) := by decide +kernel
theorem x_327_105 : decode (q_code 327) 105 = .ok (.getfield 539, 3) := by decide +kernel
theorem x_327_108 : decode (q_code 327) 108 = .ok (.iload 4, 2) := by decide +kernel
theorem x_327_110 : decode (q_code 327) 110 = .ok (.invokevirtual 545, 3) := by decide +kernel
theorem x_327_113 : decode (q_code 327) 113 = .ok (.aload_n 0, 1) := by decide +kernel
theorem x_327_114 : decode (q_code 327) 114 = .ok (.aload_n 0, 1) := by decide +kernel
theorem x_327_115 : decode (q_code 327) 115 = .ok (.getfield 194, 3) := by decide +kernel
theorem x_327_118 : decode (q_code 327) 118 = .ok (.putfield 548, 3) := by decide +kernel
theorem x_327_121 : decode (q_code 327) 121 = .ok (.aload_n 0, 1) := by decide +kernel
theorem x_327_122 : decode (q_code 327) 122 = .ok (.iload 5, 2) := by decide +kernel
theorem x_327_124 : decode (q_code 327) 124 = .ok (.putfield 194, 3) := by decide +kernel
theorem x_327_127 : decode (q_code 327) 127 = .ok (.aload_n 0, 1) := by decide +kernel
theorem x_327_128 : decode (q_code 327) 128 = .ok (.iload 6, 2) := by decide +kernel
theorem x_327_130 : decode (q_code 327) 130 = .ok (.putfield 197, 3) := by decide +kernel
theorem x_327_133 : decode (q_code 327) 133 = .ok (.aload_n 0, 1) := by decide +kernel
theorem x_327_134 : decode (q_code 327) 134 = .ok (.iload 7, 2) := by decide +kernel
theorem x_327_136 : decode (q_code 327) 136 = .ok (.putfield 200, 3) := by decide +kernel
theorem x_327_139 : decode (q_code 327) 139 = .ok (.iload 8, 2) := by decide +kernel
theorem x_327_141 : decode (q_code 327) 141 = .ok (.ireturn, 1) := by decide +kernel
theorem x_328_0 : decode (q_code 328) 0 = .ok (.aload_n 0, 1) := by decide +kernel
theorem x_328_1 : decode (q_code 328) 1 = .ok (.ldc_w 450, 3) := by decide +kernel
theorem x_328_4 : decode (q_code 328) 4 = .ok (.putfield 548, 3) := by decide +kernel
theorem x_328_7 : decode (q_code 328) 7 = .ok (.aload_n 0, 1) := by decide +kernel
theorem x_328_8 : decode (q_code 328) 8 = .ok (.iload_n 1, 1) := by decide +kernel
theorem x_328_9 : decode (q_code 328) 9 = .ok (.iload_n 2, 1) := by decide +kernel
theorem x_328_10 : decode (q_code 328) 10 = .ok (.invokevirtual 551, 3) := by decide +kernel
theorem x_328_13 : decode (q_code 328) 13 = .ok (.ireturn, 1) := by decide +kernel
theorem x_329_0 : decode (q_code 329) 0 = .ok (.iload_n 0, 1) := by decide +kernel
theorem x_329_1 : decode (q_code 329) 1 = .ok (.iconst (-1), 1) := by decide +kernel
theorem x_329_2 : decode (q_code 329) 2 = .ok (.if_icmp .ne 8, 3) := by decide +kernel
theorem x_329_5 : decode (q_code 329) 5 = .ok (.ldc 136, 2) := by decide +kernel
theorem x_329_7 : decode (q_code 329) 7 = .ok (.goto 4, 3) := by decide +kernel
theorem x_329_10 : decode (q_code 329) 10 = .ok (.iload_n 0, 1) := by decide +kernel
theorem x_329_11 : decode (q_code 329) 11 = .ok (.ireturn, 1) := by decide +kernel
theorem m_X12_go {d : Nat} {M : g_M} {Q : g_M → Prop} {a0 : Nat} {v1 : Int} (hv1 : g_InR v1) {v2 : Int} (hv2 : g_InR v2) {v3 : Int} (hv3 : g_InR v3) (h : g_ok M → ((v3 < v2 → g_O M a0 12 ∧ g_Call d 277 [.ref a0, g_n v1] M (g_qV fun M32 => g_ext M M32 → g_ok M32 → Q M32)) ∧ (¬ v3 < v2 → g_O M a0 12 ∧ ∃ b2, g_r M a0 0 = some b2 ∧ ∃ n4, g_A M b2 0 n4 ∧ ((0 : Int) ≤ v1 ∧ (v1 : Int) < n4) ∧ ((g_i M b2 v1 = 3 → g_Call d 233 [.ref a0, g_n v1] M (g_qI fun r26 M23 => g_ext M M23 → g_ok M23 → g_InR r26 → g_Call d 279 [.ref a0, g_n r26, g_n v2, g_n v3] M23 (g_qV fun M28 => g_ext M23 M28 → g_ok M28 → Q M28))) ∧ (¬ g_i M b2 v1 = 3 → ∃ b7, g_r M a0 0 = some b7 ∧ ∃ n9, g_A M b7 0 n9 ∧ ((0 : Int) ≤ v1 ∧ (v1 : Int) < n9) ∧ ((g_i M b7 v1 = 4 → g_Call d 233 [.ref a0, g_n v1] M (g_qI fun r18 M15 => g_ext M M15 → g_ok M15 → g_InR r18 → g_Call d 280 [.ref a0, g_n r18, g_n v2, g_n v3] M15 (g_qV fun M20 => g_ext M15 M20 → g_ok M20 → Q M20))) ∧ (¬ g_i M b7 v1 = 4 → g_Call d 277 [.ref a0, g_n ((-1))] M (g_qV fun M12 => g_ext M M12 → g_ok M12 → Q M12)))))))) : g_Call (d + 1) 278 [.ref a0, g_n v1, g_n v2, g_n v3] M (g_qV Q) := by
  refine g_Call.ok fun hok0 => ?_
  replace h := h hok0
  refine r_body rfl (lv := [(0, .ref a0), (1, g_n v1), (2, g_n v2), (3, g_n v3)]) rfl ?_
  refine g_Run.ok fun hok => ?_
  refine r_iload_n x_278_0 rfl ?_
  refine r_iload_n x_278_1 rfl ?_
  refine r_ic_le x_278_2 (t := 13) (by decide +kernel) hv2 hv3 (fun hc => ?_) (fun hc => ?_)
  · replace h := h.2 hc
    refine r_aload_n x_278_13 rfl ?_
    obtain ⟨hO1, h⟩ := h
    obtain ⟨b2, hb3, h⟩ := h
    refine r_getR x_278_14 rfl (ci := 12) (k := 0) (ns := 0) (by decide +kernel) (by decide) rfl (kz := 0) rfl hO1 hb3 ?_
    refine r_iload_n x_278_17 rfl ?_
    obtain ⟨n4, hA5, h⟩ := h
    obtain ⟨h6, h⟩ := h
    refine r_bald x_278_18 (Or.inl rfl) hA5 hv1 h6.1 h6.2 ?_
    refine r_iconst x_278_19 ?_
    refine r_ic_ne x_278_20 (t := 37) (by decide +kernel) (hok.1 _ _) (g_Rk rfl) (fun hc => ?_) (fun hc => ?_)
    · replace h := h.2 hc
      refine r_aload_n x_278_37 rfl ?_
      obtain ⟨b7, hb8, h⟩ := h
      refine r_getR x_278_38 rfl (ci := 12) (k := 0) (ns := 0) (by decide +kernel) (by decide) rfl (kz := 0) rfl hO1 hb8 ?_
      refine r_iload_n x_278_41 rfl ?_
      obtain ⟨n9, hA10, h⟩ := h
      obtain ⟨h11, h⟩ := h
      refine r_bald x_278_42 (Or.inl rfl) hA10 hv1 h11.1 h11.2 ?_
      refine r_iconst x_278_43 ?_
      refine r_ic_ne x_278_44 (t := 61) (by decide +kernel) (hok.1 _ _) (g_Rk rfl) (fun hc => ?_) (fun hc => ?_)
      · replace h := h.2 hc
        refine r_aload_n x_278_61 rfl ?_
        refine r_iconst x_278_62 ?_
        refine r_invV x_278_63 (z := 277) (ns := 0) (by decide +kernel) (as := [g_n ((-1))]) (r := []) rfl rfl rfl hO1 rfl rfl ?_
        refine r_callV h fun M12 hx13 hok14 h => ?_
        replace h := h hx13 hok14
        replace hO1 := hO1.up hx13
        replace hA5 := hA5.up hx13
        replace hA10 := hA10.up hx13
        exact r_retV x_278_66 rfl h
      · replace h := h.1 hc
        refine r_aload_n x_278_47 rfl ?_
        refine r_aload_n x_278_48 rfl ?_
        refine r_iload_n x_278_49 rfl ?_
        refine r_invV x_278_50 (z := 233) (ns := 0) (by decide +kernel) (as := [g_n v1]) (r := [.ref a0]) rfl rfl rfl hO1 rfl rfl ?_
        refine r_callI h fun r18 M15 hx16 hok17 hr19 h => ?_
        replace h := h hx16 hok17 hr19
        replace hO1 := hO1.up hx16
        replace hA5 := hA5.up hx16
        replace hA10 := hA10.up hx16
        refine r_iload_n x_278_53 rfl ?_
        refine r_iload_n x_278_54 rfl ?_
        refine r_invV x_278_55 (z := 280) (ns := 0) (by decide +kernel) (as := [g_n r18, g_n v2, g_n v3]) (r := []) rfl rfl rfl hO1 rfl rfl ?_
        refine r_callV h fun M20 hx21 hok22 h => ?_
        replace h := h hx21 hok22
        replace hO1 := hO1.up hx21
        replace hA5 := hA5.up hx21
        replace hA10 := hA10.up hx21
        refine r_goto x_278_58 (t := 66) (by decide +kernel) ?_
        exact r_retV x_278_66 rfl h
    · replace h := h.1 hc
      refine r_aload_n x_278_23 rfl ?_
      refine r_aload_n x_278_24 rfl ?_
      refine r_iload_n x_278_25 rfl ?_
      refine r_invV x_278_26 (z := 233) (ns := 0) (by decide +kernel) (as := [g_n v1]) (r := [.ref a0]) rfl rfl rfl hO1 rfl rfl ?_
      refine r_callI h fun r26 M23 hx24 hok25 hr27 h => ?_
      replace h := h hx24 hok25 hr27
      replace hO1 := hO1.up hx24
      replace hA5 := hA5.up hx24
      refine r_iload_n x_278_29 rfl ?_
      refine r_iload_n x_278_30 rfl ?_
      refine r_invV x_278_31 (z := 279) (ns := 0) (by decide +kernel) (as := [g_n r26, g_n v2, g_n v3]) (r := []) rfl rfl rfl hO1 rfl rfl ?_
      refine r_callV h fun M28 hx29 hok30 h => ?_
      replace h := h hx29 hok30
      replace hO1 := hO1.up hx29
      replace hA5 := hA5.up hx29
      refine r_goto x_278_34 (t := 66) (by decide +kernel) ?_
      exact r_retV x_278_66 rfl h
  · replace h := h.1 hc
    refine r_aload_n x_278_5 rfl ?_
    refine r_iload_n x_278_6 rfl ?_
    obtain ⟨hO31, h⟩ := h
    refine r_invV x_278_7 (z := 277) (ns := 0) (by decide +kernel) (as := [g_n v1]) (r := []) rfl rfl rfl hO31 rfl rfl ?_
    refine r_callV h fun M32 hx33 hok34 h => ?_
    replace h := h hx33 hok34
    replace hO31 := hO31.up hx33
    refine r_goto x_278_10 (t := 66) (by decide +kernel) ?_
    exact r_retV x_278_66 rfl h
theorem m_X12_goDocument {d : Nat} {M : g_M} {Q : g_M → Prop} {a0 : Nat} {v1 : Int} (hv1 : g_InR v1) {v2 : Int} (hv2 : g_InR v2) {v3 : Int} (hv3 : g_InR v3) (h : g_ok M → g_O M a0 12 ∧ g_Call d 272 [.ref a0, g_n v2, g_n v3] M (g_qI fun r5 M2 => g_ext M M2 → g_ok M2 → g_InR r5 → g_Call d 240 [.ref a0, g_n v1, g_n v2, g_n r5] M2 (g_qI fun r10 M7 => g_ext M2 M7 → g_ok M7 → g_InR r10 → ((r10 = (-1) → g_Call d 277 [.ref a0, g_n ((-1))] M7 (g_qV fun M16 => g_ext M7 M16 → g_ok M16 → Q M16)) ∧ (¬ r10 = (-1) → g_InR (r5 + 1) ∧ g_Call d 278 [.ref a0, g_n r10, g_n (r5 + 1), g_n v3] M7 (g_qV fun M13 => g_ext M7 M13 → g_ok M13 → Q M13)))))) : g_Call (d + 1) 279 [.ref a0, g_n v1, g_n v2, g_n v3] M (g_qV Q) := by
  refine g_Call.ok fun hok0 => ?_
  replace h := h hok0
  refine r_body rfl (lv := [(0, .ref a0), (1, g_n v1), (2, g_n v2), (3, g_n v3)]) rfl ?_
  refine g_Run.ok fun hok => ?_
  refine r_aload_n x_279_0 rfl ?_
  refine r_iload_n x_279_1 rfl ?_
  refine r_iload_n x_279_2 rfl ?_
  obtain ⟨hO1, h⟩ := h
  refine r_invV x_279_3 (z := 272) (ns := 0) (by decide +kernel) (as := [g_n v2, g_n v3]) (r := []) rfl rfl rfl hO1 rfl rfl ?_
  refine r_callI h fun r5 M2 hx3 hok4 hr6 h => ?_
  replace h := h hx3 hok4 hr6
  replace hO1 := hO1.up hx3
  refine r_istore x_279_6 (by decide +kernel) rfl (lv1 := [(0, .ref a0), (1, g_n v1), (2, g_n v2), (3, g_n v3), (4, g_n r5)]) rfl ?_
  refine r_aload_n x_279_8 rfl ?_
  refine r_iload_n x_279_9 rfl ?_
  refine r_iload_n x_279_10 rfl ?_
  refine r_iload x_279_11 rfl ?_
  refine r_invV x_279_13 (z := 240) (ns := 0) (by decide +kernel) (as := [g_n v1, g_n v2, g_n r5]) (r := []) rfl rfl rfl hO1 rfl rfl ?_
  refine r_callI h fun r10 M7 hx8 hok9 hr11 h => ?_
  replace h := h hx8 hok9 hr11
  replace hO1 := hO1.up hx8
  refine r_istore x_279_16 (by decide +kernel) rfl (lv1 := [(0, .ref a0), (1, g_n v1), (2, g_n v2), (3, g_n v3), (4, g_n r5), (5, g_n r10)]) rfl ?_
  refine r_iload x_279_18 rfl ?_
  refine r_iconst x_279_20 ?_
  refine r_ic_ne x_279_21 (t := 32) (by decide +kernel) hr11 (g_Rk rfl) (fun hc => ?_) (fun hc => ?_)
  · replace h := h.2 hc
    refine r_aload_n x_279_32 rfl ?_
    refine r_iload x_279_33 rfl ?_
    refine r_iload x_279_35 rfl ?_
    refine r_iconst x_279_37 ?_
    refine r_iadd x_279_38 ?_
    obtain ⟨h12, h⟩ := h
    refine r_iload_n x_279_39 rfl ?_
    refine r_invV x_279_40 (z := 278) (ns := 0) (by decide +kernel) (as := [g_n r10, g_n (r5 + 1), g_n v3]) (r := []) rfl rfl rfl hO1 rfl rfl ?_
    refine r_callV h fun M13 hx14 hok15 h => ?_
    replace h := h hx14 hok15
    replace hO1 := hO1.up hx14
    exact r_retV x_279_43 rfl h
  · replace h := h.1 hc
    refine r_aload_n x_279_24 rfl ?_
    refine r_iconst x_279_25 ?_
    refine r_invV x_279_26 (z := 277) (ns := 0) (by decide +kernel) (as := [g_n ((-1))]) (r := []) rfl rfl rfl hO1 rfl rfl ?_
    refine r_callV h fun M16 hx17 hok18 h => ?_
    replace h := h hx17 hok18
    replace hO1 := hO1.up hx17
    refine r_goto x_279_29 (t := 43) (by decide +kernel) ?_
    exact r_retV x_279_43 rfl h
theorem m_X12_goRow {d : Nat} {M : g_M} {Q : g_M → Prop} {a0 : Nat} {v1 : Int} (hv1 : g_InR v1) {v2 : Int} (hv2 : g_InR v2) {v3 : Int} (hv3 : g_InR v3) (h : g_ok M → g_O M a0 12 ∧ g_Call d 272 [.ref a0, g_n v2, g_n v3] M (g_qI fun r5 M2 => g_ext M M2 → g_ok M2 → g_InR r5 → g_Call d 276 [.ref a0, g_n v2, g_n r5] M2 (g_qI fun r10 M7 => g_ext M2 M7 → g_ok M7 → g_InR r10 → ((r10 < 0 → g_Run d 280 33 [(0, .ref a0), (1, g_n v1), (2, g_n v2), (3, g_n v3), (4, g_n r5), (5, g_n r10)] [g_n ((-1))] M7 (g_qV Q)) ∧ (¬ r10 < 0 → g_Call d 241 [.ref a0, g_n v1, g_n r10] M7 (g_qI fun r15 M12 => g_ext M7 M12 → g_ok M12 → g_InR r15 → g_Run d 280 33 [(0, .ref a0), (1, g_n v1), (2, g_n v2), (3, g_n v3), (4, g_n r5), (5, g_n r10)] [g_n r15] M12 (g_qV Q))))))) : g_Call (d + 1) 280 [.ref a0, g_n v1, g_n v2, g_n v3] M (g_qV Q) := by
  refine g_Call.ok fun hok0 => ?_
  replace h := h hok0
  refine r_body rfl (lv := [(0, .ref a0), (1, g_n v1), (2, g_n v2), (3, g_n v3)]) rfl ?_
  refine g_Run.ok fun hok => ?_
  refine r_aload_n x_280_0 rfl ?_
  refine r_iload_n x_280_1 rfl ?_
  refine r_iload_n x_280_2 rfl ?_
  obtain ⟨hO1, h⟩ := h
  refine r_invV x_280_3 (z := 272) (ns := 0) (by decide +kernel) (as := [g_n v2, g_n v3]) (r := []) rfl rfl rfl hO1 rfl rfl ?_
  refine r_callI h fun r5 M2 hx3 hok4 hr6 h => ?_
  replace h := h hx3 hok4 hr6
  replace hO1 := hO1.up hx3
  refine r_istore x_280_6 (by decide +kernel) rfl (lv1 := [(0, .ref a0), (1, g_n v1), (2, g_n v2), (3, g_n v3), (4, g_n r5)]) rfl ?_
  refine r_aload_n x_280_8 rfl ?_
  refine r_iload_n x_280_9 rfl ?_
  refine r_iload x_280_10 rfl ?_
  refine r_invV x_280_12 (z := 276) (ns := 0) (by decide +kernel) (as := [g_n v2, g_n r5]) (r := []) rfl rfl rfl hO1 rfl rfl ?_
  refine r_callI h fun r10 M7 hx8 hok9 hr11 h => ?_
  replace h := h hx8 hok9 hr11
  replace hO1 := hO1.up hx8
  refine r_istore x_280_15 (by decide +kernel) rfl (lv1 := [(0, .ref a0), (1, g_n v1), (2, g_n v2), (3, g_n v3), (4, g_n r5), (5, g_n r10)]) rfl ?_
  refine r_iload x_280_17 rfl ?_
  refine r_if_ge x_280_19 (t := 26) (by decide +kernel) hr11 (fun hc => ?_) (fun hc => ?_)
  · replace h := h.2 hc
    refine r_aload_n x_280_26 rfl ?_
    refine r_iload_n x_280_27 rfl ?_
    refine r_iload x_280_28 rfl ?_
    refine r_invV x_280_30 (z := 241) (ns := 0) (by decide +kernel) (as := [g_n v1, g_n r10]) (r := []) rfl rfl rfl hO1 rfl rfl ?_
    refine r_callI h fun r15 M12 hx13 hok14 hr16 h => ?_
    replace h := h hx13 hok14 hr16
    replace hO1 := hO1.up hx13
    exact h
  · replace h := h.1 hc
    refine r_iconst x_280_22 ?_
    refine r_goto x_280_23 (t := 33) (by decide +kernel) ?_
    exact h
theorem s_X12_goRow_33 {d : Nat} {M : g_M} {Q : g_M → Prop} {a0 : Nat} {v1 : Int} (hv1 : g_InR v1) {v2 : Int} (hv2 : g_InR v2) {v3 : Int} (hv3 : g_InR v3) {v4 : Int} (hv4 : g_InR v4) {v5 : Int} (hv5 : g_InR v5) {w0 : Int} (hw0 : g_InR w0) (h : g_ok M → ((w0 = (-1) → g_Call d 237 [g_n v1] M (g_qI fun r4 M1 => g_ext M M1 → g_ok M1 → g_InR r4 → g_Run d 280 58 [(0, .ref a0), (1, g_n v1), (2, g_n v2), (3, g_n v3), (4, g_n v4), (5, g_n v5), (6, g_n w0), (7, g_n r4)] [] M1 (g_qV Q))) ∧ (¬ w0 = (-1) → g_InR (v4 + 1) ∧ g_O M a0 12 ∧ g_Call d 278 [.ref a0, g_n w0, g_n (v4 + 1), g_n v3] M (g_qV fun M8 => g_ext M M8 → g_ok M8 → g_Call d 237 [g_n v1] M8 (g_qI fun r14 M11 => g_ext M8 M11 → g_ok M11 → g_InR r14 → g_Run d 280 58 [(0, .ref a0), (1, g_n v1), (2, g_n v2), (3, g_n v3), (4, g_n v4), (5, g_n v5), (6, g_n w0), (7, g_n r14)] [] M11 (g_qV Q)))))) : g_Run d 280 33 [(0, .ref a0), (1, g_n v1), (2, g_n v2), (3, g_n v3), (4, g_n v4), (5, g_n v5)] [g_n w0] M (g_qV Q) := by
  refine g_Run.ok fun hok => ?_
  replace h := h hok
  refine r_istore x_280_33 (by decide +kernel) rfl (lv1 := [(0, .ref a0), (1, g_n v1), (2, g_n v2), (3, g_n v3), (4, g_n v4), (5, g_n v5), (6, g_n w0)]) rfl ?_
  refine r_iload x_280_35 rfl ?_
  refine r_iconst x_280_37 ?_
  refine r_ic_eq x_280_38 (t := 52) (by decide +kernel) hw0 (g_Rk rfl) (fun hc => ?_) (fun hc => ?_)
  · replace h := h.1 hc
    refine r_iload_n x_280_52 rfl ?_
    refine r_invS x_280_53 (z := 237) (ns := 0) (by decide +kernel) (as := [g_n v1]) (r := []) rfl rfl rfl ?_
    refine r_callI h fun r4 M1 hx2 hok3 hr5 h => ?_
    replace h := h hx2 hok3 hr5
    refine r_istore x_280_56 (by decide +kernel) rfl (lv1 := [(0, .ref a0), (1, g_n v1), (2, g_n v2), (3, g_n v3), (4, g_n v4), (5, g_n v5), (6, g_n w0), (7, g_n r4)]) rfl ?_
    exact h
  · replace h := h.2 hc
    refine r_aload_n x_280_41 rfl ?_
    refine r_iload x_280_42 rfl ?_
    refine r_iload x_280_44 rfl ?_
    refine r_iconst x_280_46 ?_
    refine r_iadd x_280_47 ?_
    obtain ⟨h6, h⟩ := h
    refine r_iload_n x_280_48 rfl ?_
    obtain ⟨hO7, h⟩ := h
    refine r_invV x_280_49 (z := 278) (ns := 0) (by decide +kernel) (as := [g_n w0, g_n (v4 + 1), g_n v3]) (r := []) rfl rfl rfl hO7 rfl rfl ?_
    refine r_callV h fun M8 hx9 hok10 h => ?_
    replace h := h hx9 hok10
    replace hO7 := hO7.up hx9
    refine r_iload_n x_280_52 rfl ?_
    refine r_invS x_280_53 (z := 237) (ns := 0) (by decide +kernel) (as := [g_n v1]) (r := []) rfl rfl rfl ?_
    refine r_callI h fun r14 M11 hx12 hok13 hr15 h => ?_
    replace h := h hx12 hok13 hr15
    replace hO7 := hO7.up hx12
    refine r_istore x_280_56 (by decide +kernel) rfl (lv1 := [(0, .ref a0), (1, g_n v1), (2, g_n v2), (3, g_n v3), (4, g_n v4), (5, g_n v5), (6, g_n w0), (7, g_n r14)]) rfl ?_
    exact h
theorem s_X12_goRow_58 {d : Nat} {M : g_M} {Q : g_M → Prop} {a0 : Nat} {v1 : Int} (hv1 : g_InR v1) {v2 : Int} (hv2 : g_InR v2) {v3 : Int} (hv3 : g_InR v3) {v4 : Int} (hv4 : g_InR v4) {v5 : Int} (hv5 : g_InR v5) {v6 : Int} (hv6 : g_InR v6) {v7 : Int} (hv7 : g_InR v7) (h : g_ok M → g_O M a0 12 ∧ g_Call d 238 [.ref a0, g_n v1] M (g_qI fun r5 M2 => g_ext M M2 → g_ok M2 → g_InR r5 → ((v7 < r5 → ∃ b7, g_r M2 a0 0 = some b7 ∧ ∃ n9, g_A M2 b7 0 n9 ∧ ((0 : Int) ≤ v7 ∧ (v7 : Int) < n9) ∧ ((g_i M2 b7 v7 = 3 → g_Call d 233 [.ref a0, g_n v7] M2 (g_qI fun r20 M17 => g_ext M2 M17 → g_ok M17 → g_InR r20 → g_Call d 279 [.ref a0, g_n r20, g_n v2, g_n v3] M17 (g_qV fun M22 => g_ext M17 M22 → g_ok M22 → g_Call d 235 [.ref a0, g_n v7] M22 (g_qI fun r28 M25 => g_ext M22 M25 → g_ok M25 → g_InR r28 → g_Run d 280 58 [(0, .ref a0), (1, g_n v1), (2, g_n v2), (3, g_n v3), (4, g_n v4), (5, g_n v5), (6, g_n v6), (7, g_n r28)] [] M25 (g_qV Q))))) ∧ (¬ g_i M2 b7 v7 = 3 → g_Call d 235 [.ref a0, g_n v7] M2 (g_qI fun r15 M12 => g_ext M2 M12 → g_ok M12 → g_InR r15 → g_Run d 280 58 [(0, .ref a0), (1, g_n v1), (2, g_n v2), (3, g_n v3), (4, g_n v4), (5, g_n v5), (6, g_n v6), (7, g_n r15)] [] M12 (g_qV Q))))) ∧ (¬ v7 < r5 → Q M2)))) : g_Run d 280 58 [(0, .ref a0), (1, g_n v1), (2, g_n v2), (3, g_n v3), (4, g_n v4), (5, g_n v5), (6, g_n v6), (7, g_n v7)] [] M (g_qV Q) := by
  refine g_Run.ok fun hok => ?_
  replace h := h hok
  refine r_iload x_280_58 rfl ?_
  refine r_aload_n x_280_60 rfl ?_
  refine r_iload_n x_280_61 rfl ?_
  obtain ⟨hO1, h⟩ := h
  refine r_invV x_280_62 (z := 238) (ns := 0) (by decide +kernel) (as := [g_n v1]) (r := [g_n v7]) rfl rfl rfl hO1 rfl rfl ?_
  refine r_callI h fun r5 M2 hx3 hok4 hr6 h => ?_
  replace h := h hx3 hok4 hr6
  replace hO1 := hO1.up hx3
  refine r_ic_ge x_280_65 (t := 102) (by decide +kernel) hv7 hr6 (fun hc => ?_) (fun hc => ?_)
  · replace h := h.2 hc
    exact r_retV x_280_102 rfl h
  · replace h := h.1 hc
    refine r_aload_n x_280_68 rfl ?_
    obtain ⟨b7, hb8, h⟩ := h
    refine r_getR x_280_69 rfl (ci := 12) (k := 0) (ns := 0) (by decide +kernel) (by decide) rfl (kz := 0) rfl hO1 hb8 ?_
    refine r_iload x_280_72 rfl ?_
    obtain ⟨n9, hA10, h⟩ := h
    obtain ⟨h11, h⟩ := h
    refine r_bald x_280_74 (Or.inl rfl) hA10 hv7 h11.1 h11.2 ?_
    refine r_iconst x_280_75 ?_
    refine r_ic_ne x_280_76 (t := 91) (by decide +kernel) (hok4.1 _ _) (g_Rk rfl) (fun hc => ?_) (fun hc => ?_)
    · replace h := h.2 hc
      refine r_aload_n x_280_91 rfl ?_
      refine r_iload x_280_92 rfl ?_
      refine r_invV x_280_94 (z := 235) (ns := 0) (by decide +kernel) (as := [g_n v7]) (r := []) rfl rfl rfl hO1 rfl rfl ?_
      refine r_callI h fun r15 M12 hx13 hok14 hr16 h => ?_
      replace h := h hx13 hok14 hr16
      replace hO1 := hO1.up hx13
      replace hA10 := hA10.up hx13
      refine r_istore x_280_97 (by decide +kernel) rfl (lv1 := [(0, .ref a0), (1, g_n v1), (2, g_n v2), (3, g_n v3), (4, g_n v4), (5, g_n v5), (6, g_n v6), (7, g_n r15)]) rfl ?_
      refine r_goto x_280_99 (t := 58) (by decide +kernel) ?_
      exact h
    · replace h := h.1 hc
      refine r_aload_n x_280_79 rfl ?_
      refine r_aload_n x_280_80 rfl ?_
      refine r_iload x_280_81 rfl ?_
      refine r_invV x_280_83 (z := 233) (ns := 0) (by decide +kernel) (as := [g_n v7]) (r := [.ref a0]) rfl rfl rfl hO1 rfl rfl ?_
      refine r_callI h fun r20 M17 hx18 hok19 hr21 h => ?_
      replace h := h hx18 hok19 hr21
      replace hO1 := hO1.up hx18
      replace hA10 := hA10.up hx18
      refine r_iload_n x_280_86 rfl ?_
      refine r_iload_n x_280_87 rfl ?_
      refine r_invV x_280_88 (z := 279) (ns := 0) (by decide +kernel) (as := [g_n r20, g_n v2, g_n v3]) (r := []) rfl rfl rfl hO1 rfl rfl ?_
      refine r_callV h fun M22 hx23 hok24 h => ?_
      replace h := h hx23 hok24
      replace hO1 := hO1.up hx23
      replace hA10 := hA10.up hx23
      refine r_aload_n x_280_91 rfl ?_
      refine r_iload x_280_92 rfl ?_
      refine r_invV x_280_94 (z := 235) (ns := 0) (by decide +kernel) (as := [g_n v7]) (r := []) rfl rfl rfl hO1 rfl rfl ?_
      refine r_callI h fun r28 M25 hx26 hok27 hr29 h => ?_
      replace h := h hx26 hok27 hr29
      replace hO1 := hO1.up hx26
      replace hA10 := hA10.up hx26
      refine r_istore x_280_97 (by decide +kernel) rfl (lv1 := [(0, .ref a0), (1, g_n v1), (2, g_n v2), (3, g_n v3), (4, g_n v4), (5, g_n v5), (6, g_n v6), (7, g_n r28)]) rfl ?_
      refine r_goto x_280_99 (t := 58) (by decide +kernel) ?_
      exact h
theorem m_X12_withItems {d : Nat} {M : g_M} {Q : Int → g_M → Prop} {a0 : Nat} {v1 : Int} (hv1 : g_InR v1) {v2 : Int} (hv2 : g_InR v2) {v3 : Int} (hv3 : g_InR v3) (h : g_ok M → g_O M a0 12 ∧ g_Call d 279 [.ref a0, g_n v1, g_n v2, g_n v3] M (g_qV fun M2 => g_ext M M2 → g_ok M2 → g_Run d 281 23 [(0, .ref a0), (1, g_n v1), (2, g_n v2), (3, g_n v3), (4, g_n (g_i M a0 10)), (5, g_n (g_i M2 a0 10)), (6, g_n (g_i M a0 10))] [] M2 (g_qI Q))) : g_Call (d + 1) 281 [.ref a0, g_n v1, g_n v2, g_n v3] M (g_qI Q) := by
  refine g_Call.ok fun hok0 => ?_
  replace h := h hok0
  refine r_body rfl (lv := [(0, .ref a0), (1, g_n v1), (2, g_n v2), (3, g_n v3)]) rfl ?_
  refine g_Run.ok fun hok => ?_
  refine r_aload_n x_281_0 rfl ?_
  obtain ⟨hO1, h⟩ := h
  refine r_getI x_281_1 rfl (ci := 12) (k := 10) (ns := 0) (by decide +kernel) (by decide) rfl (kz := 10) rfl hO1 ?_
  refine r_istore x_281_4 (by decide +kernel) rfl (lv1 := [(0, .ref a0), (1, g_n v1), (2, g_n v2), (3, g_n v3), (4, g_n (g_i M a0 10))]) rfl ?_
  refine r_aload_n x_281_6 rfl ?_
  refine r_iload_n x_281_7 rfl ?_
  refine r_iload_n x_281_8 rfl ?_
  refine r_iload_n x_281_9 rfl ?_
  refine r_invV x_281_10 (z := 279) (ns := 0) (by decide +kernel) (as := [g_n v1, g_n v2, g_n v3]) (r := []) rfl rfl rfl hO1 rfl rfl ?_
  refine r_callV h fun M2 hx3 hok4 h => ?_
  replace h := h hx3 hok4
  replace hO1 := hO1.up hx3
  refine r_aload_n x_281_13 rfl ?_
  refine r_getI x_281_14 rfl (ci := 12) (k := 10) (ns := 0) (by decide +kernel) (by decide) rfl (kz := 10) rfl hO1 ?_
  refine r_istore x_281_17 (by decide +kernel) rfl (lv1 := [(0, .ref a0), (1, g_n v1), (2, g_n v2), (3, g_n v3), (4, g_n (g_i M a0 10)), (5, g_n (g_i M2 a0 10))]) rfl ?_
  refine r_iload x_281_19 rfl ?_
  refine r_istore x_281_21 (by decide +kernel) rfl (lv1 := [(0, .ref a0), (1, g_n v1), (2, g_n v2), (3, g_n v3), (4, g_n (g_i M a0 10)), (5, g_n (g_i M2 a0 10)), (6, g_n (g_i M a0 10))]) rfl ?_
  exact h
theorem s_X12_withItems_23 {d : Nat} {M : g_M} {Q : Int → g_M → Prop} {a0 : Nat} {v1 : Int} (hv1 : g_InR v1) {v2 : Int} (hv2 : g_InR v2) {v3 : Int} (hv3 : g_InR v3) {v4 : Int} (hv4 : g_InR v4) {v5 : Int} (hv5 : g_InR v5) {v6 : Int} (hv6 : g_InR v6) (h : g_ok M → ((v6 < v5 → g_O M a0 12 ∧ ∃ b2, g_r M a0 9 = some b2 ∧ ∃ n4, g_A M b2 1 n4 ∧ ((0 : Int) ≤ v6 ∧ (v6 : Int) < n4) ∧ g_Call d 277 [.ref a0, g_n (g_i M b2 v6)] M (g_qV fun M7 => g_ext M M7 → g_ok M7 → ∃ b10, g_r M7 a0 9 = some b10 ∧ ∃ n12, g_A M7 b10 1 n12 ∧ ((0 : Int) ≤ v6 ∧ (v6 : Int) < n12) ∧ ((g_i M7 b10 v6 = (-1) → g_InR (v6 + 1) ∧ g_Run d 281 23 [(0, .ref a0), (1, g_n v1), (2, g_n v2), (3, g_n v3), (4, g_n v4), (5, g_n v5), (6, g_n (v6 + 1))] [] M7 (g_qI Q)) ∧ (¬ g_i M7 b10 v6 = (-1) → ∃ b16, g_r M7 a0 0 = some b16 ∧ ∃ b18, g_r M7 a0 9 = some b18 ∧ ∃ n20, g_A M7 b18 1 n20 ∧ ((0 : Int) ≤ v6 ∧ (v6 : Int) < n20) ∧ ∃ n23, g_A M7 b16 0 n23 ∧ ((0 : Int) ≤ g_i M7 b18 v6 ∧ (g_i M7 b18 v6 : Int) < n23) ∧ ((g_i M7 b16 (g_i M7 b18 v6) = 4 → ∃ b27, g_r M7 a0 9 = some b27 ∧ ∃ n29, g_A M7 b27 1 n29 ∧ ((0 : Int) ≤ v6 ∧ (v6 : Int) < n29) ∧ g_Call d 233 [.ref a0, g_n (g_i M7 b27 v6)] M7 (g_qI fun r35 M32 => g_ext M7 M32 → g_ok M32 → g_InR r35 → g_Call d 237 [g_n r35] M32 (g_qI fun r40 M37 => g_ext M32 M37 → g_ok M37 → g_InR r40 → g_Run d 281 84 [(0, .ref a0), (1, g_n v1), (2, g_n v2), (3, g_n v3), (4, g_n v4), (5, g_n v5), (6, g_n v6), (7, g_n r40)] [] M37 (g_qI Q)))) ∧ (¬ g_i M7 b16 (g_i M7 b18 v6) = 4 → g_InR (v6 + 1) ∧ g_Run d 281 23 [(0, .ref a0), (1, g_n v1), (2, g_n v2), (3, g_n v3), (4, g_n v4), (5, g_n v5), (6, g_n (v6 + 1))] [] M7 (g_qI Q))))))) ∧ (¬ v6 < v5 → Q v5 M))) : g_Run d 281 23 [(0, .ref a0), (1, g_n v1), (2, g_n v2), (3, g_n v3), (4, g_n v4), (5, g_n v5), (6, g_n v6)] [] M (g_qI Q) := by
  refine g_Run.ok fun hok => ?_
  replace h := h hok
  refine r_iload x_281_23 rfl ?_
  refine r_iload x_281_25 rfl ?_
  refine r_ic_ge x_281_27 (t := 127) (by decide +kernel) hv6 hv5 (fun hc => ?_) (fun hc => ?_)
  · replace h := h.2 hc
    refine r_iload x_281_127 rfl ?_
    exact r_retI x_281_129 rfl hv5 h
  · replace h := h.1 hc
    refine r_aload_n x_281_30 rfl ?_
    refine r_aload_n x_281_31 rfl ?_
    obtain ⟨hO1, h⟩ := h
    obtain ⟨b2, hb3, h⟩ := h
    refine r_getR x_281_32 rfl (ci := 12) (k := 9) (ns := 0) (by decide +kernel) (by decide) rfl (kz := 9) rfl hO1 hb3 ?_
    refine r_iload x_281_35 rfl ?_
    obtain ⟨n4, hA5, h⟩ := h
    obtain ⟨h6, h⟩ := h
    refine r_iald x_281_37 hA5 hv6 h6.1 h6.2 ?_
    refine r_invV x_281_38 (z := 277) (ns := 0) (by decide +kernel) (as := [g_n (g_i M b2 v6)]) (r := []) rfl rfl rfl hO1 rfl rfl ?_
    refine r_callV h fun M7 hx8 hok9 h => ?_
    replace h := h hx8 hok9
    replace hO1 := hO1.up hx8
    replace hA5 := hA5.up hx8
    refine r_aload_n x_281_41 rfl ?_
    obtain ⟨b10, hb11, h⟩ := h
    refine r_getR x_281_42 rfl (ci := 12) (k := 9) (ns := 0) (by decide +kernel) (by decide) rfl (kz := 9) rfl hO1 hb11 ?_
    refine r_iload x_281_45 rfl ?_
    obtain ⟨n12, hA13, h⟩ := h
    obtain ⟨h14, h⟩ := h
    refine r_iald x_281_47 hA13 hv6 h14.1 h14.2 ?_
    refine r_iconst x_281_48 ?_
    refine r_ic_eq x_281_49 (t := 121) (by decide +kernel) (hok9.1 _ _) (g_Rk rfl) (fun hc => ?_) (fun hc => ?_)
    · replace h := h.1 hc
      obtain ⟨h15, h⟩ := h
      refine r_iinc x_281_121 (by decide +kernel) rfl rfl (lv1 := [(0, .ref a0), (1, g_n v1), (2, g_n v2), (3, g_n v3), (4, g_n v4), (5, g_n v5), (6, g_n (v6 + 1))]) rfl ?_
      refine r_goto x_281_124 (t := 23) (by decide +kernel) ?_
      exact h
    · replace h := h.2 hc
      refine r_aload_n x_281_52 rfl ?_
      obtain ⟨b16, hb17, h⟩ := h
      refine r_getR x_281_53 rfl (ci := 12) (k := 0) (ns := 0) (by decide +kernel) (by decide) rfl (kz := 0) rfl hO1 hb17 ?_
      refine r_aload_n x_281_56 rfl ?_
      obtain ⟨b18, hb19, h⟩ := h
      refine r_getR x_281_57 rfl (ci := 12) (k := 9) (ns := 0) (by decide +kernel) (by decide) rfl (kz := 9) rfl hO1 hb19 ?_
      refine r_iload x_281_60 rfl ?_
      obtain ⟨n20, hA21, h⟩ := h
      obtain ⟨h22, h⟩ := h
      refine r_iald x_281_62 hA21 hv6 h22.1 h22.2 ?_
      obtain ⟨n23, hA24, h⟩ := h
      obtain ⟨h25, h⟩ := h
      refine r_bald x_281_63 (Or.inl rfl) hA24 (hok9.1 _ _) h25.1 h25.2 ?_
      refine r_iconst x_281_64 ?_
      refine r_ic_ne x_281_65 (t := 121) (by decide +kernel) (hok9.1 _ _) (g_Rk rfl) (fun hc => ?_) (fun hc => ?_)
      · replace h := h.2 hc
        obtain ⟨h26, h⟩ := h
        refine r_iinc x_281_121 (by decide +kernel) rfl rfl (lv1 := [(0, .ref a0), (1, g_n v1), (2, g_n v2), (3, g_n v3), (4, g_n v4), (5, g_n v5), (6, g_n (v6 + 1))]) rfl ?_
        refine r_goto x_281_124 (t := 23) (by decide +kernel) ?_
        exact h
      · replace h := h.1 hc
        refine r_aload_n x_281_68 rfl ?_
        refine r_aload_n x_281_69 rfl ?_
        obtain ⟨b27, hb28, h⟩ := h
        refine r_getR x_281_70 rfl (ci := 12) (k := 9) (ns := 0) (by decide +kernel) (by decide) rfl (kz := 9) rfl hO1 hb28 ?_
        refine r_iload x_281_73 rfl ?_
        obtain ⟨n29, hA30, h⟩ := h
        obtain ⟨h31, h⟩ := h
        refine r_iald x_281_75 hA30 hv6 h31.1 h31.2 ?_
        refine r_invV x_281_76 (z := 233) (ns := 0) (by decide +kernel) (as := [g_n (g_i M7 b27 v6)]) (r := []) rfl rfl rfl hO1 rfl rfl ?_
        refine r_callI h fun r35 M32 hx33 hok34 hr36 h => ?_
        replace h := h hx33 hok34 hr36
        replace hO1 := hO1.up hx33
        replace hA5 := hA5.up hx33
        replace hA13 := hA13.up hx33
        replace hA21 := hA21.up hx33
        replace hA24 := hA24.up hx33
        replace hA30 := hA30.up hx33
        refine r_invS x_281_79 (z := 237) (ns := 0) (by decide +kernel) (as := [g_n r35]) (r := []) rfl rfl rfl ?_
        refine r_callI h fun r40 M37 hx38 hok39 hr41 h => ?_
        replace h := h hx38 hok39 hr41
        replace hO1 := hO1.up hx38
        replace hA5 := hA5.up hx38
        replace hA13 := hA13.up hx38
        replace hA21 := hA21.up hx38
        replace hA24 := hA24.up hx38
        replace hA30 := hA30.up hx38
        refine r_istore x_281_82 (by decide +kernel) rfl (lv1 := [(0, .ref a0), (1, g_n v1), (2, g_n v2), (3, g_n v3), (4, g_n v4), (5, g_n v5), (6, g_n v6), (7, g_n r40)]) rfl ?_
        exact h
theorem s_X12_withItems_84 {d : Nat} {M : g_M} {Q : Int → g_M → Prop} {a0 : Nat} {v1 : Int} (hv1 : g_InR v1) {v2 : Int} (hv2 : g_InR v2) {v3 : Int} (hv3 : g_InR v3) {v4 : Int} (hv4 : g_InR v4) {v5 : Int} (hv5 : g_InR v5) {v6 : Int} (hv6 : g_InR v6) {v7 : Int} (hv7 : g_InR v7) (h : g_ok M → g_O M a0 12 ∧ ∃ b2, g_r M a0 9 = some b2 ∧ ∃ n4, g_A M b2 1 n4 ∧ ((0 : Int) ≤ v6 ∧ (v6 : Int) < n4) ∧ g_Call d 233 [.ref a0, g_n (g_i M b2 v6)] M (g_qI fun r10 M7 => g_ext M M7 → g_ok M7 → g_InR r10 → g_Call d 238 [.ref a0, g_n r10] M7 (g_qI fun r15 M12 => g_ext M7 M12 → g_ok M12 → g_InR r15 → ((v7 < r15 → g_Call d 277 [.ref a0, g_n v7] M12 (g_qV fun M18 => g_ext M12 M18 → g_ok M18 → g_Call d 235 [.ref a0, g_n v7] M18 (g_qI fun r24 M21 => g_ext M18 M21 → g_ok M21 → g_InR r24 → g_Run d 281 84 [(0, .ref a0), (1, g_n v1), (2, g_n v2), (3, g_n v3), (4, g_n v4), (5, g_n v5), (6, g_n v6), (7, g_n r24)] [] M21 (g_qI Q)))) ∧ (¬ v7 < r15 → g_InR (v6 + 1) ∧ g_Run d 281 23 [(0, .ref a0), (1, g_n v1), (2, g_n v2), (3, g_n v3), (4, g_n v4), (5, g_n v5), (6, g_n (v6 + 1))] [] M12 (g_qI Q)))))) : g_Run d 281 84 [(0, .ref a0), (1, g_n v1), (2, g_n v2), (3, g_n v3), (4, g_n v4), (5, g_n v5), (6, g_n v6), (7, g_n v7)] [] M (g_qI Q) := by
  refine g_Run.ok fun hok => ?_
  replace h := h hok
  refine r_iload x_281_84 rfl ?_
  refine r_aload_n x_281_86 rfl ?_
  refine r_aload_n x_281_87 rfl ?_
  refine r_aload_n x_281_88 rfl ?_
  obtain ⟨hO1, h⟩ := h
  obtain ⟨b2, hb3, h⟩ := h
  refine r_getR x_281_89 rfl (ci := 12) (k := 9) (ns := 0) (by decide +kernel) (by decide) rfl (kz := 9) rfl hO1 hb3 ?_
  refine r_iload x_281_92 rfl ?_
  obtain ⟨n4, hA5, h⟩ := h
  obtain ⟨h6, h⟩ := h
  refine r_iald x_281_94 hA5 hv6 h6.1 h6.2 ?_
  refine r_invV x_281_95 (z := 233) (ns := 0) (by decide +kernel) (as := [g_n (g_i M b2 v6)]) (r := [.ref a0, g_n v7]) rfl rfl rfl hO1 rfl rfl ?_
  refine r_callI h fun r10 M7 hx8 hok9 hr11 h => ?_
  replace h := h hx8 hok9 hr11
  replace hO1 := hO1.up hx8
  replace hA5 := hA5.up hx8
  refine r_invV x_281_98 (z := 238) (ns := 0) (by decide +kernel) (as := [g_n r10]) (r := [g_n v7]) rfl rfl rfl hO1 rfl rfl ?_
  refine r_callI h fun r15 M12 hx13 hok14 hr16 h => ?_
  replace h := h hx13 hok14 hr16
  replace hO1 := hO1.up hx13
  replace hA5 := hA5.up hx13
  refine r_ic_ge x_281_101 (t := 121) (by decide +kernel) hv7 hr16 (fun hc => ?_) (fun hc => ?_)
  · replace h := h.2 hc
    obtain ⟨h17, h⟩ := h
    refine r_iinc x_281_121 (by decide +kernel) rfl rfl (lv1 := [(0, .ref a0), (1, g_n v1), (2, g_n v2), (3, g_n v3), (4, g_n v4), (5, g_n v5), (6, g_n (v6 + 1)), (7, g_n v7)]) rfl ?_
    refine r_goto x_281_124 (t := 23) (by decide +kernel) ?_
    refine g_drop [0, 1, 2, 3, 4, 5, 6] (lv1 := [(0, .ref a0), (1, g_n v1), (2, g_n v2), (3, g_n v3), (4, g_n v4), (5, g_n v5), (6, g_n (v6 + 1))]) rfl ?_
    exact h
  · replace h := h.1 hc
    refine r_aload_n x_281_104 rfl ?_
    refine r_iload x_281_105 rfl ?_
    refine r_invV x_281_107 (z := 277) (ns := 0) (by decide +kernel) (as := [g_n v7]) (r := []) rfl rfl rfl hO1 rfl rfl ?_
    refine r_callV h fun M18 hx19 hok20 h => ?_
    replace h := h hx19 hok20
    replace hO1 := hO1.up hx19
    replace hA5 := hA5.up hx19
    refine r_aload_n x_281_110 rfl ?_
    refine r_iload x_281_111 rfl ?_
    refine r_invV x_281_113 (z := 235) (ns := 0) (by decide +kernel) (as := [g_n v7]) (r := []) rfl rfl rfl hO1 rfl rfl ?_
    refine r_callI h fun r24 M21 hx22 hok23 hr25 h => ?_
    replace h := h hx22 hok23 hr25
    replace hO1 := hO1.up hx22
    replace hA5 := hA5.up hx22
    refine r_istore x_281_116 (by decide +kernel) rfl (lv1 := [(0, .ref a0), (1, g_n v1), (2, g_n v2), (3, g_n v3), (4, g_n v4), (5, g_n v5), (6, g_n v6), (7, g_n r24)]) rfl ?_
    refine r_goto x_281_118 (t := 84) (by decide +kernel) ?_
    exact h
theorem m_X12_begins {d : Nat} {M : g_M} {Q : Int → g_M → Prop} {a0 : Nat} {v1 : Int} (hv1 : g_InR v1) {v2 : Int} (hv2 : g_InR v2) (h : g_ok M → g_InR (v1 + 1) ∧ g_O M a0 12 ∧ g_Call d 226 [.ref a0, g_n (v1 + 1)] M (g_qI fun r6 M3 => g_ext M M3 → g_ok M3 → g_InR r6 → ((r6 = v2 → Q 1 M3) ∧ (¬ r6 = v2 → Q 0 M3)))) : g_Call (d + 1) 282 [.ref a0, g_n v1, g_n v2] M (g_qI Q) := by
  refine g_Call.ok fun hok0 => ?_
  replace h := h hok0
  refine r_body rfl (lv := [(0, .ref a0), (1, g_n v1), (2, g_n v2)]) rfl ?_
  refine g_Run.ok fun hok => ?_
  refine r_aload_n x_282_0 rfl ?_
  refine r_iload_n x_282_1 rfl ?_
  refine r_iconst x_282_2 ?_
  refine r_iadd x_282_3 ?_
  obtain ⟨h1, h⟩ := h
  obtain ⟨hO2, h⟩ := h
  refine r_invV x_282_4 (z := 226) (ns := 0) (by decide +kernel) (as := [g_n (v1 + 1)]) (r := []) rfl rfl rfl hO2 rfl rfl ?_
  refine r_callI h fun r6 M3 hx4 hok5 hr7 h => ?_
  replace h := h hx4 hok5 hr7
  replace hO2 := hO2.up hx4
  refine r_iload_n x_282_7 rfl ?_
  refine r_ic_ne x_282_8 (t := 15) (by decide +kernel) hr7 hv2 (fun hc => ?_) (fun hc => ?_)
  · replace h := h.2 hc
    refine r_iconst x_282_15 ?_
    exact r_retZ x_282_16 rfl (Or.inl rfl) h
  · replace h := h.1 hc
    refine r_iconst x_282_11 ?_
    refine r_goto x_282_12 (t := 16) (by decide +kernel) ?_
    exact r_retZ x_282_16 rfl (Or.inr rfl) h
theorem m_X12_isJoining {d : Nat} {M : g_M} {Q : Int → g_M → Prop} {a0 : Nat} {v1 : Int} (hv1 : g_InR v1) (h : g_ok M → g_O M a0 12 ∧ g_Call d 236 [.ref a0, g_n v1, .ref (4 * 94 + 1)] M (g_qI fun r5 M2 => g_ext M M2 → g_ok M2 → g_InR r5 → ((r5 = 0 → g_Call d 236 [.ref a0, g_n v1, .ref (4 * 95 + 1)] M2 (g_qI fun r10 M7 => g_ext M2 M7 → g_ok M7 → g_InR r10 → ((r10 = 0 → g_Call d 236 [.ref a0, g_n v1, .ref (4 * 96 + 1)] M7 (g_qI fun r15 M12 => g_ext M7 M12 → g_ok M12 → g_InR r15 → ((r15 = 0 → Q 0 M12) ∧ (¬ r15 = 0 → Q 1 M12)))) ∧ (¬ r10 = 0 → Q 1 M7)))) ∧ (¬ r5 = 0 → Q 1 M2)))) : g_Call (d + 1) 283 [.ref a0, g_n v1] M (g_qI Q) := by
  refine g_Call.ok fun hok0 => ?_
  replace h := h hok0
  refine r_body rfl (lv := [(0, .ref a0), (1, g_n v1)]) rfl ?_
  refine g_Run.ok fun hok => ?_
  refine r_aload_n x_283_0 rfl ?_
  refine r_iload_n x_283_1 rfl ?_
  refine r_ldcw x_283_2 (v := .ref (4 * 94 + 1)) rfl ?_
  obtain ⟨hO1, h⟩ := h
  refine r_invV x_283_5 (z := 236) (ns := 0) (by decide +kernel) (as := [g_n v1, .ref (4 * 94 + 1)]) (r := []) rfl rfl rfl hO1 rfl rfl ?_
  refine r_callI h fun r5 M2 hx3 hok4 hr6 h => ?_
  replace h := h hx3 hok4 hr6
  replace hO1 := hO1.up hx3
  refine r_if_ne x_283_8 (t := 33) (by decide +kernel) hr6 (fun hc => ?_) (fun hc => ?_)
  · replace h := h.2 hc
    refine r_iconst x_283_33 ?_
    refine r_goto x_283_34 (t := 38) (by decide +kernel) ?_
    exact r_retZ x_283_38 rfl (Or.inr rfl) h
  · replace h := h.1 hc
    refine r_aload_n x_283_11 rfl ?_
    refine r_iload_n x_283_12 rfl ?_
    refine r_ldcw x_283_13 (v := .ref (4 * 95 + 1)) rfl ?_
    refine r_invV x_283_16 (z := 236) (ns := 0) (by decide +kernel) (as := [g_n v1, .ref (4 * 95 + 1)]) (r := []) rfl rfl rfl hO1 rfl rfl ?_
    refine r_callI h fun r10 M7 hx8 hok9 hr11 h => ?_
    replace h := h hx8 hok9 hr11
    replace hO1 := hO1.up hx8
    refine r_if_ne x_283_19 (t := 33) (by decide +kernel) hr11 (fun hc => ?_) (fun hc => ?_)
    · replace h := h.2 hc
      refine r_iconst x_283_33 ?_
      refine r_goto x_283_34 (t := 38) (by decide +kernel) ?_
      exact r_retZ x_283_38 rfl (Or.inr rfl) h
    · replace h := h.1 hc
      refine r_aload_n x_283_22 rfl ?_
      refine r_iload_n x_283_23 rfl ?_
      refine r_ldcw x_283_24 (v := .ref (4 * 96 + 1)) rfl ?_
      refine r_invV x_283_27 (z := 236) (ns := 0) (by decide +kernel) (as := [g_n v1, .ref (4 * 96 + 1)]) (r := []) rfl rfl rfl hO1 rfl rfl ?_
      refine r_callI h fun r15 M12 hx13 hok14 hr16 h => ?_
      replace h := h hx13 hok14 hr16
      replace hO1 := hO1.up hx13
      refine r_if_eq x_283_30 (t := 37) (by decide +kernel) hr16 (fun hc => ?_) (fun hc => ?_)
      · replace h := h.1 hc
        refine r_iconst x_283_37 ?_
        exact r_retZ x_283_38 rfl (Or.inl rfl) h
      · replace h := h.2 hc
        refine r_iconst x_283_33 ?_
        refine r_goto x_283_34 (t := 38) (by decide +kernel) ?_
        exact r_retZ x_283_38 rfl (Or.inr rfl) h
theorem m_X12_areConditions {d : Nat} {M : g_M} {Q : Int → g_M → Prop} {a0 : Nat} {v1 : Int} (hv1 : g_InR v1) (h : g_ok M → g_O M a0 12 ∧ ∃ b2, g_r M a0 0 = some b2 ∧ ∃ n4, g_A M b2 0 n4 ∧ ((0 : Int) ≤ v1 ∧ (v1 : Int) < n4) ∧ ((g_i M b2 v1 = 3 → g_Call d 233 [.ref a0, g_n v1] M (g_qI fun r10 M7 => g_ext M M7 → g_ok M7 → g_InR r10 → g_Call d 237 [g_n r10] M7 (g_qI fun r15 M12 => g_ext M7 M12 → g_ok M12 → g_InR r15 → g_Call d 233 [.ref a0, g_n v1] M12 (g_qI fun r20 M17 => g_ext M12 M17 → g_ok M17 → g_InR r20 → g_Call d 238 [.ref a0, g_n r20] M17 (g_qI fun r25 M22 => g_ext M17 M22 → g_ok M22 → g_InR r25 → ((r15 < r25 → g_Call d 282 [.ref a0, g_n r15, g_n 36] M22 (g_qI fun r30 M27 => g_ext M22 M27 → g_ok M27 → g_InR r30 → ((r30 = 0 → Q 0 M27) ∧ (¬ r30 = 0 → Q 1 M27)))) ∧ (¬ r15 < r25 → Q 0 M22))))))) ∧ (¬ g_i M b2 v1 = 3 → Q 0 M))) : g_Call (d + 1) 284 [.ref a0, g_n v1] M (g_qI Q) := by
  refine g_Call.ok fun hok0 => ?_
  replace h := h hok0
  refine r_body rfl (lv := [(0, .ref a0), (1, g_n v1)]) rfl ?_
  refine g_Run.ok fun hok => ?_
  refine r_aload_n x_284_0 rfl ?_
  obtain ⟨hO1, h⟩ := h
  obtain ⟨b2, hb3, h⟩ := h
  refine r_getR x_284_1 rfl (ci := 12) (k := 0) (ns := 0) (by decide +kernel) (by decide) rfl (kz := 0) rfl hO1 hb3 ?_
  refine r_iload_n x_284_4 rfl ?_
  obtain ⟨n4, hA5, h⟩ := h
  obtain ⟨h6, h⟩ := h
  refine r_bald x_284_5 (Or.inl rfl) hA5 hv1 h6.1 h6.2 ?_
  refine r_iconst x_284_6 ?_
  refine r_ic_eq x_284_7 (t := 12) (by decide +kernel) (hok.1 _ _) (g_Rk rfl) (fun hc => ?_) (fun hc => ?_)
  · replace h := h.1 hc
    refine r_aload_n x_284_12 rfl ?_
    refine r_iload_n x_284_13 rfl ?_
    refine r_invV x_284_14 (z := 233) (ns := 0) (by decide +kernel) (as := [g_n v1]) (r := []) rfl rfl rfl hO1 rfl rfl ?_
    refine r_callI h fun r10 M7 hx8 hok9 hr11 h => ?_
    replace h := h hx8 hok9 hr11
    replace hO1 := hO1.up hx8
    replace hA5 := hA5.up hx8
    refine r_invS x_284_17 (z := 237) (ns := 0) (by decide +kernel) (as := [g_n r10]) (r := []) rfl rfl rfl ?_
    refine r_callI h fun r15 M12 hx13 hok14 hr16 h => ?_
    replace h := h hx13 hok14 hr16
    replace hO1 := hO1.up hx13
    replace hA5 := hA5.up hx13
    refine r_istore_n x_284_20 (by decide +kernel) rfl (lv1 := [(0, .ref a0), (1, g_n v1), (2, g_n r15)]) rfl ?_
    refine r_iload_n x_284_21 rfl ?_
    refine r_aload_n x_284_22 rfl ?_
    refine r_aload_n x_284_23 rfl ?_
    refine r_iload_n x_284_24 rfl ?_
    refine r_invV x_284_25 (z := 233) (ns := 0) (by decide +kernel) (as := [g_n v1]) (r := [.ref a0, g_n r15]) rfl rfl rfl hO1 rfl rfl ?_
    refine r_callI h fun r20 M17 hx18 hok19 hr21 h => ?_
    replace h := h hx18 hok19 hr21
    replace hO1 := hO1.up hx18
    replace hA5 := hA5.up hx18
    refine r_invV x_284_28 (z := 238) (ns := 0) (by decide +kernel) (as := [g_n r20]) (r := [g_n r15]) rfl rfl rfl hO1 rfl rfl ?_
    refine r_callI h fun r25 M22 hx23 hok24 hr26 h => ?_
    replace h := h hx23 hok24 hr26
    replace hO1 := hO1.up hx23
    replace hA5 := hA5.up hx23
    refine r_ic_ge x_284_31 (t := 48) (by decide +kernel) hr16 hr26 (fun hc => ?_) (fun hc => ?_)
    · replace h := h.2 hc
      refine r_iconst x_284_48 ?_
      exact r_retZ x_284_49 rfl (Or.inl rfl) h
    · replace h := h.1 hc
      refine r_aload_n x_284_34 rfl ?_
      refine r_iload_n x_284_35 rfl ?_
      refine r_bipush x_284_36 (x := 36) rfl ?_
      refine r_invV x_284_38 (z := 282) (ns := 0) (by decide +kernel) (as := [g_n r15, g_n 36]) (r := []) rfl rfl rfl hO1 rfl rfl ?_
      refine r_callI h fun r30 M27 hx28 hok29 hr31 h => ?_
      replace h := h hx28 hok29 hr31
      replace hO1 := hO1.up hx28
      replace hA5 := hA5.up hx28
      refine r_if_eq x_284_41 (t := 48) (by decide +kernel) hr31 (fun hc => ?_) (fun hc => ?_)
      · replace h := h.1 hc
        refine r_iconst x_284_48 ?_
        exact r_retZ x_284_49 rfl (Or.inl rfl) h
      · replace h := h.2 hc
        refine r_iconst x_284_44 ?_
        refine r_goto x_284_45 (t := 49) (by decide +kernel) ?_
        exact r_retZ x_284_49 rfl (Or.inr rfl) h
  · replace h := h.2 hc
    refine r_iconst x_284_10 ?_
    exact r_retZ x_284_11 rfl (Or.inl rfl) h
theorem m_X12_areOfItems {d : Nat} {M : g_M} {Q : Int → g_M → Prop} {a0 : Nat} {v1 : Int} (hv1 : g_InR v1) (h : g_ok M → g_O M a0 12 ∧ g_Call d 284 [.ref a0, g_n v1] M (g_qI fun r5 M2 => g_ext M M2 → g_ok M2 → g_InR r5 → ((r5 = 0 → Q 0 M2) ∧ (¬ r5 = 0 → g_Call d 233 [.ref a0, g_n v1] M2 (g_qI fun r10 M7 => g_ext M2 M7 → g_ok M7 → g_InR r10 → g_Call d 237 [g_n r10] M7 (g_qI fun r15 M12 => g_ext M7 M12 → g_ok M12 → g_InR r15 → g_Call d 283 [.ref a0, g_n r15] M12 (g_qI fun r20 M17 => g_ext M12 M17 → g_ok M17 → g_InR r20 → ((r20 = 0 → Q 1 M17) ∧ (¬ r20 = 0 → Q 0 M17))))))))) : g_Call (d + 1) 285 [.ref a0, g_n v1] M (g_qI Q) := by
  refine g_Call.ok fun hok0 => ?_
  replace h := h hok0
  refine r_body rfl (lv := [(0, .ref a0), (1, g_n v1)]) rfl ?_
  refine g_Run.ok fun hok => ?_
  refine r_aload_n x_285_0 rfl ?_
  refine r_iload_n x_285_1 rfl ?_
  obtain ⟨hO1, h⟩ := h
  refine r_invV x_285_2 (z := 284) (ns := 0) (by decide +kernel) (as := [g_n v1]) (r := []) rfl rfl rfl hO1 rfl rfl ?_
  refine r_callI h fun r5 M2 hx3 hok4 hr6 h => ?_
  replace h := h hx3 hok4 hr6
  replace hO1 := hO1.up hx3
  refine r_if_eq x_285_5 (t := 27) (by decide +kernel) hr6 (fun hc => ?_) (fun hc => ?_)
  · replace h := h.1 hc
    refine r_iconst x_285_27 ?_
    exact r_retZ x_285_28 rfl (Or.inl rfl) h
  · replace h := h.2 hc
    refine r_aload_n x_285_8 rfl ?_
    refine r_aload_n x_285_9 rfl ?_
    refine r_iload_n x_285_10 rfl ?_
    refine r_invV x_285_11 (z := 233) (ns := 0) (by decide +kernel) (as := [g_n v1]) (r := [.ref a0]) rfl rfl rfl hO1 rfl rfl ?_
    refine r_callI h fun r10 M7 hx8 hok9 hr11 h => ?_
    replace h := h hx8 hok9 hr11
    replace hO1 := hO1.up hx8
    refine r_invS x_285_14 (z := 237) (ns := 0) (by decide +kernel) (as := [g_n r10]) (r := [.ref a0]) rfl rfl rfl ?_
    refine r_callI h fun r15 M12 hx13 hok14 hr16 h => ?_
    replace h := h hx13 hok14 hr16
    replace hO1 := hO1.up hx13
    refine r_invV x_285_17 (z := 283) (ns := 0) (by decide +kernel) (as := [g_n r15]) (r := []) rfl rfl rfl hO1 rfl rfl ?_
    refine r_callI h fun r20 M17 hx18 hok19 hr21 h => ?_
    replace h := h hx18 hok19 hr21
    replace hO1 := hO1.up hx18
    refine r_if_ne x_285_20 (t := 27) (by decide +kernel) hr21 (fun hc => ?_) (fun hc => ?_)
    · replace h := h.2 hc
      refine r_iconst x_285_27 ?_
      exact r_retZ x_285_28 rfl (Or.inl rfl) h
    · replace h := h.1 hc
      refine r_iconst x_285_23 ?_
      refine r_goto x_285_24 (t := 28) (by decide +kernel) ?_
      exact r_retZ x_285_28 rfl (Or.inr rfl) h
theorem m_X12_counts {d : Nat} {M : g_M} {Q : Int → g_M → Prop} {a0 : Nat} {v1 : Int} (hv1 : g_InR v1) {v2 : Int} (hv2 : g_InR v2) (h : g_ok M → g_O M a0 12 ∧ g_InR ((g_i M a0 11) + v1) ∧ (∀ M3, M3 = g_wi M a0 11 ((g_i M a0 11) + v1) → g_ok M3 → ((100 < g_i M3 a0 11 → g_Call d 257 [.ref a0, g_n 5, g_n v2] M3 (g_qI fun r10 M7 => g_ext M3 M7 → g_ok M7 → g_InR r10 → ((r10 = 0 → Q 0 M7) ∧ (¬ r10 = 0 → Q 1 M7)))) ∧ (¬ 100 < g_i M3 a0 11 → Q 1 M3)))) : g_Call (d + 1) 286 [.ref a0, g_n v1, g_n v2] M (g_qI Q) := by
  refine g_Call.ok fun hok0 => ?_
  replace h := h hok0
  refine r_body rfl (lv := [(0, .ref a0), (1, g_n v1), (2, g_n v2)]) rfl ?_
  refine g_Run.ok fun hok => ?_
  refine r_aload_n x_286_0 rfl ?_
  refine r_dup x_286_1 rfl ?_
  obtain ⟨hO1, h⟩ := h
  refine r_getI x_286_2 rfl (ci := 12) (k := 11) (ns := 0) (by decide +kernel) (by decide) rfl (kz := 11) rfl hO1 ?_
  refine r_iload_n x_286_5 rfl ?_
  refine r_iadd x_286_6 ?_
  obtain ⟨h2, h⟩ := h
  refine r_putI x_286_7 (ci := 12) (k := 11) (ns := 0) (by decide +kernel) (by decide) (g_f0 (by decide +kernel)) rfl h2 trivial (kz := 11) rfl hO1 ?_
  obtain ⟨M3, hM4⟩ : ∃ Mz, Mz = g_wi M a0 11 ((g_i M a0 11) + v1) := ⟨_, rfl⟩
  rw [← hM4]
  refine g_Run.ok fun hok5 => ?_
  replace h := h M3 hM4 hok5
  have hx6 := g_extW hM4
  replace hO1 := hO1.up hx6
  refine r_aload_n x_286_10 rfl ?_
  refine r_getI x_286_11 rfl (ci := 12) (k := 11) (ns := 0) (by decide +kernel) (by decide) rfl (kz := 11) rfl hO1 ?_
  refine r_bipush x_286_14 (x := 100) rfl ?_
  refine r_ic_le x_286_16 (t := 28) (by decide +kernel) (hok5.1 _ _) (g_Rk rfl) (fun hc => ?_) (fun hc => ?_)
  · replace h := h.2 hc
    refine r_iconst x_286_28 ?_
    refine r_goto x_286_29 (t := 33) (by decide +kernel) ?_
    exact r_retZ x_286_33 rfl (Or.inr rfl) h
  · replace h := h.1 hc
    refine r_aload_n x_286_19 rfl ?_
    refine r_iconst x_286_20 ?_
    refine r_iload_n x_286_21 rfl ?_
    refine r_invV x_286_22 (z := 257) (ns := 0) (by decide +kernel) (as := [g_n 5, g_n v2]) (r := []) rfl rfl rfl hO1 rfl rfl ?_
    refine r_callI h fun r10 M7 hx8 hok9 hr11 h => ?_
    replace h := h hx8 hok9 hr11
    replace hO1 := hO1.up hx8
    refine r_if_eq x_286_25 (t := 32) (by decide +kernel) hr11 (fun hc => ?_) (fun hc => ?_)
    · replace h := h.1 hc
      refine r_iconst x_286_32 ?_
      exact r_retZ x_286_33 rfl (Or.inl rfl) h
    · replace h := h.2 hc
      refine r_iconst x_286_28 ?_
      refine r_goto x_286_29 (t := 33) (by decide +kernel) ?_
      exact r_retZ x_286_33 rfl (Or.inr rfl) h
theorem m_X12_isFilter {d : Nat} {M : g_M} {Q : Int → g_M → Prop} {a0 : Nat} {v1 : Int} (hv1 : g_InR v1) (h : g_ok M → g_O M a0 12 ∧ (∀ M2, M2 = g_wi M a0 11 0 → g_ok M2 → g_Call d 288 [.ref a0, g_n v1] M2 (g_qI fun r9 M6 => g_ext M2 M6 → g_ok M6 → g_InR r9 → (r9 = 0 ∨ r9 = 1) ∧ Q r9 M6))) : g_Call (d + 1) 287 [.ref a0, g_n v1] M (g_qI Q) := by
  refine g_Call.ok fun hok0 => ?_
  replace h := h hok0
  refine r_body rfl (lv := [(0, .ref a0), (1, g_n v1)]) rfl ?_
  refine g_Run.ok fun hok => ?_
  refine r_aload_n x_287_0 rfl ?_
  refine r_iconst x_287_1 ?_
  obtain ⟨hO1, h⟩ := h
  refine r_putI x_287_2 (ci := 12) (k := 11) (ns := 0) (by decide +kernel) (by decide) (g_f0 (by decide +kernel)) rfl (g_Rk rfl) trivial (kz := 11) rfl hO1 ?_
  obtain ⟨M2, hM3⟩ : ∃ Mz, Mz = g_wi M a0 11 0 := ⟨_, rfl⟩
  rw [← hM3]
  refine g_Run.ok fun hok4 => ?_
  replace h := h M2 hM3 hok4
  have hx5 := g_extW hM3
  replace hO1 := hO1.up hx5
  refine r_aload_n x_287_5 rfl ?_
  refine r_iload_n x_287_6 rfl ?_
  refine r_invV x_287_7 (z := 288) (ns := 0) (by decide +kernel) (as := [g_n v1]) (r := []) rfl rfl rfl hO1 rfl rfl ?_
  refine r_callI h fun r9 M6 hx7 hok8 hr10 h => ?_
  replace h := h hx7 hok8 hr10
  replace hO1 := hO1.up hx7
  obtain ⟨hz, h⟩ := h
  exact r_retZ x_287_10 rfl hz h
theorem m_X12_checkFilter {d : Nat} {M : g_M} {Q : Int → g_M → Prop} {a0 : Nat} {v1 : Int} (hv1 : g_InR v1) (h : g_ok M → g_Call d 237 [g_n v1] M (g_qI fun r4 M1 => g_ext M M1 → g_ok M1 → g_InR r4 → g_Run d 288 5 [(0, .ref a0), (1, g_n v1), (2, g_n r4)] [] M1 (g_qI Q))) : g_Call (d + 1) 288 [.ref a0, g_n v1] M (g_qI Q) := by
  refine g_Call.ok fun hok0 => ?_
  replace h := h hok0
  refine r_body rfl (lv := [(0, .ref a0), (1, g_n v1)]) rfl ?_
  refine g_Run.ok fun hok => ?_
  refine r_iload_n x_288_0 rfl ?_
  refine r_invS x_288_1 (z := 237) (ns := 0) (by decide +kernel) (as := [g_n v1]) (r := []) rfl rfl rfl ?_
  refine r_callI h fun r4 M1 hx2 hok3 hr5 h => ?_
  replace h := h hx2 hok3 hr5
  refine r_istore_n x_288_4 (by decide +kernel) rfl (lv1 := [(0, .ref a0), (1, g_n v1), (2, g_n r4)]) rfl ?_
  exact h
theorem s_X12_checkFilter_5 {d : Nat} {M : g_M} {Q : Int → g_M → Prop} {a0 : Nat} {v1 : Int} (hv1 : g_InR v1) {v2 : Int} (hv2 : g_InR v2) (h : g_ok M → g_O M a0 12 ∧ g_Call d 238 [.ref a0, g_n v1] M (g_qI fun r5 M2 => g_ext M M2 → g_ok M2 → g_InR r5 → ((v2 < r5 → g_Call d 282 [.ref a0, g_n v2, g_n 36] M2 (g_qI fun r10 M7 => g_ext M2 M7 → g_ok M7 → g_InR r10 → ((r10 = 0 → g_InR (v2 + 1) ∧ g_Call d 232 [.ref a0, g_n v2] M7 (g_qI fun r16 M13 => g_ext M7 M13 → g_ok M13 → g_InR r16 → g_Call d 275 [.ref a0, g_n (v2 + 1), g_n r16] M13 (g_qI fun r21 M18 => g_ext M13 M18 → g_ok M18 → g_InR r21 → ((r21 = 0 → g_Call d 257 [.ref a0, g_n 3, g_n v2] M18 (g_qI fun r31 M28 => g_ext M18 M28 → g_ok M28 → g_InR r31 → (r31 = 0 ∨ r31 = 1) ∧ Q r31 M28)) ∧ (¬ r21 = 0 → g_Call d 284 [.ref a0, g_n v2] M18 (g_qI fun r26 M23 => g_ext M18 M23 → g_ok M23 → g_InR r26 → ((r26 = 0 → g_Run d 288 72 [(0, .ref a0), (1, g_n v1), (2, g_n v2), (3, g_n r26)] [g_n 2, .ref a0] M23 (g_qI Q)) ∧ (¬ r26 = 0 → g_Run d 288 72 [(0, .ref a0), (1, g_n v1), (2, g_n v2), (3, g_n r26)] [g_n 1, .ref a0] M23 (g_qI Q))))))))) ∧ (¬ r10 = 0 → g_Call d 289 [.ref a0, g_n v2] M7 (g_qI fun r36 M33 => g_ext M7 M33 → g_ok M33 → g_InR r36 → ((r36 = 0 → Q 0 M33) ∧ (¬ r36 = 0 → g_Call d 235 [.ref a0, g_n v2] M33 (g_qI fun r41 M38 => g_ext M33 M38 → g_ok M38 → g_InR r41 → g_Run d 288 5 [(0, .ref a0), (1, g_n v1), (2, g_n r41)] [] M38 (g_qI Q))))))))) ∧ (¬ v2 < r5 → Q 1 M2)))) : g_Run d 288 5 [(0, .ref a0), (1, g_n v1), (2, g_n v2)] [] M (g_qI Q) := by
  refine g_Run.ok fun hok => ?_
  replace h := h hok
  refine r_iload_n x_288_5 rfl ?_
  refine r_aload_n x_288_6 rfl ?_
  refine r_iload_n x_288_7 rfl ?_
  obtain ⟨hO1, h⟩ := h
  refine r_invV x_288_8 (z := 238) (ns := 0) (by decide +kernel) (as := [g_n v1]) (r := [g_n v2]) rfl rfl rfl hO1 rfl rfl ?_
  refine r_callI h fun r5 M2 hx3 hok4 hr6 h => ?_
  replace h := h hx3 hok4 hr6
  replace hO1 := hO1.up hx3
  refine r_ic_ge x_288_11 (t := 108) (by decide +kernel) hv2 hr6 (fun hc => ?_) (fun hc => ?_)
  · replace h := h.2 hc
    refine r_iconst x_288_108 ?_
    exact r_retZ x_288_109 rfl (Or.inr rfl) h
  · replace h := h.1 hc
    refine r_aload_n x_288_14 rfl ?_
    refine r_iload_n x_288_15 rfl ?_
    refine r_bipush x_288_16 (x := 36) rfl ?_
    refine r_invV x_288_18 (z := 282) (ns := 0) (by decide +kernel) (as := [g_n v2, g_n 36]) (r := []) rfl rfl rfl hO1 rfl rfl ?_
    refine r_callI h fun r10 M7 hx8 hok9 hr11 h => ?_
    replace h := h hx8 hok9 hr11
    replace hO1 := hO1.up hx8
    refine r_if_eq x_288_21 (t := 34) (by decide +kernel) hr11 (fun hc => ?_) (fun hc => ?_)
    · replace h := h.1 hc
      refine r_aload_n x_288_34 rfl ?_
      refine r_iload_n x_288_35 rfl ?_
      refine r_iconst x_288_36 ?_
      refine r_iadd x_288_37 ?_
      obtain ⟨h12, h⟩ := h
      refine r_aload_n x_288_38 rfl ?_
      refine r_iload_n x_288_39 rfl ?_
      refine r_invV x_288_40 (z := 232) (ns := 0) (by decide +kernel) (as := [g_n v2]) (r := [g_n (v2 + 1), .ref a0]) rfl rfl rfl hO1 rfl rfl ?_
      refine r_callI h fun r16 M13 hx14 hok15 hr17 h => ?_
      replace h := h hx14 hok15 hr17
      replace hO1 := hO1.up hx14
      refine r_invV x_288_43 (z := 275) (ns := 0) (by decide +kernel) (as := [g_n (v2 + 1), g_n r16]) (r := []) rfl rfl rfl hO1 rfl rfl ?_
      refine r_callI h fun r21 M18 hx19 hok20 hr22 h => ?_
      replace h := h hx19 hok20 hr22
      replace hO1 := hO1.up hx19
      refine r_if_ne x_288_46 (t := 56) (by decide +kernel) hr22 (fun hc => ?_) (fun hc => ?_)
      · replace h := h.2 hc
        refine r_aload_n x_288_56 rfl ?_
        refine r_iload_n x_288_57 rfl ?_
        refine r_invV x_288_58 (z := 284) (ns := 0) (by decide +kernel) (as := [g_n v2]) (r := []) rfl rfl rfl hO1 rfl rfl ?_
        refine r_callI h fun r26 M23 hx24 hok25 hr27 h => ?_
        replace h := h hx24 hok25 hr27
        replace hO1 := hO1.up hx24
        refine r_istore_n x_288_61 (by decide +kernel) rfl (lv1 := [(0, .ref a0), (1, g_n v1), (2, g_n v2), (3, g_n r26)]) rfl ?_
        refine r_aload_n x_288_62 rfl ?_
        refine r_iload_n x_288_63 rfl ?_
        refine r_if_eq x_288_64 (t := 71) (by decide +kernel) hr27 (fun hc => ?_) (fun hc => ?_)
        · replace h := h.1 hc
          refine r_iconst x_288_71 ?_
          exact h
        · replace h := h.2 hc
          refine r_iconst x_288_67 ?_
          refine r_goto x_288_68 (t := 72) (by decide +kernel) ?_
          exact h
      · replace h := h.1 hc
        refine r_aload_n x_288_49 rfl ?_
        refine r_iconst x_288_50 ?_
        refine r_iload_n x_288_51 rfl ?_
        refine r_invV x_288_52 (z := 257) (ns := 0) (by decide +kernel) (as := [g_n 3, g_n v2]) (r := []) rfl rfl rfl hO1 rfl rfl ?_
        refine r_callI h fun r31 M28 hx29 hok30 hr32 h => ?_
        replace h := h hx29 hok30 hr32
        replace hO1 := hO1.up hx29
        obtain ⟨hz, h⟩ := h
        exact r_retZ x_288_55 rfl hz h
    · replace h := h.2 hc
      refine r_aload_n x_288_24 rfl ?_
      refine r_iload_n x_288_25 rfl ?_
      refine r_invV x_288_26 (z := 289) (ns := 0) (by decide +kernel) (as := [g_n v2]) (r := []) rfl rfl rfl hO1 rfl rfl ?_
      refine r_callI h fun r36 M33 hx34 hok35 hr37 h => ?_
      replace h := h hx34 hok35 hr37
      replace hO1 := hO1.up hx34
      refine r_if_ne x_288_29 (t := 99) (by decide +kernel) hr37 (fun hc => ?_) (fun hc => ?_)
      · replace h := h.2 hc
        refine r_aload_n x_288_99 rfl ?_
        refine r_iload_n x_288_100 rfl ?_
        refine r_invV x_288_101 (z := 235) (ns := 0) (by decide +kernel) (as := [g_n v2]) (r := []) rfl rfl rfl hO1 rfl rfl ?_
        refine r_callI h fun r41 M38 hx39 hok40 hr42 h => ?_
        replace h := h hx39 hok40 hr42
        replace hO1 := hO1.up hx39
        refine r_istore_n x_288_104 (by decide +kernel) rfl (lv1 := [(0, .ref a0), (1, g_n v1), (2, g_n r41)]) rfl ?_
        refine r_goto x_288_105 (t := 5) (by decide +kernel) ?_
        exact h
      · replace h := h.1 hc
        refine r_iconst x_288_32 ?_
        exact r_retZ x_288_33 rfl (Or.inl rfl) h
theorem s_X12_checkFilter_72 {d : Nat} {M : g_M} {Q : Int → g_M → Prop} {a0 : Nat} {v1 : Int} (hv1 : g_InR v1) {v2 : Int} (hv2 : g_InR v2) {v3 : Int} (hv3 : g_InR v3) {w0 : Int} (hw0 : g_InR w0) {c1 : Nat} (h : g_ok M → g_O M c1 12 ∧ g_Call d 286 [.ref c1, g_n w0, g_n v2] M (g_qI fun r5 M2 => g_ext M M2 → g_ok M2 → g_InR r5 → ((r5 = 0 → Q 0 M2) ∧ (¬ r5 = 0 → ((v3 = 0 → g_O M2 a0 12 ∧ g_Call d 235 [.ref a0, g_n v2] M2 (g_qI fun r11 M8 => g_ext M2 M8 → g_ok M8 → g_InR r11 → g_Run d 288 5 [(0, .ref a0), (1, g_n v1), (2, g_n r11)] [] M8 (g_qI Q))) ∧ (¬ v3 = 0 → g_O M2 a0 12 ∧ g_Call d 233 [.ref a0, g_n v2] M2 (g_qI fun r17 M14 => g_ext M2 M14 → g_ok M14 → g_InR r17 → g_Call d 292 [.ref a0, g_n r17] M14 (g_qI fun r22 M19 => g_ext M14 M19 → g_ok M19 → g_InR r22 → ((r22 = 0 → Q 0 M19) ∧ (¬ r22 = 0 → g_Call d 235 [.ref a0, g_n v2] M19 (g_qI fun r27 M24 => g_ext M19 M24 → g_ok M24 → g_InR r27 → g_Run d 288 5 [(0, .ref a0), (1, g_n v1), (2, g_n r27)] [] M24 (g_qI Q)))))))))))) : g_Run d 288 72 [(0, .ref a0), (1, g_n v1), (2, g_n v2), (3, g_n v3)] [g_n w0, .ref c1] M (g_qI Q) := by
  refine g_Run.ok fun hok => ?_
  replace h := h hok
  refine r_iload_n x_288_72 rfl ?_
  obtain ⟨hO1, h⟩ := h
  refine r_invV x_288_73 (z := 286) (ns := 0) (by decide +kernel) (as := [g_n w0, g_n v2]) (r := []) rfl rfl rfl hO1 rfl rfl ?_
  refine r_callI h fun r5 M2 hx3 hok4 hr6 h => ?_
  replace h := h hx3 hok4 hr6
  replace hO1 := hO1.up hx3
  refine r_if_ne x_288_76 (t := 81) (by decide +kernel) hr6 (fun hc => ?_) (fun hc => ?_)
  · replace h := h.2 hc
    refine r_iload_n x_288_81 rfl ?_
    refine r_if_eq x_288_82 (t := 99) (by decide +kernel) hv3 (fun hc => ?_) (fun hc => ?_)
    · replace h := h.1 hc
      refine r_aload_n x_288_99 rfl ?_
      refine r_iload_n x_288_100 rfl ?_
      obtain ⟨hO7, h⟩ := h
      refine r_invV x_288_101 (z := 235) (ns := 0) (by decide +kernel) (as := [g_n v2]) (r := []) rfl rfl rfl hO7 rfl rfl ?_
      refine r_callI h fun r11 M8 hx9 hok10 hr12 h => ?_
      replace h := h hx9 hok10 hr12
      replace hO1 := hO1.up hx9
      replace hO7 := hO7.up hx9
      refine r_istore_n x_288_104 (by decide +kernel) rfl (lv1 := [(0, .ref a0), (1, g_n v1), (2, g_n r11), (3, g_n v3)]) rfl ?_
      refine r_goto x_288_105 (t := 5) (by decide +kernel) ?_
      refine g_drop [0, 1, 2] (lv1 := [(0, .ref a0), (1, g_n v1), (2, g_n r11)]) rfl ?_
      exact h
    · replace h := h.2 hc
      refine r_aload_n x_288_85 rfl ?_
      refine r_aload_n x_288_86 rfl ?_
      refine r_iload_n x_288_87 rfl ?_
      obtain ⟨hO13, h⟩ := h
      refine r_invV x_288_88 (z := 233) (ns := 0) (by decide +kernel) (as := [g_n v2]) (r := [.ref a0]) rfl rfl rfl hO13 rfl rfl ?_
      refine r_callI h fun r17 M14 hx15 hok16 hr18 h => ?_
      replace h := h hx15 hok16 hr18
      replace hO1 := hO1.up hx15
      replace hO13 := hO13.up hx15
      refine r_invV x_288_91 (z := 292) (ns := 0) (by decide +kernel) (as := [g_n r17]) (r := []) rfl rfl rfl hO13 rfl rfl ?_
      refine r_callI h fun r22 M19 hx20 hok21 hr23 h => ?_
      replace h := h hx20 hok21 hr23
      replace hO1 := hO1.up hx20
      replace hO13 := hO13.up hx20
      refine r_if_ne x_288_94 (t := 99) (by decide +kernel) hr23 (fun hc => ?_) (fun hc => ?_)
      · replace h := h.2 hc
        refine r_aload_n x_288_99 rfl ?_
        refine r_iload_n x_288_100 rfl ?_
        refine r_invV x_288_101 (z := 235) (ns := 0) (by decide +kernel) (as := [g_n v2]) (r := []) rfl rfl rfl hO13 rfl rfl ?_
        refine r_callI h fun r27 M24 hx25 hok26 hr28 h => ?_
        replace h := h hx25 hok26 hr28
        replace hO1 := hO1.up hx25
        replace hO13 := hO13.up hx25
        refine r_istore_n x_288_104 (by decide +kernel) rfl (lv1 := [(0, .ref a0), (1, g_n v1), (2, g_n r27), (3, g_n v3)]) rfl ?_
        refine r_goto x_288_105 (t := 5) (by decide +kernel) ?_
        refine g_drop [0, 1, 2] (lv1 := [(0, .ref a0), (1, g_n v1), (2, g_n r27)]) rfl ?_
        exact h
      · replace h := h.1 hc
        refine r_iconst x_288_97 ?_
        exact r_retZ x_288_98 rfl (Or.inl rfl) h
  · replace h := h.1 hc
    refine r_iconst x_288_79 ?_
    exact r_retZ x_288_80 rfl (Or.inl rfl) h
theorem m_X12_checkJoining {d : Nat} {M : g_M} {Q : Int → g_M → Prop} {a0 : Nat} {v1 : Int} (hv1 : g_InR v1) (h : g_ok M → g_O M a0 12 ∧ g_Call d 283 [.ref a0, g_n v1] M (g_qI fun r5 M2 => g_ext M M2 → g_ok M2 → g_InR r5 → ((r5 = 0 → g_Call d 257 [.ref a0, g_n 1, g_n v1] M2 (g_qI fun r50 M47 => g_ext M2 M47 → g_ok M47 → g_InR r50 → (r50 = 0 ∨ r50 = 1) ∧ Q r50 M47)) ∧ (¬ r5 = 0 → ∃ b7, g_r M2 a0 0 = some b7 ∧ ∃ n9, g_A M2 b7 0 n9 ∧ ((0 : Int) ≤ v1 ∧ (v1 : Int) < n9) ∧ ((g_i M2 b7 v1 = 4 → g_Call d 233 [.ref a0, g_n v1] M2 (g_qI fun r20 M17 => g_ext M2 M17 → g_ok M17 → g_InR r20 → g_Call d 239 [.ref a0, g_n r20] M17 (g_qI fun r25 M22 => g_ext M17 M22 → g_ok M22 → g_InR r25 → ((r25 = 0 → g_Call d 257 [.ref a0, g_n 2, g_n v1] M22 (g_qI fun r45 M42 => g_ext M22 M42 → g_ok M42 → g_InR r45 → (r45 = 0 ∨ r45 = 1) ∧ Q r45 M42)) ∧ (¬ r25 = 0 → g_Call d 286 [.ref a0, g_n 1, g_n v1] M22 (g_qI fun r30 M27 => g_ext M22 M27 → g_ok M27 → g_InR r30 → ((r30 = 0 → Q 0 M27) ∧ (¬ r30 = 0 → g_Call d 233 [.ref a0, g_n v1] M27 (g_qI fun r35 M32 => g_ext M27 M32 → g_ok M32 → g_InR r35 → g_Call d 237 [g_n r35] M32 (g_qI fun r40 M37 => g_ext M32 M37 → g_ok M37 → g_InR r40 → g_Run d 289 64 [(0, .ref a0), (1, g_n v1), (2, g_n r40)] [] M37 (g_qI Q))))))))))) ∧ (¬ g_i M2 b7 v1 = 4 → g_Call d 257 [.ref a0, g_n 2, g_n v1] M2 (g_qI fun r15 M12 => g_ext M2 M12 → g_ok M12 → g_InR r15 → (r15 = 0 ∨ r15 = 1) ∧ Q r15 M12))))))) : g_Call (d + 1) 289 [.ref a0, g_n v1] M (g_qI Q) := by
  refine g_Call.ok fun hok0 => ?_
  replace h := h hok0
  refine r_body rfl (lv := [(0, .ref a0), (1, g_n v1)]) rfl ?_
  refine g_Run.ok fun hok => ?_
  refine r_aload_n x_289_0 rfl ?_
  refine r_iload_n x_289_1 rfl ?_
  obtain ⟨hO1, h⟩ := h
  refine r_invV x_289_2 (z := 283) (ns := 0) (by decide +kernel) (as := [g_n v1]) (r := []) rfl rfl rfl hO1 rfl rfl ?_
  refine r_callI h fun r5 M2 hx3 hok4 hr6 h => ?_
  replace h := h hx3 hok4 hr6
  replace hO1 := hO1.up hx3
  refine r_if_ne x_289_5 (t := 15) (by decide +kernel) hr6 (fun hc => ?_) (fun hc => ?_)
  · replace h := h.2 hc
    refine r_aload_n x_289_15 rfl ?_
    obtain ⟨b7, hb8, h⟩ := h
    refine r_getR x_289_16 rfl (ci := 12) (k := 0) (ns := 0) (by decide +kernel) (by decide) rfl (kz := 0) rfl hO1 hb8 ?_
    refine r_iload_n x_289_19 rfl ?_
    obtain ⟨n9, hA10, h⟩ := h
    obtain ⟨h11, h⟩ := h
    refine r_bald x_289_20 (Or.inl rfl) hA10 hv1 h11.1 h11.2 ?_
    refine r_iconst x_289_21 ?_
    refine r_ic_ne x_289_22 (t := 37) (by decide +kernel) (hok4.1 _ _) (g_Rk rfl) (fun hc => ?_) (fun hc => ?_)
    · replace h := h.2 hc
      refine r_aload_n x_289_37 rfl ?_
      refine r_iconst x_289_38 ?_
      refine r_iload_n x_289_39 rfl ?_
      refine r_invV x_289_40 (z := 257) (ns := 0) (by decide +kernel) (as := [g_n 2, g_n v1]) (r := []) rfl rfl rfl hO1 rfl rfl ?_
      refine r_callI h fun r15 M12 hx13 hok14 hr16 h => ?_
      replace h := h hx13 hok14 hr16
      replace hO1 := hO1.up hx13
      replace hA10 := hA10.up hx13
      obtain ⟨hz, h⟩ := h
      exact r_retZ x_289_43 rfl hz h
    · replace h := h.1 hc
      refine r_aload_n x_289_25 rfl ?_
      refine r_aload_n x_289_26 rfl ?_
      refine r_iload_n x_289_27 rfl ?_
      refine r_invV x_289_28 (z := 233) (ns := 0) (by decide +kernel) (as := [g_n v1]) (r := [.ref a0]) rfl rfl rfl hO1 rfl rfl ?_
      refine r_callI h fun r20 M17 hx18 hok19 hr21 h => ?_
      replace h := h hx18 hok19 hr21
      replace hO1 := hO1.up hx18
      replace hA10 := hA10.up hx18
      refine r_invV x_289_31 (z := 239) (ns := 0) (by decide +kernel) (as := [g_n r20]) (r := []) rfl rfl rfl hO1 rfl rfl ?_
      refine r_callI h fun r25 M22 hx23 hok24 hr26 h => ?_
      replace h := h hx23 hok24 hr26
      replace hO1 := hO1.up hx23
      replace hA10 := hA10.up hx23
      refine r_if_ne x_289_34 (t := 44) (by decide +kernel) hr26 (fun hc => ?_) (fun hc => ?_)
      · replace h := h.2 hc
        refine r_aload_n x_289_44 rfl ?_
        refine r_iconst x_289_45 ?_
        refine r_iload_n x_289_46 rfl ?_
        refine r_invV x_289_47 (z := 286) (ns := 0) (by decide +kernel) (as := [g_n 1, g_n v1]) (r := []) rfl rfl rfl hO1 rfl rfl ?_
        refine r_callI h fun r30 M27 hx28 hok29 hr31 h => ?_
        replace h := h hx28 hok29 hr31
        replace hO1 := hO1.up hx28
        replace hA10 := hA10.up hx28
        refine r_if_ne x_289_50 (t := 55) (by decide +kernel) hr31 (fun hc => ?_) (fun hc => ?_)
        · replace h := h.2 hc
          refine r_aload_n x_289_55 rfl ?_
          refine r_iload_n x_289_56 rfl ?_
          refine r_invV x_289_57 (z := 233) (ns := 0) (by decide +kernel) (as := [g_n v1]) (r := []) rfl rfl rfl hO1 rfl rfl ?_
          refine r_callI h fun r35 M32 hx33 hok34 hr36 h => ?_
          replace h := h hx33 hok34 hr36
          replace hO1 := hO1.up hx33
          replace hA10 := hA10.up hx33
          refine r_invS x_289_60 (z := 237) (ns := 0) (by decide +kernel) (as := [g_n r35]) (r := []) rfl rfl rfl ?_
          refine r_callI h fun r40 M37 hx38 hok39 hr41 h => ?_
          replace h := h hx38 hok39 hr41
          replace hO1 := hO1.up hx38
          replace hA10 := hA10.up hx38
          refine r_istore_n x_289_63 (by decide +kernel) rfl (lv1 := [(0, .ref a0), (1, g_n v1), (2, g_n r40)]) rfl ?_
          exact h
        · replace h := h.1 hc
          refine r_iconst x_289_53 ?_
          exact r_retZ x_289_54 rfl (Or.inl rfl) h
      · replace h := h.1 hc
        refine r_aload_n x_289_37 rfl ?_
        refine r_iconst x_289_38 ?_
        refine r_iload_n x_289_39 rfl ?_
        refine r_invV x_289_40 (z := 257) (ns := 0) (by decide +kernel) (as := [g_n 2, g_n v1]) (r := []) rfl rfl rfl hO1 rfl rfl ?_
        refine r_callI h fun r45 M42 hx43 hok44 hr46 h => ?_
        replace h := h hx43 hok44 hr46
        replace hO1 := hO1.up hx43
        replace hA10 := hA10.up hx43
        obtain ⟨hz, h⟩ := h
        exact r_retZ x_289_43 rfl hz h
  · replace h := h.1 hc
    refine r_aload_n x_289_8 rfl ?_
    refine r_iconst x_289_9 ?_
    refine r_iload_n x_289_10 rfl ?_
    refine r_invV x_289_11 (z := 257) (ns := 0) (by decide +kernel) (as := [g_n 1, g_n v1]) (r := []) rfl rfl rfl hO1 rfl rfl ?_
    refine r_callI h fun r50 M47 hx48 hok49 hr51 h => ?_
    replace h := h hx48 hok49 hr51
    replace hO1 := hO1.up hx48
    obtain ⟨hz, h⟩ := h
    exact r_retZ x_289_14 rfl hz h
theorem s_X12_checkJoining_64 {d : Nat} {M : g_M} {Q : Int → g_M → Prop} {a0 : Nat} {v1 : Int} (hv1 : g_InR v1) {v2 : Int} (hv2 : g_InR v2) (h : g_ok M → g_O M a0 12 ∧ g_Call d 233 [.ref a0, g_n v1] M (g_qI fun r5 M2 => g_ext M M2 → g_ok M2 → g_InR r5 → g_Call d 238 [.ref a0, g_n r5] M2 (g_qI fun r10 M7 => g_ext M2 M7 → g_ok M7 → g_InR r10 → ((v2 < r10 → ∃ b12, g_r M7 a0 0 = some b12 ∧ ∃ n14, g_A M7 b12 0 n14 ∧ ((0 : Int) ≤ v2 ∧ (v2 : Int) < n14) ∧ ((g_i M7 b12 v2 = 3 → g_Call d 233 [.ref a0, g_n v2] M7 (g_qI fun r20 M17 => g_ext M7 M17 → g_ok M17 → g_InR r20 → g_Call d 288 [.ref a0, g_n r20] M17 (g_qI fun r25 M22 => g_ext M17 M22 → g_ok M22 → g_InR r25 → ((r25 = 0 → Q 0 M22) ∧ (¬ r25 = 0 → g_Call d 235 [.ref a0, g_n v2] M22 (g_qI fun r30 M27 => g_ext M22 M27 → g_ok M27 → g_InR r30 → g_Run d 289 64 [(0, .ref a0), (1, g_n v1), (2, g_n r30)] [] M27 (g_qI Q))))))) ∧ (¬ g_i M7 b12 v2 = 3 → g_Call d 257 [.ref a0, g_n 2, g_n v2] M7 (g_qI fun r35 M32 => g_ext M7 M32 → g_ok M32 → g_InR r35 → (r35 = 0 ∨ r35 = 1) ∧ Q r35 M32)))) ∧ (¬ v2 < r10 → Q 1 M7))))) : g_Run d 289 64 [(0, .ref a0), (1, g_n v1), (2, g_n v2)] [] M (g_qI Q) := by
  refine g_Run.ok fun hok => ?_
  replace h := h hok
  refine r_iload_n x_289_64 rfl ?_
  refine r_aload_n x_289_65 rfl ?_
  refine r_aload_n x_289_66 rfl ?_
  refine r_iload_n x_289_67 rfl ?_
  obtain ⟨hO1, h⟩ := h
  refine r_invV x_289_68 (z := 233) (ns := 0) (by decide +kernel) (as := [g_n v1]) (r := [.ref a0, g_n v2]) rfl rfl rfl hO1 rfl rfl ?_
  refine r_callI h fun r5 M2 hx3 hok4 hr6 h => ?_
  replace h := h hx3 hok4 hr6
  replace hO1 := hO1.up hx3
  refine r_invV x_289_71 (z := 238) (ns := 0) (by decide +kernel) (as := [g_n r5]) (r := [g_n v2]) rfl rfl rfl hO1 rfl rfl ?_
  refine r_callI h fun r10 M7 hx8 hok9 hr11 h => ?_
  replace h := h hx8 hok9 hr11
  replace hO1 := hO1.up hx8
  refine r_ic_ge x_289_74 (t := 117) (by decide +kernel) hv2 hr11 (fun hc => ?_) (fun hc => ?_)
  · replace h := h.2 hc
    refine r_iconst x_289_117 ?_
    exact r_retZ x_289_118 rfl (Or.inr rfl) h
  · replace h := h.1 hc
    refine r_aload_n x_289_77 rfl ?_
    obtain ⟨b12, hb13, h⟩ := h
    refine r_getR x_289_78 rfl (ci := 12) (k := 0) (ns := 0) (by decide +kernel) (by decide) rfl (kz := 0) rfl hO1 hb13 ?_
    refine r_iload_n x_289_81 rfl ?_
    obtain ⟨n14, hA15, h⟩ := h
    obtain ⟨h16, h⟩ := h
    refine r_bald x_289_82 (Or.inl rfl) hA15 hv2 h16.1 h16.2 ?_
    refine r_iconst x_289_83 ?_
    refine r_ic_eq x_289_84 (t := 94) (by decide +kernel) (hok9.1 _ _) (g_Rk rfl) (fun hc => ?_) (fun hc => ?_)
    · replace h := h.1 hc
      refine r_aload_n x_289_94 rfl ?_
      refine r_aload_n x_289_95 rfl ?_
      refine r_iload_n x_289_96 rfl ?_
      refine r_invV x_289_97 (z := 233) (ns := 0) (by decide +kernel) (as := [g_n v2]) (r := [.ref a0]) rfl rfl rfl hO1 rfl rfl ?_
      refine r_callI h fun r20 M17 hx18 hok19 hr21 h => ?_
      replace h := h hx18 hok19 hr21
      replace hO1 := hO1.up hx18
      replace hA15 := hA15.up hx18
      refine r_invV x_289_100 (z := 288) (ns := 0) (by decide +kernel) (as := [g_n r20]) (r := []) rfl rfl rfl hO1 rfl rfl ?_
      refine r_callI h fun r25 M22 hx23 hok24 hr26 h => ?_
      replace h := h hx23 hok24 hr26
      replace hO1 := hO1.up hx23
      replace hA15 := hA15.up hx23
      refine r_if_ne x_289_103 (t := 108) (by decide +kernel) hr26 (fun hc => ?_) (fun hc => ?_)
      · replace h := h.2 hc
        refine r_aload_n x_289_108 rfl ?_
        refine r_iload_n x_289_109 rfl ?_
        refine r_invV x_289_110 (z := 235) (ns := 0) (by decide +kernel) (as := [g_n v2]) (r := []) rfl rfl rfl hO1 rfl rfl ?_
        refine r_callI h fun r30 M27 hx28 hok29 hr31 h => ?_
        replace h := h hx28 hok29 hr31
        replace hO1 := hO1.up hx28
        replace hA15 := hA15.up hx28
        refine r_istore_n x_289_113 (by decide +kernel) rfl (lv1 := [(0, .ref a0), (1, g_n v1), (2, g_n r30)]) rfl ?_
        refine r_goto x_289_114 (t := 64) (by decide +kernel) ?_
        exact h
      · replace h := h.1 hc
        refine r_iconst x_289_106 ?_
        exact r_retZ x_289_107 rfl (Or.inl rfl) h
    · replace h := h.2 hc
      refine r_aload_n x_289_87 rfl ?_
      refine r_iconst x_289_88 ?_
      refine r_iload_n x_289_89 rfl ?_
      refine r_invV x_289_90 (z := 257) (ns := 0) (by decide +kernel) (as := [g_n 2, g_n v2]) (r := []) rfl rfl rfl hO1 rfl rfl ?_
      refine r_callI h fun r35 M32 hx33 hok34 hr36 h => ?_
      replace h := h hx33 hok34 hr36
      replace hO1 := hO1.up hx33
      replace hA15 := hA15.up hx33
      obtain ⟨hz, h⟩ := h
      exact r_retZ x_289_93 rfl hz h
theorem m_X12_isCondition {d : Nat} {M : g_M} {Q : Int → g_M → Prop} {a0 : Nat} {v1 : Int} (hv1 : g_InR v1) (h : g_ok M → g_O M a0 12 ∧ g_Call d 236 [.ref a0, g_n v1, .ref (4 * 97 + 1)] M (g_qI fun r5 M2 => g_ext M M2 → g_ok M2 → g_InR r5 → ((r5 = 0 → g_Call d 236 [.ref a0, g_n v1, .ref (4 * 98 + 1)] M2 (g_qI fun r10 M7 => g_ext M2 M7 → g_ok M7 → g_InR r10 → ((r10 = 0 → g_Call d 236 [.ref a0, g_n v1, .ref (4 * 99 + 1)] M7 (g_qI fun r15 M12 => g_ext M7 M12 → g_ok M12 → g_InR r15 → ((r15 = 0 → g_Call d 236 [.ref a0, g_n v1, .ref (4 * 100 + 1)] M12 (g_qI fun r20 M17 => g_ext M12 M17 → g_ok M17 → g_InR r20 → ((r20 = 0 → g_Call d 236 [.ref a0, g_n v1, .ref (4 * 101 + 1)] M17 (g_qI fun r25 M22 => g_ext M17 M22 → g_ok M22 → g_InR r25 → ((r25 = 0 → g_Call d 236 [.ref a0, g_n v1, .ref (4 * 102 + 1)] M22 (g_qI fun r30 M27 => g_ext M22 M27 → g_ok M27 → g_InR r30 → ((r30 = 0 → g_Run d 290 71 [(0, .ref a0), (1, g_n v1)] [g_n 0] M27 (g_qI Q)) ∧ (¬ r30 = 0 → g_Run d 290 71 [(0, .ref a0), (1, g_n v1)] [g_n 1] M27 (g_qI Q))))) ∧ (¬ r25 = 0 → g_Run d 290 71 [(0, .ref a0), (1, g_n v1)] [g_n 1] M22 (g_qI Q))))) ∧ (¬ r20 = 0 → g_Run d 290 71 [(0, .ref a0), (1, g_n v1)] [g_n 1] M17 (g_qI Q))))) ∧ (¬ r15 = 0 → g_Run d 290 71 [(0, .ref a0), (1, g_n v1)] [g_n 1] M12 (g_qI Q))))) ∧ (¬ r10 = 0 → g_Run d 290 71 [(0, .ref a0), (1, g_n v1)] [g_n 1] M7 (g_qI Q))))) ∧ (¬ r5 = 0 → g_Run d 290 71 [(0, .ref a0), (1, g_n v1)] [g_n 1] M2 (g_qI Q))))) : g_Call (d + 1) 290 [.ref a0, g_n v1] M (g_qI Q) := by
  refine g_Call.ok fun hok0 => ?_
  replace h := h hok0
  refine r_body rfl (lv := [(0, .ref a0), (1, g_n v1)]) rfl ?_
  refine g_Run.ok fun hok => ?_
  refine r_aload_n x_290_0 rfl ?_
  refine r_iload_n x_290_1 rfl ?_
  refine r_ldcw x_290_2 (v := .ref (4 * 97 + 1)) rfl ?_
  obtain ⟨hO1, h⟩ := h
  refine r_invV x_290_5 (z := 236) (ns := 0) (by decide +kernel) (as := [g_n v1, .ref (4 * 97 + 1)]) (r := []) rfl rfl rfl hO1 rfl rfl ?_
  refine r_callI h fun r5 M2 hx3 hok4 hr6 h => ?_
  replace h := h hx3 hok4 hr6
  replace hO1 := hO1.up hx3
  refine r_if_ne x_290_8 (t := 66) (by decide +kernel) hr6 (fun hc => ?_) (fun hc => ?_)
  · replace h := h.2 hc
    refine r_iconst x_290_66 ?_
    refine r_goto x_290_67 (t := 71) (by decide +kernel) ?_
    exact h
  · replace h := h.1 hc
    refine r_aload_n x_290_11 rfl ?_
    refine r_iload_n x_290_12 rfl ?_
    refine r_ldcw x_290_13 (v := .ref (4 * 98 + 1)) rfl ?_
    refine r_invV x_290_16 (z := 236) (ns := 0) (by decide +kernel) (as := [g_n v1, .ref (4 * 98 + 1)]) (r := []) rfl rfl rfl hO1 rfl rfl ?_
    refine r_callI h fun r10 M7 hx8 hok9 hr11 h => ?_
    replace h := h hx8 hok9 hr11
    replace hO1 := hO1.up hx8
    refine r_if_ne x_290_19 (t := 66) (by decide +kernel) hr11 (fun hc => ?_) (fun hc => ?_)
    · replace h := h.2 hc
      refine r_iconst x_290_66 ?_
      refine r_goto x_290_67 (t := 71) (by decide +kernel) ?_
      exact h
    · replace h := h.1 hc
      refine r_aload_n x_290_22 rfl ?_
      refine r_iload_n x_290_23 rfl ?_
      refine r_ldcw x_290_24 (v := .ref (4 * 99 + 1)) rfl ?_
      refine r_invV x_290_27 (z := 236) (ns := 0) (by decide +kernel) (as := [g_n v1, .ref (4 * 99 + 1)]) (r := []) rfl rfl rfl hO1 rfl rfl ?_
      refine r_callI h fun r15 M12 hx13 hok14 hr16 h => ?_
      replace h := h hx13 hok14 hr16
      replace hO1 := hO1.up hx13
      refine r_if_ne x_290_30 (t := 66) (by decide +kernel) hr16 (fun hc => ?_) (fun hc => ?_)
      · replace h := h.2 hc
        refine r_iconst x_290_66 ?_
        refine r_goto x_290_67 (t := 71) (by decide +kernel) ?_
        exact h
      · replace h := h.1 hc
        refine r_aload_n x_290_33 rfl ?_
        refine r_iload_n x_290_34 rfl ?_
        refine r_ldcw x_290_35 (v := .ref (4 * 100 + 1)) rfl ?_
        refine r_invV x_290_38 (z := 236) (ns := 0) (by decide +kernel) (as := [g_n v1, .ref (4 * 100 + 1)]) (r := []) rfl rfl rfl hO1 rfl rfl ?_
        refine r_callI h fun r20 M17 hx18 hok19 hr21 h => ?_
        replace h := h hx18 hok19 hr21
        replace hO1 := hO1.up hx18
        refine r_if_ne x_290_41 (t := 66) (by decide +kernel) hr21 (fun hc => ?_) (fun hc => ?_)
        · replace h := h.2 hc
          refine r_iconst x_290_66 ?_
          refine r_goto x_290_67 (t := 71) (by decide +kernel) ?_
          exact h
        · replace h := h.1 hc
          refine r_aload_n x_290_44 rfl ?_
          refine r_iload_n x_290_45 rfl ?_
          refine r_ldcw x_290_46 (v := .ref (4 * 101 + 1)) rfl ?_
          refine r_invV x_290_49 (z := 236) (ns := 0) (by decide +kernel) (as := [g_n v1, .ref (4 * 101 + 1)]) (r := []) rfl rfl rfl hO1 rfl rfl ?_
          refine r_callI h fun r25 M22 hx23 hok24 hr26 h => ?_
          replace h := h hx23 hok24 hr26
          replace hO1 := hO1.up hx23
          refine r_if_ne x_290_52 (t := 66) (by decide +kernel) hr26 (fun hc => ?_) (fun hc => ?_)
          · replace h := h.2 hc
            refine r_iconst x_290_66 ?_
            refine r_goto x_290_67 (t := 71) (by decide +kernel) ?_
            exact h
          · replace h := h.1 hc
            refine r_aload_n x_290_55 rfl ?_
            refine r_iload_n x_290_56 rfl ?_
            refine r_ldcw x_290_57 (v := .ref (4 * 102 + 1)) rfl ?_
            refine r_invV x_290_60 (z := 236) (ns := 0) (by decide +kernel) (as := [g_n v1, .ref (4 * 102 + 1)]) (r := []) rfl rfl rfl hO1 rfl rfl ?_
            refine r_callI h fun r30 M27 hx28 hok29 hr31 h => ?_
            replace h := h hx28 hok29 hr31
            replace hO1 := hO1.up hx28
            refine r_if_eq x_290_63 (t := 70) (by decide +kernel) hr31 (fun hc => ?_) (fun hc => ?_)
            · replace h := h.1 hc
              refine r_iconst x_290_70 ?_
              exact h
            · replace h := h.2 hc
              refine r_iconst x_290_66 ?_
              refine r_goto x_290_67 (t := 71) (by decide +kernel) ?_
              exact h
theorem s_X12_isCondition_71 {d : Nat} {M : g_M} {Q : Int → g_M → Prop} {a0 : Nat} {v1 : Int} (hv1 : g_InR v1) {w0 : Int} (hw0 : g_InR w0) (h : g_ok M → ((w0 = 0 → g_O M a0 12 ∧ g_Call d 236 [.ref a0, g_n v1, .ref (4 * 103 + 1)] M (g_qI fun r5 M2 => g_ext M M2 → g_ok M2 → g_InR r5 → ((r5 = 0 → g_Call d 236 [.ref a0, g_n v1, .ref (4 * 104 + 1)] M2 (g_qI fun r10 M7 => g_ext M2 M7 → g_ok M7 → g_InR r10 → ((r10 = 0 → g_Call d 236 [.ref a0, g_n v1, .ref (4 * 105 + 1)] M7 (g_qI fun r15 M12 => g_ext M7 M12 → g_ok M12 → g_InR r15 → ((r15 = 0 → g_Call d 236 [.ref a0, g_n v1, .ref (4 * 106 + 1)] M12 (g_qI fun r20 M17 => g_ext M12 M17 → g_ok M17 → g_InR r20 → ((r20 = 0 → g_Call d 236 [.ref a0, g_n v1, .ref (4 * 107 + 1)] M17 (g_qI fun r25 M22 => g_ext M17 M22 → g_ok M22 → g_InR r25 → ((r25 = 0 → g_Call d 236 [.ref a0, g_n v1, .ref (4 * 108 + 1)] M22 (g_qI fun r30 M27 => g_ext M22 M27 → g_ok M27 → g_InR r30 → ((r30 = 0 → Q 0 M27) ∧ (¬ r30 = 0 → Q 1 M27)))) ∧ (¬ r25 = 0 → Q 1 M22)))) ∧ (¬ r20 = 0 → Q 1 M17)))) ∧ (¬ r15 = 0 → Q 1 M12)))) ∧ (¬ r10 = 0 → Q 1 M7)))) ∧ (¬ r5 = 0 → Q 1 M2)))) ∧ (¬ w0 = 0 → Q 1 M))) : g_Run d 290 71 [(0, .ref a0), (1, g_n v1)] [g_n w0] M (g_qI Q) := by
  refine g_Run.ok fun hok => ?_
  replace h := h hok
  refine r_istore_n x_290_71 (by decide +kernel) rfl (lv1 := [(0, .ref a0), (1, g_n v1), (2, g_n w0)]) rfl ?_
  refine r_iload_n x_290_72 rfl ?_
  refine r_if_ne x_290_73 (t := 142) (by decide +kernel) hw0 (fun hc => ?_) (fun hc => ?_)
  · replace h := h.2 hc
    refine r_iconst x_290_142 ?_
    refine r_goto x_290_143 (t := 147) (by decide +kernel) ?_
    exact r_retZ x_290_147 rfl (Or.inr rfl) h
  · replace h := h.1 hc
    refine r_aload_n x_290_76 rfl ?_
    refine r_iload_n x_290_77 rfl ?_
    refine r_ldcw x_290_78 (v := .ref (4 * 103 + 1)) rfl ?_
    obtain ⟨hO1, h⟩ := h
    refine r_invV x_290_81 (z := 236) (ns := 0) (by decide +kernel) (as := [g_n v1, .ref (4 * 103 + 1)]) (r := []) rfl rfl rfl hO1 rfl rfl ?_
    refine r_callI h fun r5 M2 hx3 hok4 hr6 h => ?_
    replace h := h hx3 hok4 hr6
    replace hO1 := hO1.up hx3
    refine r_if_ne x_290_84 (t := 142) (by decide +kernel) hr6 (fun hc => ?_) (fun hc => ?_)
    · replace h := h.2 hc
      refine r_iconst x_290_142 ?_
      refine r_goto x_290_143 (t := 147) (by decide +kernel) ?_
      exact r_retZ x_290_147 rfl (Or.inr rfl) h
    · replace h := h.1 hc
      refine r_aload_n x_290_87 rfl ?_
      refine r_iload_n x_290_88 rfl ?_
      refine r_ldcw x_290_89 (v := .ref (4 * 104 + 1)) rfl ?_
      refine r_invV x_290_92 (z := 236) (ns := 0) (by decide +kernel) (as := [g_n v1, .ref (4 * 104 + 1)]) (r := []) rfl rfl rfl hO1 rfl rfl ?_
      refine r_callI h fun r10 M7 hx8 hok9 hr11 h => ?_
      replace h := h hx8 hok9 hr11
      replace hO1 := hO1.up hx8
      refine r_if_ne x_290_95 (t := 142) (by decide +kernel) hr11 (fun hc => ?_) (fun hc => ?_)
      · replace h := h.2 hc
        refine r_iconst x_290_142 ?_
        refine r_goto x_290_143 (t := 147) (by decide +kernel) ?_
        exact r_retZ x_290_147 rfl (Or.inr rfl) h
      · replace h := h.1 hc
        refine r_aload_n x_290_98 rfl ?_
        refine r_iload_n x_290_99 rfl ?_
        refine r_ldcw x_290_100 (v := .ref (4 * 105 + 1)) rfl ?_
        refine r_invV x_290_103 (z := 236) (ns := 0) (by decide +kernel) (as := [g_n v1, .ref (4 * 105 + 1)]) (r := []) rfl rfl rfl hO1 rfl rfl ?_
        refine r_callI h fun r15 M12 hx13 hok14 hr16 h => ?_
        replace h := h hx13 hok14 hr16
        replace hO1 := hO1.up hx13
        refine r_if_ne x_290_106 (t := 142) (by decide +kernel) hr16 (fun hc => ?_) (fun hc => ?_)
        · replace h := h.2 hc
          refine r_iconst x_290_142 ?_
          refine r_goto x_290_143 (t := 147) (by decide +kernel) ?_
          exact r_retZ x_290_147 rfl (Or.inr rfl) h
        · replace h := h.1 hc
          refine r_aload_n x_290_109 rfl ?_
          refine r_iload_n x_290_110 rfl ?_
          refine r_ldcw x_290_111 (v := .ref (4 * 106 + 1)) rfl ?_
          refine r_invV x_290_114 (z := 236) (ns := 0) (by decide +kernel) (as := [g_n v1, .ref (4 * 106 + 1)]) (r := []) rfl rfl rfl hO1 rfl rfl ?_
          refine r_callI h fun r20 M17 hx18 hok19 hr21 h => ?_
          replace h := h hx18 hok19 hr21
          replace hO1 := hO1.up hx18
          refine r_if_ne x_290_117 (t := 142) (by decide +kernel) hr21 (fun hc => ?_) (fun hc => ?_)
          · replace h := h.2 hc
            refine r_iconst x_290_142 ?_
            refine r_goto x_290_143 (t := 147) (by decide +kernel) ?_
            exact r_retZ x_290_147 rfl (Or.inr rfl) h
          · replace h := h.1 hc
            refine r_aload_n x_290_120 rfl ?_
            refine r_iload_n x_290_121 rfl ?_
            refine r_ldcw x_290_122 (v := .ref (4 * 107 + 1)) rfl ?_
            refine r_invV x_290_125 (z := 236) (ns := 0) (by decide +kernel) (as := [g_n v1, .ref (4 * 107 + 1)]) (r := []) rfl rfl rfl hO1 rfl rfl ?_
            refine r_callI h fun r25 M22 hx23 hok24 hr26 h => ?_
            replace h := h hx23 hok24 hr26
            replace hO1 := hO1.up hx23
            refine r_if_ne x_290_128 (t := 142) (by decide +kernel) hr26 (fun hc => ?_) (fun hc => ?_)
            · replace h := h.2 hc
              refine r_iconst x_290_142 ?_
              refine r_goto x_290_143 (t := 147) (by decide +kernel) ?_
              exact r_retZ x_290_147 rfl (Or.inr rfl) h
            · replace h := h.1 hc
              refine r_aload_n x_290_131 rfl ?_
              refine r_iload_n x_290_132 rfl ?_
              refine r_ldcw x_290_133 (v := .ref (4 * 108 + 1)) rfl ?_
              refine r_invV x_290_136 (z := 236) (ns := 0) (by decide +kernel) (as := [g_n v1, .ref (4 * 108 + 1)]) (r := []) rfl rfl rfl hO1 rfl rfl ?_
              refine r_callI h fun r30 M27 hx28 hok29 hr31 h => ?_
              replace h := h hx28 hok29 hr31
              replace hO1 := hO1.up hx28
              refine r_if_eq x_290_139 (t := 146) (by decide +kernel) hr31 (fun hc => ?_) (fun hc => ?_)
              · replace h := h.1 hc
                refine r_iconst x_290_146 ?_
                exact r_retZ x_290_147 rfl (Or.inl rfl) h
              · replace h := h.2 hc
                refine r_iconst x_290_142 ?_
                refine r_goto x_290_143 (t := 147) (by decide +kernel) ?_
                exact r_retZ x_290_147 rfl (Or.inr rfl) h
theorem m_X12_hasRightValue {d : Nat} {M : g_M} {Q : Int → g_M → Prop} {a0 : Nat} {v1 : Int} (hv1 : g_InR v1) (h : g_ok M → g_O M a0 12 ∧ g_Call d 236 [.ref a0, g_n v1, .ref (4 * 99 + 1)] M (g_qI fun r5 M2 => g_ext M M2 → g_ok M2 → g_InR r5 → ((r5 = 0 → g_Call d 236 [.ref a0, g_n v1, .ref (4 * 100 + 1)] M2 (g_qI fun r10 M7 => g_ext M2 M7 → g_ok M7 → g_InR r10 → ((r10 = 0 → g_Call d 236 [.ref a0, g_n v1, .ref (4 * 105 + 1)] M7 (g_qI fun r15 M12 => g_ext M7 M12 → g_ok M12 → g_InR r15 → ((r15 = 0 → g_Call d 236 [.ref a0, g_n v1, .ref (4 * 106 + 1)] M12 (g_qI fun r20 M17 => g_ext M12 M17 → g_ok M17 → g_InR r20 → ((r20 = 0 → g_Call d 236 [.ref a0, g_n v1, .ref (4 * 107 + 1)] M17 (g_qI fun r25 M22 => g_ext M17 M22 → g_ok M22 → g_InR r25 → ((r25 = 0 → g_Call d 236 [.ref a0, g_n v1, .ref (4 * 108 + 1)] M22 (g_qI fun r30 M27 => g_ext M22 M27 → g_ok M27 → g_InR r30 → ((r30 = 0 → Q 1 M27) ∧ (¬ r30 = 0 → g_Call d 284 [.ref a0, g_n v1] M27 (g_qI fun r35 M32 => g_ext M27 M32 → g_ok M32 → g_InR r35 → ((r35 = 0 → Q 0 M32) ∧ (¬ r35 = 0 → Q 1 M32))))))) ∧ (¬ r25 = 0 → ∃ b37, g_r M22 a0 0 = some b37 ∧ ∃ n39, g_A M22 b37 0 n39 ∧ ((0 : Int) ≤ v1 ∧ (v1 : Int) < n39) ∧ ((g_i M22 b37 v1 = 3 → Q 1 M22) ∧ (¬ g_i M22 b37 v1 = 3 → Q 0 M22)))))) ∧ (¬ r20 = 0 → g_Call d 242 [.ref a0, g_n v1] M17 (g_qI fun r45 M42 => g_ext M17 M42 → g_ok M42 → g_InR r45 → ((r45 = 0 → Q 0 M42) ∧ (¬ r45 = 0 → g_Call d 243 [.ref a0, g_n v1] M42 (g_qL fun R50 M47 => g_ext M42 M47 → g_ok M47 → ((g_lc R50 0 < 0 → Q 0 M47) ∧ (¬ g_lc R50 0 < 0 → Q 1 M47)))))))))) ∧ (¬ r15 = 0 → ∃ b51, g_r M12 a0 0 = some b51 ∧ ∃ n53, g_A M12 b51 0 n53 ∧ ((0 : Int) ≤ v1 ∧ (v1 : Int) < n53) ∧ ((g_i M12 b51 v1 = 8 → Q 1 M12) ∧ (¬ g_i M12 b51 v1 = 8 → Q 0 M12)))))) ∧ (¬ r10 = 0 → g_Run d 291 22 [(0, .ref a0), (1, g_n v1)] [] M7 (g_qI Q))))) ∧ (¬ r5 = 0 → g_Run d 291 22 [(0, .ref a0), (1, g_n v1)] [] M2 (g_qI Q))))) : g_Call (d + 1) 291 [.ref a0, g_n v1] M (g_qI Q) := by
  refine g_Call.ok fun hok0 => ?_
  replace h := h hok0
  refine r_body rfl (lv := [(0, .ref a0), (1, g_n v1)]) rfl ?_
  refine g_Run.ok fun hok => ?_
  refine r_aload_n x_291_0 rfl ?_
  refine r_iload_n x_291_1 rfl ?_
  refine r_ldcw x_291_2 (v := .ref (4 * 99 + 1)) rfl ?_
  obtain ⟨hO1, h⟩ := h
  refine r_invV x_291_5 (z := 236) (ns := 0) (by decide +kernel) (as := [g_n v1, .ref (4 * 99 + 1)]) (r := []) rfl rfl rfl hO1 rfl rfl ?_
  refine r_callI h fun r5 M2 hx3 hok4 hr6 h => ?_
  replace h := h hx3 hok4 hr6
  replace hO1 := hO1.up hx3
  refine r_if_ne x_291_8 (t := 22) (by decide +kernel) hr6 (fun hc => ?_) (fun hc => ?_)
  · replace h := h.2 hc
    exact h
  · replace h := h.1 hc
    refine r_aload_n x_291_11 rfl ?_
    refine r_iload_n x_291_12 rfl ?_
    refine r_ldcw x_291_13 (v := .ref (4 * 100 + 1)) rfl ?_
    refine r_invV x_291_16 (z := 236) (ns := 0) (by decide +kernel) (as := [g_n v1, .ref (4 * 100 + 1)]) (r := []) rfl rfl rfl hO1 rfl rfl ?_
    refine r_callI h fun r10 M7 hx8 hok9 hr11 h => ?_
    replace h := h hx8 hok9 hr11
    replace hO1 := hO1.up hx8
    refine r_if_eq x_291_19 (t := 38) (by decide +kernel) hr11 (fun hc => ?_) (fun hc => ?_)
    · replace h := h.1 hc
      refine r_aload_n x_291_38 rfl ?_
      refine r_iload_n x_291_39 rfl ?_
      refine r_ldcw x_291_40 (v := .ref (4 * 105 + 1)) rfl ?_
      refine r_invV x_291_43 (z := 236) (ns := 0) (by decide +kernel) (as := [g_n v1, .ref (4 * 105 + 1)]) (r := []) rfl rfl rfl hO1 rfl rfl ?_
      refine r_callI h fun r15 M12 hx13 hok14 hr16 h => ?_
      replace h := h hx13 hok14 hr16
      replace hO1 := hO1.up hx13
      refine r_if_eq x_291_46 (t := 66) (by decide +kernel) hr16 (fun hc => ?_) (fun hc => ?_)
      · replace h := h.1 hc
        refine r_aload_n x_291_66 rfl ?_
        refine r_iload_n x_291_67 rfl ?_
        refine r_ldcw x_291_68 (v := .ref (4 * 106 + 1)) rfl ?_
        refine r_invV x_291_71 (z := 236) (ns := 0) (by decide +kernel) (as := [g_n v1, .ref (4 * 106 + 1)]) (r := []) rfl rfl rfl hO1 rfl rfl ?_
        refine r_callI h fun r20 M17 hx18 hok19 hr21 h => ?_
        replace h := h hx18 hok19 hr21
        replace hO1 := hO1.up hx18
        refine r_if_eq x_291_74 (t := 101) (by decide +kernel) hr21 (fun hc => ?_) (fun hc => ?_)
        · replace h := h.1 hc
          refine r_aload_n x_291_101 rfl ?_
          refine r_iload_n x_291_102 rfl ?_
          refine r_ldcw x_291_103 (v := .ref (4 * 107 + 1)) rfl ?_
          refine r_invV x_291_106 (z := 236) (ns := 0) (by decide +kernel) (as := [g_n v1, .ref (4 * 107 + 1)]) (r := []) rfl rfl rfl hO1 rfl rfl ?_
          refine r_callI h fun r25 M22 hx23 hok24 hr26 h => ?_
          replace h := h hx23 hok24 hr26
          replace hO1 := hO1.up hx23
          refine r_if_eq x_291_109 (t := 128) (by decide +kernel) hr26 (fun hc => ?_) (fun hc => ?_)
          · replace h := h.1 hc
            refine r_aload_n x_291_128 rfl ?_
            refine r_iload_n x_291_129 rfl ?_
            refine r_ldcw x_291_130 (v := .ref (4 * 108 + 1)) rfl ?_
            refine r_invV x_291_133 (z := 236) (ns := 0) (by decide +kernel) (as := [g_n v1, .ref (4 * 108 + 1)]) (r := []) rfl rfl rfl hO1 rfl rfl ?_
            refine r_callI h fun r30 M27 hx28 hok29 hr31 h => ?_
            replace h := h hx28 hok29 hr31
            replace hO1 := hO1.up hx28
            refine r_if_eq x_291_136 (t := 147) (by decide +kernel) hr31 (fun hc => ?_) (fun hc => ?_)
            · replace h := h.1 hc
              refine r_iconst x_291_147 ?_
              refine r_goto x_291_148 (t := 152) (by decide +kernel) ?_
              exact r_retZ x_291_152 rfl (Or.inr rfl) h
            · replace h := h.2 hc
              refine r_aload_n x_291_139 rfl ?_
              refine r_iload_n x_291_140 rfl ?_
              refine r_invV x_291_141 (z := 284) (ns := 0) (by decide +kernel) (as := [g_n v1]) (r := []) rfl rfl rfl hO1 rfl rfl ?_
              refine r_callI h fun r35 M32 hx33 hok34 hr36 h => ?_
              replace h := h hx33 hok34 hr36
              replace hO1 := hO1.up hx33
              refine r_if_eq x_291_144 (t := 151) (by decide +kernel) hr36 (fun hc => ?_) (fun hc => ?_)
              · replace h := h.1 hc
                refine r_iconst x_291_151 ?_
                exact r_retZ x_291_152 rfl (Or.inl rfl) h
              · replace h := h.2 hc
                refine r_iconst x_291_147 ?_
                refine r_goto x_291_148 (t := 152) (by decide +kernel) ?_
                exact r_retZ x_291_152 rfl (Or.inr rfl) h
          · replace h := h.2 hc
            refine r_aload_n x_291_112 rfl ?_
            obtain ⟨b37, hb38, h⟩ := h
            refine r_getR x_291_113 rfl (ci := 12) (k := 0) (ns := 0) (by decide +kernel) (by decide) rfl (kz := 0) rfl hO1 hb38 ?_
            refine r_iload_n x_291_116 rfl ?_
            obtain ⟨n39, hA40, h⟩ := h
            obtain ⟨h41, h⟩ := h
            refine r_bald x_291_117 (Or.inl rfl) hA40 hv1 h41.1 h41.2 ?_
            refine r_iconst x_291_118 ?_
            refine r_ic_ne x_291_119 (t := 126) (by decide +kernel) (hok24.1 _ _) (g_Rk rfl) (fun hc => ?_) (fun hc => ?_)
            · replace h := h.2 hc
              refine r_iconst x_291_126 ?_
              exact r_retZ x_291_127 rfl (Or.inl rfl) h
            · replace h := h.1 hc
              refine r_iconst x_291_122 ?_
              refine r_goto x_291_123 (t := 127) (by decide +kernel) ?_
              exact r_retZ x_291_127 rfl (Or.inr rfl) h
        · replace h := h.2 hc
          refine r_aload_n x_291_77 rfl ?_
          refine r_iload_n x_291_78 rfl ?_
          refine r_invV x_291_79 (z := 242) (ns := 0) (by decide +kernel) (as := [g_n v1]) (r := []) rfl rfl rfl hO1 rfl rfl ?_
          refine r_callI h fun r45 M42 hx43 hok44 hr46 h => ?_
          replace h := h hx43 hok44 hr46
          replace hO1 := hO1.up hx43
          refine r_if_eq x_291_82 (t := 99) (by decide +kernel) hr46 (fun hc => ?_) (fun hc => ?_)
          · replace h := h.1 hc
            refine r_iconst x_291_99 ?_
            exact r_retZ x_291_100 rfl (Or.inl rfl) h
          · replace h := h.2 hc
            refine r_aload_n x_291_85 rfl ?_
            refine r_iload_n x_291_86 rfl ?_
            refine r_invV x_291_87 (z := 243) (ns := 0) (by decide +kernel) (as := [g_n v1]) (r := []) rfl rfl rfl hO1 rfl rfl ?_
            refine r_callL h fun R50 M47 hx48 hok49 h => ?_
            replace h := h hx48 hok49
            replace hO1 := hO1.up hx48
            refine r_lconst x_291_90 ?_
            show g_Run d 291 91 [(0, .ref a0), (1, g_n v1)] [.long 0, .long R50] M47 _
            refine r_lcmp x_291_91 ?_
            refine r_if_lt x_291_92 (t := 99) (by decide +kernel) (g_InR_toInt _) (fun hc => ?_) (fun hc => ?_)
            · replace h := h.1 hc
              refine r_iconst x_291_99 ?_
              exact r_retZ x_291_100 rfl (Or.inl rfl) h
            · replace h := h.2 hc
              refine r_iconst x_291_95 ?_
              refine r_goto x_291_96 (t := 100) (by decide +kernel) ?_
              exact r_retZ x_291_100 rfl (Or.inr rfl) h
      · replace h := h.2 hc
        refine r_aload_n x_291_49 rfl ?_
        obtain ⟨b51, hb52, h⟩ := h
        refine r_getR x_291_50 rfl (ci := 12) (k := 0) (ns := 0) (by decide +kernel) (by decide) rfl (kz := 0) rfl hO1 hb52 ?_
        refine r_iload_n x_291_53 rfl ?_
        obtain ⟨n53, hA54, h⟩ := h
        obtain ⟨h55, h⟩ := h
        refine r_bald x_291_54 (Or.inl rfl) hA54 hv1 h55.1 h55.2 ?_
        refine r_bipush x_291_55 (x := 8) rfl ?_
        refine r_ic_ne x_291_57 (t := 64) (by decide +kernel) (hok14.1 _ _) (g_Rk rfl) (fun hc => ?_) (fun hc => ?_)
        · replace h := h.2 hc
          refine r_iconst x_291_64 ?_
          exact r_retZ x_291_65 rfl (Or.inl rfl) h
        · replace h := h.1 hc
          refine r_iconst x_291_60 ?_
          refine r_goto x_291_61 (t := 65) (by decide +kernel) ?_
          exact r_retZ x_291_65 rfl (Or.inr rfl) h
    · replace h := h.2 hc
      exact h
theorem s_X12_hasRightValue_22 {d : Nat} {M : g_M} {Q : Int → g_M → Prop} {a0 : Nat} {v1 : Int} (hv1 : g_InR v1) (h : g_ok M → g_O M a0 12 ∧ ∃ b2, g_r M a0 0 = some b2 ∧ ∃ n4, g_A M b2 0 n4 ∧ ((0 : Int) ≤ v1 ∧ (v1 : Int) < n4) ∧ ((g_i M b2 v1 = 4 → Q 1 M) ∧ (¬ g_i M b2 v1 = 4 → Q 0 M))) : g_Run d 291 22 [(0, .ref a0), (1, g_n v1)] [] M (g_qI Q) := by
  refine g_Run.ok fun hok => ?_
  replace h := h hok
  refine r_aload_n x_291_22 rfl ?_
  obtain ⟨hO1, h⟩ := h
  obtain ⟨b2, hb3, h⟩ := h
  refine r_getR x_291_23 rfl (ci := 12) (k := 0) (ns := 0) (by decide +kernel) (by decide) rfl (kz := 0) rfl hO1 hb3 ?_
  refine r_iload_n x_291_26 rfl ?_
  obtain ⟨n4, hA5, h⟩ := h
  obtain ⟨h6, h⟩ := h
  refine r_bald x_291_27 (Or.inl rfl) hA5 hv1 h6.1 h6.2 ?_
  refine r_iconst x_291_28 ?_
  refine r_ic_ne x_291_29 (t := 36) (by decide +kernel) (hok.1 _ _) (g_Rk rfl) (fun hc => ?_) (fun hc => ?_)
  · replace h := h.2 hc
    refine r_iconst x_291_36 ?_
    exact r_retZ x_291_37 rfl (Or.inl rfl) h
  · replace h := h.1 hc
    refine r_iconst x_291_32 ?_
    refine r_goto x_291_33 (t := 37) (by decide +kernel) ?_
    exact r_retZ x_291_37 rfl (Or.inr rfl) h
theorem m_X12_checkConditions {d : Nat} {M : g_M} {Q : Int → g_M → Prop} {a0 : Nat} {v1 : Int} (hv1 : g_InR v1) (h : g_ok M → g_Call d 237 [g_n v1] M (g_qI fun r4 M1 => g_ext M M1 → g_ok M1 → g_InR r4 → g_Run d 292 5 [(0, .ref a0), (1, g_n v1), (2, g_n r4)] [] M1 (g_qI Q))) : g_Call (d + 1) 292 [.ref a0, g_n v1] M (g_qI Q) := by
  refine g_Call.ok fun hok0 => ?_
  replace h := h hok0
  refine r_body rfl (lv := [(0, .ref a0), (1, g_n v1)]) rfl ?_
  refine g_Run.ok fun hok => ?_
  refine r_iload_n x_292_0 rfl ?_
  refine r_invS x_292_1 (z := 237) (ns := 0) (by decide +kernel) (as := [g_n v1]) (r := []) rfl rfl rfl ?_
  refine r_callI h fun r4 M1 hx2 hok3 hr5 h => ?_
  replace h := h hx2 hok3 hr5
  refine r_istore_n x_292_4 (by decide +kernel) rfl (lv1 := [(0, .ref a0), (1, g_n v1), (2, g_n r4)]) rfl ?_
  exact h
theorem s_X12_checkConditions_5 {d : Nat} {M : g_M} {Q : Int → g_M → Prop} {a0 : Nat} {v1 : Int} (hv1 : g_InR v1) {v2 : Int} (hv2 : g_InR v2) (h : g_ok M → g_O M a0 12 ∧ g_Call d 238 [.ref a0, g_n v1] M (g_qI fun r5 M2 => g_ext M M2 → g_ok M2 → g_InR r5 → ((v2 < r5 → g_Call d 290 [.ref a0, g_n v2] M2 (g_qI fun r10 M7 => g_ext M2 M7 → g_ok M7 → g_InR r10 → ((r10 = 0 → g_Call d 257 [.ref a0, g_n 1, g_n v2] M7 (g_qI fun r45 M42 => g_ext M7 M42 → g_ok M42 → g_InR r45 → (r45 = 0 ∨ r45 = 1) ∧ Q r45 M42)) ∧ (¬ r10 = 0 → g_Call d 291 [.ref a0, g_n v2] M7 (g_qI fun r15 M12 => g_ext M7 M12 → g_ok M12 → g_InR r15 → ((r15 = 0 → g_Call d 257 [.ref a0, g_n 4, g_n v2] M12 (g_qI fun r40 M37 => g_ext M12 M37 → g_ok M37 → g_InR r40 → (r40 = 0 ∨ r40 = 1) ∧ Q r40 M37)) ∧ (¬ r15 = 0 → g_Call d 286 [.ref a0, g_n 1, g_n v2] M12 (g_qI fun r20 M17 => g_ext M12 M17 → g_ok M17 → g_InR r20 → ((r20 = 0 → Q 0 M17) ∧ (¬ r20 = 0 → g_Call d 236 [.ref a0, g_n v2, .ref (4 * 108 + 1)] M17 (g_qI fun r25 M22 => g_ext M17 M22 → g_ok M22 → g_InR r25 → ((r25 = 0 → g_Run d 292 80 [(0, .ref a0), (1, g_n v1), (2, g_n v2)] [] M22 (g_qI Q)) ∧ (¬ r25 = 0 → g_Call d 233 [.ref a0, g_n v2] M22 (g_qI fun r30 M27 => g_ext M22 M27 → g_ok M27 → g_InR r30 → g_Call d 292 [.ref a0, g_n r30] M27 (g_qI fun r35 M32 => g_ext M27 M32 → g_ok M32 → g_InR r35 → ((r35 = 0 → Q 0 M32) ∧ (¬ r35 = 0 → g_Run d 292 80 [(0, .ref a0), (1, g_n v1), (2, g_n v2)] [] M32 (g_qI Q)))))))))))))))))) ∧ (¬ v2 < r5 → Q 1 M2)))) : g_Run d 292 5 [(0, .ref a0), (1, g_n v1), (2, g_n v2)] [] M (g_qI Q) := by
  refine g_Run.ok fun hok => ?_
  replace h := h hok
  refine r_iload_n x_292_5 rfl ?_
  refine r_aload_n x_292_6 rfl ?_
  refine r_iload_n x_292_7 rfl ?_
  obtain ⟨hO1, h⟩ := h
  refine r_invV x_292_8 (z := 238) (ns := 0) (by decide +kernel) (as := [g_n v1]) (r := [g_n v2]) rfl rfl rfl hO1 rfl rfl ?_
  refine r_callI h fun r5 M2 hx3 hok4 hr6 h => ?_
  replace h := h hx3 hok4 hr6
  replace hO1 := hO1.up hx3
  refine r_ic_ge x_292_11 (t := 137) (by decide +kernel) hv2 hr6 (fun hc => ?_) (fun hc => ?_)
  · replace h := h.2 hc
    refine r_iconst x_292_137 ?_
    exact r_retZ x_292_138 rfl (Or.inr rfl) h
  · replace h := h.1 hc
    refine r_aload_n x_292_14 rfl ?_
    refine r_iload_n x_292_15 rfl ?_
    refine r_invV x_292_16 (z := 290) (ns := 0) (by decide +kernel) (as := [g_n v2]) (r := []) rfl rfl rfl hO1 rfl rfl ?_
    refine r_callI h fun r10 M7 hx8 hok9 hr11 h => ?_
    replace h := h hx8 hok9 hr11
    replace hO1 := hO1.up hx8
    refine r_if_ne x_292_19 (t := 29) (by decide +kernel) hr11 (fun hc => ?_) (fun hc => ?_)
    · replace h := h.2 hc
      refine r_aload_n x_292_29 rfl ?_
      refine r_iload_n x_292_30 rfl ?_
      refine r_invV x_292_31 (z := 291) (ns := 0) (by decide +kernel) (as := [g_n v2]) (r := []) rfl rfl rfl hO1 rfl rfl ?_
      refine r_callI h fun r15 M12 hx13 hok14 hr16 h => ?_
      replace h := h hx13 hok14 hr16
      replace hO1 := hO1.up hx13
      refine r_if_ne x_292_34 (t := 44) (by decide +kernel) hr16 (fun hc => ?_) (fun hc => ?_)
      · replace h := h.2 hc
        refine r_aload_n x_292_44 rfl ?_
        refine r_iconst x_292_45 ?_
        refine r_iload_n x_292_46 rfl ?_
        refine r_invV x_292_47 (z := 286) (ns := 0) (by decide +kernel) (as := [g_n 1, g_n v2]) (r := []) rfl rfl rfl hO1 rfl rfl ?_
        refine r_callI h fun r20 M17 hx18 hok19 hr21 h => ?_
        replace h := h hx18 hok19 hr21
        replace hO1 := hO1.up hx18
        refine r_if_ne x_292_50 (t := 55) (by decide +kernel) hr21 (fun hc => ?_) (fun hc => ?_)
        · replace h := h.2 hc
          refine r_aload_n x_292_55 rfl ?_
          refine r_iload_n x_292_56 rfl ?_
          refine r_ldcw x_292_57 (v := .ref (4 * 108 + 1)) rfl ?_
          refine r_invV x_292_60 (z := 236) (ns := 0) (by decide +kernel) (as := [g_n v2, .ref (4 * 108 + 1)]) (r := []) rfl rfl rfl hO1 rfl rfl ?_
          refine r_callI h fun r25 M22 hx23 hok24 hr26 h => ?_
          replace h := h hx23 hok24 hr26
          replace hO1 := hO1.up hx23
          refine r_if_eq x_292_63 (t := 80) (by decide +kernel) hr26 (fun hc => ?_) (fun hc => ?_)
          · replace h := h.1 hc
            exact h
          · replace h := h.2 hc
            refine r_aload_n x_292_66 rfl ?_
            refine r_aload_n x_292_67 rfl ?_
            refine r_iload_n x_292_68 rfl ?_
            refine r_invV x_292_69 (z := 233) (ns := 0) (by decide +kernel) (as := [g_n v2]) (r := [.ref a0]) rfl rfl rfl hO1 rfl rfl ?_
            refine r_callI h fun r30 M27 hx28 hok29 hr31 h => ?_
            replace h := h hx28 hok29 hr31
            replace hO1 := hO1.up hx28
            refine r_invV x_292_72 (z := 292) (ns := 0) (by decide +kernel) (as := [g_n r30]) (r := []) rfl rfl rfl hO1 rfl rfl ?_
            refine r_callI h fun r35 M32 hx33 hok34 hr36 h => ?_
            replace h := h hx33 hok34 hr36
            replace hO1 := hO1.up hx33
            refine r_if_ne x_292_75 (t := 80) (by decide +kernel) hr36 (fun hc => ?_) (fun hc => ?_)
            · replace h := h.2 hc
              exact h
            · replace h := h.1 hc
              refine r_iconst x_292_78 ?_
              exact r_retZ x_292_79 rfl (Or.inl rfl) h
        · replace h := h.1 hc
          refine r_iconst x_292_53 ?_
          exact r_retZ x_292_54 rfl (Or.inl rfl) h
      · replace h := h.1 hc
        refine r_aload_n x_292_37 rfl ?_
        refine r_iconst x_292_38 ?_
        refine r_iload_n x_292_39 rfl ?_
        refine r_invV x_292_40 (z := 257) (ns := 0) (by decide +kernel) (as := [g_n 4, g_n v2]) (r := []) rfl rfl rfl hO1 rfl rfl ?_
        refine r_callI h fun r40 M37 hx38 hok39 hr41 h => ?_
        replace h := h hx38 hok39 hr41
        replace hO1 := hO1.up hx38
        obtain ⟨hz, h⟩ := h
        exact r_retZ x_292_43 rfl hz h
    · replace h := h.1 hc
      refine r_aload_n x_292_22 rfl ?_
      refine r_iconst x_292_23 ?_
      refine r_iload_n x_292_24 rfl ?_
      refine r_invV x_292_25 (z := 257) (ns := 0) (by decide +kernel) (as := [g_n 1, g_n v2]) (r := []) rfl rfl rfl hO1 rfl rfl ?_
      refine r_callI h fun r45 M42 hx43 hok44 hr46 h => ?_
      replace h := h hx43 hok44 hr46
      replace hO1 := hO1.up hx43
      obtain ⟨hz, h⟩ := h
      exact r_retZ x_292_28 rfl hz h
theorem s_X12_checkConditions_80 {d : Nat} {M : g_M} {Q : Int → g_M → Prop} {a0 : Nat} {v1 : Int} (hv1 : g_InR v1) {v2 : Int} (hv2 : g_InR v2) (h : g_ok M → g_O M a0 12 ∧ g_Call d 236 [.ref a0, g_n v2, .ref (4 * 107 + 1)] M (g_qI fun r5 M2 => g_ext M M2 → g_ok M2 → g_InR r5 → ((r5 = 0 → g_Call d 235 [.ref a0, g_n v2] M2 (g_qI fun r10 M7 => g_ext M2 M7 → g_ok M7 → g_InR r10 → g_Run d 292 5 [(0, .ref a0), (1, g_n v1), (2, g_n r10)] [] M7 (g_qI Q))) ∧ (¬ r5 = 0 → g_Call d 285 [.ref a0, g_n v2] M2 (g_qI fun r15 M12 => g_ext M2 M12 → g_ok M12 → g_InR r15 → ((r15 = 0 → g_Call d 233 [.ref a0, g_n v2] M12 (g_qI fun r20 M17 => g_ext M12 M17 → g_ok M17 → g_InR r20 → g_Call d 288 [.ref a0, g_n r20] M17 (g_qI fun r25 M22 => g_ext M17 M22 → g_ok M22 → g_InR r25 → ((r25 = 0 → Q 0 M22) ∧ (¬ r25 = 0 → g_Call d 235 [.ref a0, g_n v2] M22 (g_qI fun r30 M27 => g_ext M22 M27 → g_ok M27 → g_InR r30 → g_Run d 292 5 [(0, .ref a0), (1, g_n v1), (2, g_n r30)] [] M27 (g_qI Q))))))) ∧ (¬ r15 = 0 → g_Call d 233 [.ref a0, g_n v2] M12 (g_qI fun r35 M32 => g_ext M12 M32 → g_ok M32 → g_InR r35 → g_Call d 292 [.ref a0, g_n r35] M32 (g_qI fun r40 M37 => g_ext M32 M37 → g_ok M37 → g_InR r40 → ((r40 = 0 → Q 0 M37) ∧ (¬ r40 = 0 → g_Call d 235 [.ref a0, g_n v2] M37 (g_qI fun r45 M42 => g_ext M37 M42 → g_ok M42 → g_InR r45 → g_Run d 292 5 [(0, .ref a0), (1, g_n v1), (2, g_n r45)] [] M42 (g_qI Q))))))))))))) : g_Run d 292 80 [(0, .ref a0), (1, g_n v1), (2, g_n v2)] [] M (g_qI Q) := by
  refine g_Run.ok fun hok => ?_
  replace h := h hok
  refine r_aload_n x_292_80 rfl ?_
  refine r_iload_n x_292_81 rfl ?_
  refine r_ldcw x_292_82 (v := .ref (4 * 107 + 1)) rfl ?_
  obtain ⟨hO1, h⟩ := h
  refine r_invV x_292_85 (z := 236) (ns := 0) (by decide +kernel) (as := [g_n v2, .ref (4 * 107 + 1)]) (r := []) rfl rfl rfl hO1 rfl rfl ?_
  refine r_callI h fun r5 M2 hx3 hok4 hr6 h => ?_
  replace h := h hx3 hok4 hr6
  replace hO1 := hO1.up hx3
  refine r_if_eq x_292_88 (t := 128) (by decide +kernel) hr6 (fun hc => ?_) (fun hc => ?_)
  · replace h := h.1 hc
    refine r_aload_n x_292_128 rfl ?_
    refine r_iload_n x_292_129 rfl ?_
    refine r_invV x_292_130 (z := 235) (ns := 0) (by decide +kernel) (as := [g_n v2]) (r := []) rfl rfl rfl hO1 rfl rfl ?_
    refine r_callI h fun r10 M7 hx8 hok9 hr11 h => ?_
    replace h := h hx8 hok9 hr11
    replace hO1 := hO1.up hx8
    refine r_istore_n x_292_133 (by decide +kernel) rfl (lv1 := [(0, .ref a0), (1, g_n v1), (2, g_n r10)]) rfl ?_
    refine r_goto x_292_134 (t := 5) (by decide +kernel) ?_
    exact h
  · replace h := h.2 hc
    refine r_aload_n x_292_91 rfl ?_
    refine r_iload_n x_292_92 rfl ?_
    refine r_invV x_292_93 (z := 285) (ns := 0) (by decide +kernel) (as := [g_n v2]) (r := []) rfl rfl rfl hO1 rfl rfl ?_
    refine r_callI h fun r15 M12 hx13 hok14 hr16 h => ?_
    replace h := h hx13 hok14 hr16
    replace hO1 := hO1.up hx13
    refine r_if_eq x_292_96 (t := 114) (by decide +kernel) hr16 (fun hc => ?_) (fun hc => ?_)
    · replace h := h.1 hc
      refine r_aload_n x_292_114 rfl ?_
      refine r_aload_n x_292_115 rfl ?_
      refine r_iload_n x_292_116 rfl ?_
      refine r_invV x_292_117 (z := 233) (ns := 0) (by decide +kernel) (as := [g_n v2]) (r := [.ref a0]) rfl rfl rfl hO1 rfl rfl ?_
      refine r_callI h fun r20 M17 hx18 hok19 hr21 h => ?_
      replace h := h hx18 hok19 hr21
      replace hO1 := hO1.up hx18
      refine r_invV x_292_120 (z := 288) (ns := 0) (by decide +kernel) (as := [g_n r20]) (r := []) rfl rfl rfl hO1 rfl rfl ?_
      refine r_callI h fun r25 M22 hx23 hok24 hr26 h => ?_
      replace h := h hx23 hok24 hr26
      replace hO1 := hO1.up hx23
      refine r_if_ne x_292_123 (t := 128) (by decide +kernel) hr26 (fun hc => ?_) (fun hc => ?_)
      · replace h := h.2 hc
        refine r_aload_n x_292_128 rfl ?_
        refine r_iload_n x_292_129 rfl ?_
        refine r_invV x_292_130 (z := 235) (ns := 0) (by decide +kernel) (as := [g_n v2]) (r := []) rfl rfl rfl hO1 rfl rfl ?_
        refine r_callI h fun r30 M27 hx28 hok29 hr31 h => ?_
        replace h := h hx28 hok29 hr31
        replace hO1 := hO1.up hx28
        refine r_istore_n x_292_133 (by decide +kernel) rfl (lv1 := [(0, .ref a0), (1, g_n v1), (2, g_n r30)]) rfl ?_
        refine r_goto x_292_134 (t := 5) (by decide +kernel) ?_
        exact h
      · replace h := h.1 hc
        refine r_iconst x_292_126 ?_
        exact r_retZ x_292_127 rfl (Or.inl rfl) h
    · replace h := h.2 hc
      refine r_aload_n x_292_99 rfl ?_
      refine r_aload_n x_292_100 rfl ?_
      refine r_iload_n x_292_101 rfl ?_
      refine r_invV x_292_102 (z := 233) (ns := 0) (by decide +kernel) (as := [g_n v2]) (r := [.ref a0]) rfl rfl rfl hO1 rfl rfl ?_
      refine r_callI h fun r35 M32 hx33 hok34 hr36 h => ?_
      replace h := h hx33 hok34 hr36
      replace hO1 := hO1.up hx33
      refine r_invV x_292_105 (z := 292) (ns := 0) (by decide +kernel) (as := [g_n r35]) (r := []) rfl rfl rfl hO1 rfl rfl ?_
      refine r_callI h fun r40 M37 hx38 hok39 hr41 h => ?_
      replace h := h hx38 hok39 hr41
      replace hO1 := hO1.up hx38
      refine r_if_eq x_292_108 (t := 126) (by decide +kernel) hr41 (fun hc => ?_) (fun hc => ?_)
      · replace h := h.1 hc
        refine r_iconst x_292_126 ?_
        exact r_retZ x_292_127 rfl (Or.inl rfl) h
      · replace h := h.2 hc
        refine r_goto x_292_111 (t := 128) (by decide +kernel) ?_
        refine r_aload_n x_292_128 rfl ?_
        refine r_iload_n x_292_129 rfl ?_
        refine r_invV x_292_130 (z := 235) (ns := 0) (by decide +kernel) (as := [g_n v2]) (r := []) rfl rfl rfl hO1 rfl rfl ?_
        refine r_callI h fun r45 M42 hx43 hok44 hr46 h => ?_
        replace h := h hx43 hok44 hr46
        replace hO1 := hO1.up hx43
        refine r_istore_n x_292_133 (by decide +kernel) rfl (lv1 := [(0, .ref a0), (1, g_n v1), (2, g_n r45)]) rfl ?_
        refine r_goto x_292_134 (t := 5) (by decide +kernel) ?_
        exact h
theorem m_X12_holds {d : Nat} {M : g_M} {Q : Int → g_M → Prop} {a0 : Nat} {v1 : Int} (hv1 : g_InR v1) {v2 : Int} (hv2 : g_InR v2) (h : g_ok M → g_Call d 237 [g_n v1] M (g_qI fun r4 M1 => g_ext M M1 → g_ok M1 → g_InR r4 → g_Run d 293 5 [(0, .ref a0), (1, g_n v1), (2, g_n v2), (3, g_n r4)] [] M1 (g_qI Q))) : g_Call (d + 1) 293 [.ref a0, g_n v1, g_n v2] M (g_qI Q) := by
  refine g_Call.ok fun hok0 => ?_
  replace h := h hok0
  refine r_body rfl (lv := [(0, .ref a0), (1, g_n v1), (2, g_n v2)]) rfl ?_
  refine g_Run.ok fun hok => ?_
  refine r_iload_n x_293_0 rfl ?_
  refine r_invS x_293_1 (z := 237) (ns := 0) (by decide +kernel) (as := [g_n v1]) (r := []) rfl rfl rfl ?_
  refine r_callI h fun r4 M1 hx2 hok3 hr5 h => ?_
  replace h := h hx2 hok3 hr5
  refine r_istore_n x_293_4 (by decide +kernel) rfl (lv1 := [(0, .ref a0), (1, g_n v1), (2, g_n v2), (3, g_n r4)]) rfl ?_
  exact h
theorem s_X12_holds_5 {d : Nat} {M : g_M} {Q : Int → g_M → Prop} {a0 : Nat} {v1 : Int} (hv1 : g_InR v1) {v2 : Int} (hv2 : g_InR v2) {v3 : Int} (hv3 : g_InR v3) (h : g_ok M → g_O M a0 12 ∧ g_Call d 238 [.ref a0, g_n v1] M (g_qI fun r5 M2 => g_ext M M2 → g_ok M2 → g_InR r5 → ((v3 < r5 → g_Call d 294 [.ref a0, g_n v3, g_n v2] M2 (g_qI fun r10 M7 => g_ext M2 M7 → g_ok M7 → g_InR r10 → ((r10 = 0 → Q 0 M7) ∧ (¬ r10 = 0 → g_Call d 235 [.ref a0, g_n v3] M7 (g_qI fun r15 M12 => g_ext M7 M12 → g_ok M12 → g_InR r15 → g_Run d 293 5 [(0, .ref a0), (1, g_n v1), (2, g_n v2), (3, g_n r15)] [] M12 (g_qI Q)))))) ∧ (¬ v3 < r5 → Q 1 M2)))) : g_Run d 293 5 [(0, .ref a0), (1, g_n v1), (2, g_n v2), (3, g_n v3)] [] M (g_qI Q) := by
  refine g_Run.ok fun hok => ?_
  replace h := h hok
  refine r_iload_n x_293_5 rfl ?_
  refine r_aload_n x_293_6 rfl ?_
  refine r_iload_n x_293_7 rfl ?_
  obtain ⟨hO1, h⟩ := h
  refine r_invV x_293_8 (z := 238) (ns := 0) (by decide +kernel) (as := [g_n v1]) (r := [g_n v3]) rfl rfl rfl hO1 rfl rfl ?_
  refine r_callI h fun r5 M2 hx3 hok4 hr6 h => ?_
  replace h := h hx3 hok4 hr6
  replace hO1 := hO1.up hx3
  refine r_ic_ge x_293_11 (t := 34) (by decide +kernel) hv3 hr6 (fun hc => ?_) (fun hc => ?_)
  · replace h := h.2 hc
    refine r_iconst x_293_34 ?_
    exact r_retZ x_293_35 rfl (Or.inr rfl) h
  · replace h := h.1 hc
    refine r_aload_n x_293_14 rfl ?_
    refine r_iload_n x_293_15 rfl ?_
    refine r_iload_n x_293_16 rfl ?_
    refine r_invV x_293_17 (z := 294) (ns := 0) (by decide +kernel) (as := [g_n v3, g_n v2]) (r := []) rfl rfl rfl hO1 rfl rfl ?_
    refine r_callI h fun r10 M7 hx8 hok9 hr11 h => ?_
    replace h := h hx8 hok9 hr11
    replace hO1 := hO1.up hx8
    refine r_if_ne x_293_20 (t := 25) (by decide +kernel) hr11 (fun hc => ?_) (fun hc => ?_)
    · replace h := h.2 hc
      refine r_aload_n x_293_25 rfl ?_
      refine r_iload_n x_293_26 rfl ?_
      refine r_invV x_293_27 (z := 235) (ns := 0) (by decide +kernel) (as := [g_n v3]) (r := []) rfl rfl rfl hO1 rfl rfl ?_
      refine r_callI h fun r15 M12 hx13 hok14 hr16 h => ?_
      replace h := h hx13 hok14 hr16
      replace hO1 := hO1.up hx13
      refine r_istore_n x_293_30 (by decide +kernel) rfl (lv1 := [(0, .ref a0), (1, g_n v1), (2, g_n v2), (3, g_n r15)]) rfl ?_
      refine r_goto x_293_31 (t := 5) (by decide +kernel) ?_
      exact h
    · replace h := h.1 hc
      refine r_iconst x_293_23 ?_
      exact r_retZ x_293_24 rfl (Or.inl rfl) h
theorem m_X12_holdsOne {d : Nat} {M : g_M} {Q : Int → g_M → Prop} {a0 : Nat} {v1 : Int} (hv1 : g_InR v1) {v2 : Int} (hv2 : g_InR v2) (h : g_ok M → g_O M a0 12 ∧ g_Call d 282 [.ref a0, g_n v1, g_n 36] M (g_qI fun r5 M2 => g_ext M M2 → g_ok M2 → g_InR r5 → ((r5 = 0 → g_InR (v1 + 1) ∧ g_Call d 232 [.ref a0, g_n v1] M2 (g_qI fun r11 M8 => g_ext M2 M8 → g_ok M8 → g_InR r11 → g_Call d 279 [.ref a0, g_n v2, g_n (v1 + 1), g_n r11] M8 (g_qV fun M13 => g_ext M8 M13 → g_ok M13 → ((g_i M13 a0 10 = g_i M2 a0 10 → g_Call d 277 [.ref a0, g_n ((-1))] M13 (g_qV fun M16 => g_ext M13 M16 → g_ok M16 → g_Run d 294 140 [(0, .ref a0), (1, g_n v1), (2, g_n v2), (3, g_n (g_i M2 a0 10))] [] M16 (g_qI Q))) ∧ (¬ g_i M13 a0 10 = g_i M2 a0 10 → g_Run d 294 140 [(0, .ref a0), (1, g_n v1), (2, g_n v2), (3, g_n (g_i M2 a0 10))] [] M13 (g_qI Q)))))) ∧ (¬ r5 = 0 → g_Call d 233 [.ref a0, g_n v1] M2 (g_qI fun r22 M19 => g_ext M2 M19 → g_ok M19 → g_InR r22 → g_Call d 237 [g_n r22] M19 (g_qI fun r27 M24 => g_ext M19 M24 → g_ok M24 → g_InR r27 → g_Run d 294 25 [(0, .ref a0), (1, g_n v1), (2, g_n v2), (3, g_n 1), (4, g_n 0), (5, g_n r27)] [] M24 (g_qI Q))))))) : g_Call (d + 1) 294 [.ref a0, g_n v1, g_n v2] M (g_qI Q) := by
  refine g_Call.ok fun hok0 => ?_
  replace h := h hok0
  refine r_body rfl (lv := [(0, .ref a0), (1, g_n v1), (2, g_n v2)]) rfl ?_
  refine g_Run.ok fun hok => ?_
  refine r_aload_n x_294_0 rfl ?_
  refine r_iload_n x_294_1 rfl ?_
  refine r_bipush x_294_2 (x := 36) rfl ?_
  obtain ⟨hO1, h⟩ := h
  refine r_invV x_294_4 (z := 282) (ns := 0) (by decide +kernel) (as := [g_n v1, g_n 36]) (r := []) rfl rfl rfl hO1 rfl rfl ?_
  refine r_callI h fun r5 M2 hx3 hok4 hr6 h => ?_
  replace h := h hx3 hok4 hr6
  replace hO1 := hO1.up hx3
  refine r_if_eq x_294_7 (t := 109) (by decide +kernel) hr6 (fun hc => ?_) (fun hc => ?_)
  · replace h := h.1 hc
    refine r_aload_n x_294_109 rfl ?_
    refine r_getI x_294_110 rfl (ci := 12) (k := 10) (ns := 0) (by decide +kernel) (by decide) rfl (kz := 10) rfl hO1 ?_
    refine r_istore_n x_294_113 (by decide +kernel) rfl (lv1 := [(0, .ref a0), (1, g_n v1), (2, g_n v2), (3, g_n (g_i M2 a0 10))]) rfl ?_
    refine r_aload_n x_294_114 rfl ?_
    refine r_iload_n x_294_115 rfl ?_
    refine r_iload_n x_294_116 rfl ?_
    refine r_iconst x_294_117 ?_
    refine r_iadd x_294_118 ?_
    obtain ⟨h7, h⟩ := h
    refine r_aload_n x_294_119 rfl ?_
    refine r_iload_n x_294_120 rfl ?_
    refine r_invV x_294_121 (z := 232) (ns := 0) (by decide +kernel) (as := [g_n v1]) (r := [g_n (v1 + 1), g_n v2, .ref a0]) rfl rfl rfl hO1 rfl rfl ?_
    refine r_callI h fun r11 M8 hx9 hok10 hr12 h => ?_
    replace h := h hx9 hok10 hr12
    replace hO1 := hO1.up hx9
    refine r_invV x_294_124 (z := 279) (ns := 0) (by decide +kernel) (as := [g_n v2, g_n (v1 + 1), g_n r11]) (r := []) rfl rfl rfl hO1 rfl rfl ?_
    refine r_callV h fun M13 hx14 hok15 h => ?_
    replace h := h hx14 hok15
    replace hO1 := hO1.up hx14
    refine r_aload_n x_294_127 rfl ?_
    refine r_getI x_294_128 rfl (ci := 12) (k := 10) (ns := 0) (by decide +kernel) (by decide) rfl (kz := 10) rfl hO1 ?_
    refine r_iload_n x_294_131 rfl ?_
    refine r_ic_ne x_294_132 (t := 140) (by decide +kernel) (hok15.1 _ _) (hok4.1 _ _) (fun hc => ?_) (fun hc => ?_)
    · replace h := h.2 hc
      exact h
    · replace h := h.1 hc
      refine r_aload_n x_294_135 rfl ?_
      refine r_iconst x_294_136 ?_
      refine r_invV x_294_137 (z := 277) (ns := 0) (by decide +kernel) (as := [g_n ((-1))]) (r := []) rfl rfl rfl hO1 rfl rfl ?_
      refine r_callV h fun M16 hx17 hok18 h => ?_
      replace h := h hx17 hok18
      replace hO1 := hO1.up hx17
      exact h
  · replace h := h.2 hc
    refine r_iconst x_294_10 ?_
    refine r_istore_n x_294_11 (by decide +kernel) rfl (lv1 := [(0, .ref a0), (1, g_n v1), (2, g_n v2), (3, g_n 1)]) rfl ?_
    refine r_iconst x_294_12 ?_
    refine r_istore x_294_13 (by decide +kernel) rfl (lv1 := [(0, .ref a0), (1, g_n v1), (2, g_n v2), (3, g_n 1), (4, g_n 0)]) rfl ?_
    refine r_aload_n x_294_15 rfl ?_
    refine r_iload_n x_294_16 rfl ?_
    refine r_invV x_294_17 (z := 233) (ns := 0) (by decide +kernel) (as := [g_n v1]) (r := []) rfl rfl rfl hO1 rfl rfl ?_
    refine r_callI h fun r22 M19 hx20 hok21 hr23 h => ?_
    replace h := h hx20 hok21 hr23
    replace hO1 := hO1.up hx20
    refine r_invS x_294_20 (z := 237) (ns := 0) (by decide +kernel) (as := [g_n r22]) (r := []) rfl rfl rfl ?_
    refine r_callI h fun r27 M24 hx25 hok26 hr28 h => ?_
    replace h := h hx25 hok26 hr28
    replace hO1 := hO1.up hx25
    refine r_istore x_294_23 (by decide +kernel) rfl (lv1 := [(0, .ref a0), (1, g_n v1), (2, g_n v2), (3, g_n 1), (4, g_n 0), (5, g_n r27)]) rfl ?_
    exact h
theorem s_X12_holdsOne_25 {d : Nat} {M : g_M} {Q : Int → g_M → Prop} {a0 : Nat} {v1 : Int} (hv1 : g_InR v1) {v2 : Int} (hv2 : g_InR v2) {v3 : Int} (hv3 : g_InR v3) {v4 : Int} (hv4 : g_InR v4) {v5 : Int} (hv5 : g_InR v5) (h : g_ok M → g_O M a0 12 ∧ g_Call d 233 [.ref a0, g_n v1] M (g_qI fun r5 M2 => g_ext M M2 → g_ok M2 → g_InR r5 → g_Call d 238 [.ref a0, g_n r5] M2 (g_qI fun r10 M7 => g_ext M2 M7 → g_ok M7 → g_InR r10 → ((v5 < r10 → g_Call d 233 [.ref a0, g_n v5] M7 (g_qI fun r25 M22 => g_ext M7 M22 → g_ok M22 → g_InR r25 → g_Call d 293 [.ref a0, g_n r25, g_n v2] M22 (g_qI fun r30 M27 => g_ext M22 M27 → g_ok M27 → g_InR r30 → g_Call d 235 [.ref a0, g_n v5] M27 (g_qI fun r35 M32 => g_ext M27 M32 → g_ok M32 → g_InR r35 → g_Run d 294 25 [(0, .ref a0), (1, g_n v1), (2, g_n v2), (3, g_n (g_and v3 r30)), (4, g_n (g_or v4 r30)), (5, g_n r35)] [] M32 (g_qI Q))))) ∧ (¬ v5 < r10 → g_Call d 236 [.ref a0, g_n v1, .ref (4 * 94 + 1)] M7 (g_qI fun r15 M12 => g_ext M7 M12 → g_ok M12 → g_InR r15 → ((r15 = 0 → g_Call d 236 [.ref a0, g_n v1, .ref (4 * 95 + 1)] M12 (g_qI fun r20 M17 => g_ext M12 M17 → g_ok M17 → g_InR r20 → ((r20 = v4 → Q 1 M17) ∧ (¬ r20 = v4 → Q 0 M17)))) ∧ (¬ r15 = 0 → (v3 = 0 ∨ v3 = 1) ∧ Q v3 M12)))))))) : g_Run d 294 25 [(0, .ref a0), (1, g_n v1), (2, g_n v2), (3, g_n v3), (4, g_n v4), (5, g_n v5)] [] M (g_qI Q) := by
  refine g_Run.ok fun hok => ?_
  replace h := h hok
  refine r_iload x_294_25 rfl ?_
  refine r_aload_n x_294_27 rfl ?_
  refine r_aload_n x_294_28 rfl ?_
  refine r_iload_n x_294_29 rfl ?_
  obtain ⟨hO1, h⟩ := h
  refine r_invV x_294_30 (z := 233) (ns := 0) (by decide +kernel) (as := [g_n v1]) (r := [.ref a0, g_n v5]) rfl rfl rfl hO1 rfl rfl ?_
  refine r_callI h fun r5 M2 hx3 hok4 hr6 h => ?_
  replace h := h hx3 hok4 hr6
  replace hO1 := hO1.up hx3
  refine r_invV x_294_33 (z := 238) (ns := 0) (by decide +kernel) (as := [g_n r5]) (r := [g_n v5]) rfl rfl rfl hO1 rfl rfl ?_
  refine r_callI h fun r10 M7 hx8 hok9 hr11 h => ?_
  replace h := h hx8 hok9 hr11
  replace hO1 := hO1.up hx8
  refine r_ic_ge x_294_36 (t := 75) (by decide +kernel) hv5 hr11 (fun hc => ?_) (fun hc => ?_)
  · replace h := h.2 hc
    refine r_aload_n x_294_75 rfl ?_
    refine r_iload_n x_294_76 rfl ?_
    refine r_ldcw x_294_77 (v := .ref (4 * 94 + 1)) rfl ?_
    refine r_invV x_294_80 (z := 236) (ns := 0) (by decide +kernel) (as := [g_n v1, .ref (4 * 94 + 1)]) (r := []) rfl rfl rfl hO1 rfl rfl ?_
    refine r_callI h fun r15 M12 hx13 hok14 hr16 h => ?_
    replace h := h hx13 hok14 hr16
    replace hO1 := hO1.up hx13
    refine r_if_eq x_294_83 (t := 90) (by decide +kernel) hr16 (fun hc => ?_) (fun hc => ?_)
    · replace h := h.1 hc
      refine r_aload_n x_294_90 rfl ?_
      refine r_iload_n x_294_91 rfl ?_
      refine r_ldcw x_294_92 (v := .ref (4 * 95 + 1)) rfl ?_
      refine r_invV x_294_95 (z := 236) (ns := 0) (by decide +kernel) (as := [g_n v1, .ref (4 * 95 + 1)]) (r := []) rfl rfl rfl hO1 rfl rfl ?_
      refine r_callI h fun r20 M17 hx18 hok19 hr21 h => ?_
      replace h := h hx18 hok19 hr21
      replace hO1 := hO1.up hx18
      refine r_iload x_294_98 rfl ?_
      refine r_ic_ne x_294_100 (t := 107) (by decide +kernel) hr21 hv4 (fun hc => ?_) (fun hc => ?_)
      · replace h := h.2 hc
        refine r_iconst x_294_107 ?_
        exact r_retZ x_294_108 rfl (Or.inl rfl) h
      · replace h := h.1 hc
        refine r_iconst x_294_103 ?_
        refine r_goto x_294_104 (t := 108) (by decide +kernel) ?_
        exact r_retZ x_294_108 rfl (Or.inr rfl) h
    · replace h := h.2 hc
      refine r_iload_n x_294_86 rfl ?_
      refine r_goto x_294_87 (t := 108) (by decide +kernel) ?_
      obtain ⟨hz, h⟩ := h
      exact r_retZ x_294_108 rfl hz h
  · replace h := h.1 hc
    refine r_aload_n x_294_39 rfl ?_
    refine r_aload_n x_294_40 rfl ?_
    refine r_iload x_294_41 rfl ?_
    refine r_invV x_294_43 (z := 233) (ns := 0) (by decide +kernel) (as := [g_n v5]) (r := [.ref a0]) rfl rfl rfl hO1 rfl rfl ?_
    refine r_callI h fun r25 M22 hx23 hok24 hr26 h => ?_
    replace h := h hx23 hok24 hr26
    replace hO1 := hO1.up hx23
    refine r_iload_n x_294_46 rfl ?_
    refine r_invV x_294_47 (z := 293) (ns := 0) (by decide +kernel) (as := [g_n r25, g_n v2]) (r := []) rfl rfl rfl hO1 rfl rfl ?_
    refine r_callI h fun r30 M27 hx28 hok29 hr31 h => ?_
    replace h := h hx28 hok29 hr31
    replace hO1 := hO1.up hx28
    refine r_istore x_294_50 (by decide +kernel) rfl (lv1 := [(0, .ref a0), (1, g_n v1), (2, g_n v2), (3, g_n v3), (4, g_n v4), (5, g_n v5), (6, g_n r30)]) rfl ?_
    refine r_iload_n x_294_52 rfl ?_
    refine r_iload x_294_53 rfl ?_
    refine r_iand x_294_55 ?_
    refine r_istore_n x_294_56 (by decide +kernel) rfl (lv1 := [(0, .ref a0), (1, g_n v1), (2, g_n v2), (3, g_n (g_and v3 r30)), (4, g_n v4), (5, g_n v5), (6, g_n r30)]) rfl ?_
    refine r_iload x_294_57 rfl ?_
    refine r_iload x_294_59 rfl ?_
    refine r_ior x_294_61 ?_
    refine r_istore x_294_62 (by decide +kernel) rfl (lv1 := [(0, .ref a0), (1, g_n v1), (2, g_n v2), (3, g_n (g_and v3 r30)), (4, g_n (g_or v4 r30)), (5, g_n v5), (6, g_n r30)]) rfl ?_
    refine r_aload_n x_294_64 rfl ?_
    refine r_iload x_294_65 rfl ?_
    refine r_invV x_294_67 (z := 235) (ns := 0) (by decide +kernel) (as := [g_n v5]) (r := []) rfl rfl rfl hO1 rfl rfl ?_
    refine r_callI h fun r35 M32 hx33 hok34 hr36 h => ?_
    replace h := h hx33 hok34 hr36
    replace hO1 := hO1.up hx33
    refine r_istore x_294_70 (by decide +kernel) rfl (lv1 := [(0, .ref a0), (1, g_n v1), (2, g_n v2), (3, g_n (g_and v3 r30)), (4, g_n (g_or v4 r30)), (5, g_n r35), (6, g_n r30)]) rfl ?_
    refine r_goto x_294_72 (t := 25) (by decide +kernel) ?_
    refine g_drop [0, 1, 2, 3, 4, 5] (lv1 := [(0, .ref a0), (1, g_n v1), (2, g_n v2), (3, g_n (g_and v3 r30)), (4, g_n (g_or v4 r30)), (5, g_n r35)]) rfl ?_
    exact h
theorem s_X12_holdsOne_140 {d : Nat} {M : g_M} {Q : Int → g_M → Prop} {a0 : Nat} {v1 : Int} (hv1 : g_InR v1) {v2 : Int} (hv2 : g_InR v2) {v3 : Int} (hv3 : g_InR v3) (h : g_ok M → g_O M a0 12 ∧ g_Call d 284 [.ref a0, g_n v1] M (g_qI fun r5 M2 => g_ext M M2 → g_ok M2 → g_InR r5 → ((r5 = 0 → g_Call d 298 [.ref a0, g_n v1, g_n v3, g_n (g_i M2 a0 10)] M2 (g_qI fun r10 M7 => g_ext M2 M7 → g_ok M7 → g_InR r10 → (∀ M12, M12 = g_wi M7 a0 10 v3 → g_ok M12 → (r10 = 0 ∨ r10 = 1) ∧ Q r10 M12))) ∧ (¬ r5 = 0 → g_Call d 233 [.ref a0, g_n v1] M2 (g_qI fun r19 M16 => g_ext M2 M16 → g_ok M16 → g_InR r19 → g_Call d 295 [.ref a0, g_n r19, g_n v3, g_n (g_i M16 a0 10)] M16 (g_qI fun r24 M21 => g_ext M16 M21 → g_ok M21 → g_InR r24 → (∀ M26, M26 = g_wi M21 a0 10 v3 → g_ok M26 → (r24 = 0 ∨ r24 = 1) ∧ Q r24 M26))))))) : g_Run d 294 140 [(0, .ref a0), (1, g_n v1), (2, g_n v2), (3, g_n v3)] [] M (g_qI Q) := by
  refine g_Run.ok fun hok => ?_
  replace h := h hok
  refine r_aload_n x_294_140 rfl ?_
  refine r_iload_n x_294_141 rfl ?_
  obtain ⟨hO1, h⟩ := h
  refine r_invV x_294_142 (z := 284) (ns := 0) (by decide +kernel) (as := [g_n v1]) (r := []) rfl rfl rfl hO1 rfl rfl ?_
  refine r_callI h fun r5 M2 hx3 hok4 hr6 h => ?_
  replace h := h hx3 hok4 hr6
  replace hO1 := hO1.up hx3
  refine r_if_eq x_294_145 (t := 165) (by decide +kernel) hr6 (fun hc => ?_) (fun hc => ?_)
  · replace h := h.1 hc
    refine r_aload_n x_294_165 rfl ?_
    refine r_iload_n x_294_166 rfl ?_
    refine r_iload_n x_294_167 rfl ?_
    refine r_aload_n x_294_168 rfl ?_
    refine r_getI x_294_169 rfl (ci := 12) (k := 10) (ns := 0) (by decide +kernel) (by decide) rfl (kz := 10) rfl hO1 ?_
    refine r_invV x_294_172 (z := 298) (ns := 0) (by decide +kernel) (as := [g_n v1, g_n v3, g_n (g_i M2 a0 10)]) (r := []) rfl rfl rfl hO1 rfl rfl ?_
    refine r_callI h fun r10 M7 hx8 hok9 hr11 h => ?_
    replace h := h hx8 hok9 hr11
    replace hO1 := hO1.up hx8
    refine r_istore x_294_175 (by decide +kernel) rfl (lv1 := [(0, .ref a0), (1, g_n v1), (2, g_n v2), (3, g_n v3), (4, g_n r10)]) rfl ?_
    refine r_aload_n x_294_177 rfl ?_
    refine r_iload_n x_294_178 rfl ?_
    refine r_putI x_294_179 (ci := 12) (k := 10) (ns := 0) (by decide +kernel) (by decide) (g_f0 (by decide +kernel)) rfl hv3 trivial (kz := 10) rfl hO1 ?_
    obtain ⟨M12, hM13⟩ : ∃ Mz, Mz = g_wi M7 a0 10 v3 := ⟨_, rfl⟩
    rw [← hM13]
    refine g_Run.ok fun hok14 => ?_
    replace h := h M12 hM13 hok14
    have hx15 := g_extW hM13
    replace hO1 := hO1.up hx15
    refine r_iload x_294_182 rfl ?_
    obtain ⟨hz, h⟩ := h
    exact r_retZ x_294_184 rfl hz h
  · replace h := h.2 hc
    refine r_aload_n x_294_148 rfl ?_
    refine r_aload_n x_294_149 rfl ?_
    refine r_iload_n x_294_150 rfl ?_
    refine r_invV x_294_151 (z := 233) (ns := 0) (by decide +kernel) (as := [g_n v1]) (r := [.ref a0]) rfl rfl rfl hO1 rfl rfl ?_
    refine r_callI h fun r19 M16 hx17 hok18 hr20 h => ?_
    replace h := h hx17 hok18 hr20
    replace hO1 := hO1.up hx17
    refine r_iload_n x_294_154 rfl ?_
    refine r_aload_n x_294_155 rfl ?_
    refine r_getI x_294_156 rfl (ci := 12) (k := 10) (ns := 0) (by decide +kernel) (by decide) rfl (kz := 10) rfl hO1 ?_
    refine r_invV x_294_159 (z := 295) (ns := 0) (by decide +kernel) (as := [g_n r19, g_n v3, g_n (g_i M16 a0 10)]) (r := []) rfl rfl rfl hO1 rfl rfl ?_
    refine r_callI h fun r24 M21 hx22 hok23 hr25 h => ?_
    replace h := h hx22 hok23 hr25
    replace hO1 := hO1.up hx22
    refine r_goto x_294_162 (t := 175) (by decide +kernel) ?_
    refine r_istore x_294_175 (by decide +kernel) rfl (lv1 := [(0, .ref a0), (1, g_n v1), (2, g_n v2), (3, g_n v3), (4, g_n r24)]) rfl ?_
    refine r_aload_n x_294_177 rfl ?_
    refine r_iload_n x_294_178 rfl ?_
    refine r_putI x_294_179 (ci := 12) (k := 10) (ns := 0) (by decide +kernel) (by decide) (g_f0 (by decide +kernel)) rfl hv3 trivial (kz := 10) rfl hO1 ?_
    obtain ⟨M26, hM27⟩ : ∃ Mz, Mz = g_wi M21 a0 10 v3 := ⟨_, rfl⟩
    rw [← hM27]
    refine g_Run.ok fun hok28 => ?_
    replace h := h M26 hM27 hok28
    have hx29 := g_extW hM27
    replace hO1 := hO1.up hx29
    refine r_iload x_294_182 rfl ?_
    obtain ⟨hz, h⟩ := h
    exact r_retZ x_294_184 rfl hz h
theorem m_X12_hold {d : Nat} {M : g_M} {Q : Int → g_M → Prop} {a0 : Nat} {v1 : Int} (hv1 : g_InR v1) {v2 : Int} (hv2 : g_InR v2) {v3 : Int} (hv3 : g_InR v3) (h : g_ok M → g_Call d 237 [g_n v1] M (g_qI fun r4 M1 => g_ext M M1 → g_ok M1 → g_InR r4 → g_Run d 295 6 [(0, .ref a0), (1, g_n v1), (2, g_n v2), (3, g_n v3), (4, g_n r4)] [] M1 (g_qI Q))) : g_Call (d + 1) 295 [.ref a0, g_n v1, g_n v2, g_n v3] M (g_qI Q) := by
  refine g_Call.ok fun hok0 => ?_
  replace h := h hok0
  refine r_body rfl (lv := [(0, .ref a0), (1, g_n v1), (2, g_n v2), (3, g_n v3)]) rfl ?_
  refine g_Run.ok fun hok => ?_
  refine r_iload_n x_295_0 rfl ?_
  refine r_invS x_295_1 (z := 237) (ns := 0) (by decide +kernel) (as := [g_n v1]) (r := []) rfl rfl rfl ?_
  refine r_callI h fun r4 M1 hx2 hok3 hr5 h => ?_
  replace h := h hx2 hok3 hr5
  refine r_istore x_295_4 (by decide +kernel) rfl (lv1 := [(0, .ref a0), (1, g_n v1), (2, g_n v2), (3, g_n v3), (4, g_n r4)]) rfl ?_
  exact h
theorem s_X12_hold_6 {d : Nat} {M : g_M} {Q : Int → g_M → Prop} {a0 : Nat} {v1 : Int} (hv1 : g_InR v1) {v2 : Int} (hv2 : g_InR v2) {v3 : Int} (hv3 : g_InR v3) {v4 : Int} (hv4 : g_InR v4) (h : g_ok M → g_O M a0 12 ∧ g_Call d 238 [.ref a0, g_n v1] M (g_qI fun r5 M2 => g_ext M M2 → g_ok M2 → g_InR r5 → ((v4 < r5 → g_Call d 296 [.ref a0, g_n v4, g_n v2, g_n v3] M2 (g_qI fun r10 M7 => g_ext M2 M7 → g_ok M7 → g_InR r10 → ((r10 = 0 → Q 0 M7) ∧ (¬ r10 = 0 → g_Call d 235 [.ref a0, g_n v4] M7 (g_qI fun r15 M12 => g_ext M7 M12 → g_ok M12 → g_InR r15 → g_Run d 295 6 [(0, .ref a0), (1, g_n v1), (2, g_n v2), (3, g_n v3), (4, g_n r15)] [] M12 (g_qI Q)))))) ∧ (¬ v4 < r5 → Q 1 M2)))) : g_Run d 295 6 [(0, .ref a0), (1, g_n v1), (2, g_n v2), (3, g_n v3), (4, g_n v4)] [] M (g_qI Q) := by
  refine g_Run.ok fun hok => ?_
  replace h := h hok
  refine r_iload x_295_6 rfl ?_
  refine r_aload_n x_295_8 rfl ?_
  refine r_iload_n x_295_9 rfl ?_
  obtain ⟨hO1, h⟩ := h
  refine r_invV x_295_10 (z := 238) (ns := 0) (by decide +kernel) (as := [g_n v1]) (r := [g_n v4]) rfl rfl rfl hO1 rfl rfl ?_
  refine r_callI h fun r5 M2 hx3 hok4 hr6 h => ?_
  replace h := h hx3 hok4 hr6
  replace hO1 := hO1.up hx3
  refine r_ic_ge x_295_13 (t := 40) (by decide +kernel) hv4 hr6 (fun hc => ?_) (fun hc => ?_)
  · replace h := h.2 hc
    refine r_iconst x_295_40 ?_
    exact r_retZ x_295_41 rfl (Or.inr rfl) h
  · replace h := h.1 hc
    refine r_aload_n x_295_16 rfl ?_
    refine r_iload x_295_17 rfl ?_
    refine r_iload_n x_295_19 rfl ?_
    refine r_iload_n x_295_20 rfl ?_
    refine r_invV x_295_21 (z := 296) (ns := 0) (by decide +kernel) (as := [g_n v4, g_n v2, g_n v3]) (r := []) rfl rfl rfl hO1 rfl rfl ?_
    refine r_callI h fun r10 M7 hx8 hok9 hr11 h => ?_
    replace h := h hx8 hok9 hr11
    replace hO1 := hO1.up hx8
    refine r_if_ne x_295_24 (t := 29) (by decide +kernel) hr11 (fun hc => ?_) (fun hc => ?_)
    · replace h := h.2 hc
      refine r_aload_n x_295_29 rfl ?_
      refine r_iload x_295_30 rfl ?_
      refine r_invV x_295_32 (z := 235) (ns := 0) (by decide +kernel) (as := [g_n v4]) (r := []) rfl rfl rfl hO1 rfl rfl ?_
      refine r_callI h fun r15 M12 hx13 hok14 hr16 h => ?_
      replace h := h hx13 hok14 hr16
      replace hO1 := hO1.up hx13
      refine r_istore x_295_35 (by decide +kernel) rfl (lv1 := [(0, .ref a0), (1, g_n v1), (2, g_n v2), (3, g_n v3), (4, g_n r15)]) rfl ?_
      refine r_goto x_295_37 (t := 6) (by decide +kernel) ?_
      exact h
    · replace h := h.1 hc
      refine r_iconst x_295_27 ?_
      exact r_retZ x_295_28 rfl (Or.inl rfl) h
theorem m_X12_holdsCondition {d : Nat} {M : g_M} {Q : Int → g_M → Prop} {a0 : Nat} {v1 : Int} (hv1 : g_InR v1) {v2 : Int} (hv2 : g_InR v2) {v3 : Int} (hv3 : g_InR v3) (h : g_ok M → g_O M a0 12 ∧ g_Call d 236 [.ref a0, g_n v1, .ref (4 * 97 + 1)] M (g_qI fun r5 M2 => g_ext M M2 → g_ok M2 → g_InR r5 → ((r5 = 0 → g_Call d 236 [.ref a0, g_n v1, .ref (4 * 98 + 1)] M2 (g_qI fun r10 M7 => g_ext M2 M7 → g_ok M7 → g_InR r10 → ((r10 = 0 → g_Call d 236 [.ref a0, g_n v1, .ref (4 * 99 + 1)] M7 (g_qI fun r15 M12 => g_ext M7 M12 → g_ok M12 → g_InR r15 → ((r15 = 0 → g_Call d 236 [.ref a0, g_n v1, .ref (4 * 100 + 1)] M12 (g_qI fun r20 M17 => g_ext M12 M17 → g_ok M17 → g_InR r20 → ((r20 = 0 → g_Call d 236 [.ref a0, g_n v1, .ref (4 * 108 + 1)] M17 (g_qI fun r25 M22 => g_ext M17 M22 → g_ok M22 → g_InR r25 → ((r25 = 0 → g_Call d 236 [.ref a0, g_n v1, .ref (4 * 105 + 1)] M22 (g_qI fun r30 M27 => g_ext M22 M27 → g_ok M27 → g_InR r30 → ((r30 = 0 → g_Call d 236 [.ref a0, g_n v1, .ref (4 * 106 + 1)] M27 (g_qI fun r35 M32 => g_ext M27 M32 → g_ok M32 → g_InR r35 → ((r35 = 0 → g_Call d 236 [.ref a0, g_n v1, .ref (4 * 107 + 1)] M32 (g_qI fun r40 M37 => g_ext M32 M37 → g_ok M37 → g_InR r40 → ((r40 = 0 → g_Call d 300 [.ref a0, g_n v1, g_n v2, g_n v3] M37 (g_qI fun r45 M42 => g_ext M37 M42 → g_ok M42 → g_InR r45 → (r45 = 0 ∨ r45 = 1) ∧ Q r45 M42)) ∧ (¬ r40 = 0 → g_Run d 296 230 [(0, .ref a0), (1, g_n v1), (2, g_n v2), (3, g_n v3), (4, g_n 0), (5, g_n v2)] [] M37 (g_qI Q))))) ∧ (¬ r35 = 0 → g_Run d 296 230 [(0, .ref a0), (1, g_n v1), (2, g_n v2), (3, g_n v3), (4, g_n 0), (5, g_n v2)] [] M32 (g_qI Q))))) ∧ (¬ r30 = 0 → g_Run d 296 140 [(0, .ref a0), (1, g_n v1), (2, g_n v2), (3, g_n v3), (4, g_n 0), (5, g_n v2)] [] M27 (g_qI Q))))) ∧ (¬ r25 = 0 → g_Call d 233 [.ref a0, g_n v1] M22 (g_qI fun r50 M47 => g_ext M22 M47 → g_ok M47 → g_InR r50 → g_Call d 295 [.ref a0, g_n r50, g_n v2, g_n v3] M47 (g_qI fun r55 M52 => g_ext M47 M52 → g_ok M52 → g_InR r55 → ((r55 = 0 → Q 1 M52) ∧ (¬ r55 = 0 → Q 0 M52)))))))) ∧ (¬ r20 = 0 → g_Call d 299 [.ref a0, g_n v1, g_n v2, g_n v3] M17 (g_qI fun r60 M57 => g_ext M17 M57 → g_ok M57 → g_InR r60 → ((r60 = 0 → Q 1 M57) ∧ (¬ r60 = 0 → Q 0 M57))))))) ∧ (¬ r15 = 0 → g_Call d 299 [.ref a0, g_n v1, g_n v2, g_n v3] M12 (g_qI fun r65 M62 => g_ext M12 M62 → g_ok M62 → g_InR r65 → (r65 = 0 ∨ r65 = 1) ∧ Q r65 M62))))) ∧ (¬ r10 = 0 → g_Call d 298 [.ref a0, g_n v1, g_n v2, g_n v3] M7 (g_qI fun r70 M67 => g_ext M7 M67 → g_ok M67 → g_InR r70 → ((r70 = 0 → Q 1 M67) ∧ (¬ r70 = 0 → Q 0 M67))))))) ∧ (¬ r5 = 0 → g_Call d 298 [.ref a0, g_n v1, g_n v2, g_n v3] M2 (g_qI fun r75 M72 => g_ext M2 M72 → g_ok M72 → g_InR r75 → (r75 = 0 ∨ r75 = 1) ∧ Q r75 M72))))) : g_Call (d + 1) 296 [.ref a0, g_n v1, g_n v2, g_n v3] M (g_qI Q) := by
  refine g_Call.ok fun hok0 => ?_
  replace h := h hok0
  refine r_body rfl (lv := [(0, .ref a0), (1, g_n v1), (2, g_n v2), (3, g_n v3)]) rfl ?_
  refine g_Run.ok fun hok => ?_
  refine r_aload_n x_296_0 rfl ?_
  refine r_iload_n x_296_1 rfl ?_
  refine r_ldcw x_296_2 (v := .ref (4 * 97 + 1)) rfl ?_
  obtain ⟨hO1, h⟩ := h
  refine r_invV x_296_5 (z := 236) (ns := 0) (by decide +kernel) (as := [g_n v1, .ref (4 * 97 + 1)]) (r := []) rfl rfl rfl hO1 rfl rfl ?_
  refine r_callI h fun r5 M2 hx3 hok4 hr6 h => ?_
  replace h := h hx3 hok4 hr6
  replace hO1 := hO1.up hx3
  refine r_if_eq x_296_8 (t := 19) (by decide +kernel) hr6 (fun hc => ?_) (fun hc => ?_)
  · replace h := h.1 hc
    refine r_aload_n x_296_19 rfl ?_
    refine r_iload_n x_296_20 rfl ?_
    refine r_ldcw x_296_21 (v := .ref (4 * 98 + 1)) rfl ?_
    refine r_invV x_296_24 (z := 236) (ns := 0) (by decide +kernel) (as := [g_n v1, .ref (4 * 98 + 1)]) (r := []) rfl rfl rfl hO1 rfl rfl ?_
    refine r_callI h fun r10 M7 hx8 hok9 hr11 h => ?_
    replace h := h hx8 hok9 hr11
    replace hO1 := hO1.up hx8
    refine r_if_eq x_296_27 (t := 46) (by decide +kernel) hr11 (fun hc => ?_) (fun hc => ?_)
    · replace h := h.1 hc
      refine r_aload_n x_296_46 rfl ?_
      refine r_iload_n x_296_47 rfl ?_
      refine r_ldcw x_296_48 (v := .ref (4 * 99 + 1)) rfl ?_
      refine r_invV x_296_51 (z := 236) (ns := 0) (by decide +kernel) (as := [g_n v1, .ref (4 * 99 + 1)]) (r := []) rfl rfl rfl hO1 rfl rfl ?_
      refine r_callI h fun r15 M12 hx13 hok14 hr16 h => ?_
      replace h := h hx13 hok14 hr16
      replace hO1 := hO1.up hx13
      refine r_if_eq x_296_54 (t := 65) (by decide +kernel) hr16 (fun hc => ?_) (fun hc => ?_)
      · replace h := h.1 hc
        refine r_aload_n x_296_65 rfl ?_
        refine r_iload_n x_296_66 rfl ?_
        refine r_ldcw x_296_67 (v := .ref (4 * 100 + 1)) rfl ?_
        refine r_invV x_296_70 (z := 236) (ns := 0) (by decide +kernel) (as := [g_n v1, .ref (4 * 100 + 1)]) (r := []) rfl rfl rfl hO1 rfl rfl ?_
        refine r_callI h fun r20 M17 hx18 hok19 hr21 h => ?_
        replace h := h hx18 hok19 hr21
        replace hO1 := hO1.up hx18
        refine r_if_eq x_296_73 (t := 92) (by decide +kernel) hr21 (fun hc => ?_) (fun hc => ?_)
        · replace h := h.1 hc
          refine r_aload_n x_296_92 rfl ?_
          refine r_iload_n x_296_93 rfl ?_
          refine r_ldcw x_296_94 (v := .ref (4 * 108 + 1)) rfl ?_
          refine r_invV x_296_97 (z := 236) (ns := 0) (by decide +kernel) (as := [g_n v1, .ref (4 * 108 + 1)]) (r := []) rfl rfl rfl hO1 rfl rfl ?_
          refine r_callI h fun r25 M22 hx23 hok24 hr26 h => ?_
          replace h := h hx23 hok24 hr26
          replace hO1 := hO1.up hx23
          refine r_if_eq x_296_100 (t := 123) (by decide +kernel) hr26 (fun hc => ?_) (fun hc => ?_)
          · replace h := h.1 hc
            refine r_aload_n x_296_123 rfl ?_
            refine r_iload_n x_296_124 rfl ?_
            refine r_ldcw x_296_125 (v := .ref (4 * 105 + 1)) rfl ?_
            refine r_invV x_296_128 (z := 236) (ns := 0) (by decide +kernel) (as := [g_n v1, .ref (4 * 105 + 1)]) (r := []) rfl rfl rfl hO1 rfl rfl ?_
            refine r_callI h fun r30 M27 hx28 hok29 hr31 h => ?_
            replace h := h hx28 hok29 hr31
            replace hO1 := hO1.up hx28
            refine r_if_eq x_296_131 (t := 202) (by decide +kernel) hr31 (fun hc => ?_) (fun hc => ?_)
            · replace h := h.1 hc
              refine r_aload_n x_296_202 rfl ?_
              refine r_iload_n x_296_203 rfl ?_
              refine r_ldcw x_296_204 (v := .ref (4 * 106 + 1)) rfl ?_
              refine r_invV x_296_207 (z := 236) (ns := 0) (by decide +kernel) (as := [g_n v1, .ref (4 * 106 + 1)]) (r := []) rfl rfl rfl hO1 rfl rfl ?_
              refine r_callI h fun r35 M32 hx33 hok34 hr36 h => ?_
              replace h := h hx33 hok34 hr36
              replace hO1 := hO1.up hx33
              refine r_if_ne x_296_210 (t := 224) (by decide +kernel) hr36 (fun hc => ?_) (fun hc => ?_)
              · replace h := h.2 hc
                refine r_iconst x_296_224 ?_
                refine r_istore x_296_225 (by decide +kernel) rfl (lv1 := [(0, .ref a0), (1, g_n v1), (2, g_n v2), (3, g_n v3), (4, g_n 0)]) rfl ?_
                refine r_iload_n x_296_227 rfl ?_
                refine r_istore x_296_228 (by decide +kernel) rfl (lv1 := [(0, .ref a0), (1, g_n v1), (2, g_n v2), (3, g_n v3), (4, g_n 0), (5, g_n v2)]) rfl ?_
                exact h
              · replace h := h.1 hc
                refine r_aload_n x_296_213 rfl ?_
                refine r_iload_n x_296_214 rfl ?_
                refine r_ldcw x_296_215 (v := .ref (4 * 107 + 1)) rfl ?_
                refine r_invV x_296_218 (z := 236) (ns := 0) (by decide +kernel) (as := [g_n v1, .ref (4 * 107 + 1)]) (r := []) rfl rfl rfl hO1 rfl rfl ?_
                refine r_callI h fun r40 M37 hx38 hok39 hr41 h => ?_
                replace h := h hx38 hok39 hr41
                replace hO1 := hO1.up hx38
                refine r_if_eq x_296_221 (t := 340) (by decide +kernel) hr41 (fun hc => ?_) (fun hc => ?_)
                · replace h := h.1 hc
                  refine r_aload_n x_296_340 rfl ?_
                  refine r_iload_n x_296_341 rfl ?_
                  refine r_iload_n x_296_342 rfl ?_
                  refine r_iload_n x_296_343 rfl ?_
                  refine r_invV x_296_344 (z := 300) (ns := 0) (by decide +kernel) (as := [g_n v1, g_n v2, g_n v3]) (r := []) rfl rfl rfl hO1 rfl rfl ?_
                  refine r_callI h fun r45 M42 hx43 hok44 hr46 h => ?_
                  replace h := h hx43 hok44 hr46
                  replace hO1 := hO1.up hx43
                  obtain ⟨hz, h⟩ := h
                  exact r_retZ x_296_347 rfl hz h
                · replace h := h.2 hc
                  refine r_iconst x_296_224 ?_
                  refine r_istore x_296_225 (by decide +kernel) rfl (lv1 := [(0, .ref a0), (1, g_n v1), (2, g_n v2), (3, g_n v3), (4, g_n 0)]) rfl ?_
                  refine r_iload_n x_296_227 rfl ?_
                  refine r_istore x_296_228 (by decide +kernel) rfl (lv1 := [(0, .ref a0), (1, g_n v1), (2, g_n v2), (3, g_n v3), (4, g_n 0), (5, g_n v2)]) rfl ?_
                  exact h
            · replace h := h.2 hc
              refine r_iconst x_296_134 ?_
              refine r_istore x_296_135 (by decide +kernel) rfl (lv1 := [(0, .ref a0), (1, g_n v1), (2, g_n v2), (3, g_n v3), (4, g_n 0)]) rfl ?_
              refine r_iload_n x_296_137 rfl ?_
              refine r_istore x_296_138 (by decide +kernel) rfl (lv1 := [(0, .ref a0), (1, g_n v1), (2, g_n v2), (3, g_n v3), (4, g_n 0), (5, g_n v2)]) rfl ?_
              exact h
          · replace h := h.2 hc
            refine r_aload_n x_296_103 rfl ?_
            refine r_aload_n x_296_104 rfl ?_
            refine r_iload_n x_296_105 rfl ?_
            refine r_invV x_296_106 (z := 233) (ns := 0) (by decide +kernel) (as := [g_n v1]) (r := [.ref a0]) rfl rfl rfl hO1 rfl rfl ?_
            refine r_callI h fun r50 M47 hx48 hok49 hr51 h => ?_
            replace h := h hx48 hok49 hr51
            replace hO1 := hO1.up hx48
            refine r_iload_n x_296_109 rfl ?_
            refine r_iload_n x_296_110 rfl ?_
            refine r_invV x_296_111 (z := 295) (ns := 0) (by decide +kernel) (as := [g_n r50, g_n v2, g_n v3]) (r := []) rfl rfl rfl hO1 rfl rfl ?_
            refine r_callI h fun r55 M52 hx53 hok54 hr56 h => ?_
            replace h := h hx53 hok54 hr56
            replace hO1 := hO1.up hx53
            refine r_if_ne x_296_114 (t := 121) (by decide +kernel) hr56 (fun hc => ?_) (fun hc => ?_)
            · replace h := h.2 hc
              refine r_iconst x_296_121 ?_
              exact r_retZ x_296_122 rfl (Or.inl rfl) h
            · replace h := h.1 hc
              refine r_iconst x_296_117 ?_
              refine r_goto x_296_118 (t := 122) (by decide +kernel) ?_
              exact r_retZ x_296_122 rfl (Or.inr rfl) h
        · replace h := h.2 hc
          refine r_aload_n x_296_76 rfl ?_
          refine r_iload_n x_296_77 rfl ?_
          refine r_iload_n x_296_78 rfl ?_
          refine r_iload_n x_296_79 rfl ?_
          refine r_invV x_296_80 (z := 299) (ns := 0) (by decide +kernel) (as := [g_n v1, g_n v2, g_n v3]) (r := []) rfl rfl rfl hO1 rfl rfl ?_
          refine r_callI h fun r60 M57 hx58 hok59 hr61 h => ?_
          replace h := h hx58 hok59 hr61
          replace hO1 := hO1.up hx58
          refine r_if_ne x_296_83 (t := 90) (by decide +kernel) hr61 (fun hc => ?_) (fun hc => ?_)
          · replace h := h.2 hc
            refine r_iconst x_296_90 ?_
            exact r_retZ x_296_91 rfl (Or.inl rfl) h
          · replace h := h.1 hc
            refine r_iconst x_296_86 ?_
            refine r_goto x_296_87 (t := 91) (by decide +kernel) ?_
            exact r_retZ x_296_91 rfl (Or.inr rfl) h
      · replace h := h.2 hc
        refine r_aload_n x_296_57 rfl ?_
        refine r_iload_n x_296_58 rfl ?_
        refine r_iload_n x_296_59 rfl ?_
        refine r_iload_n x_296_60 rfl ?_
        refine r_invV x_296_61 (z := 299) (ns := 0) (by decide +kernel) (as := [g_n v1, g_n v2, g_n v3]) (r := []) rfl rfl rfl hO1 rfl rfl ?_
        refine r_callI h fun r65 M62 hx63 hok64 hr66 h => ?_
        replace h := h hx63 hok64 hr66
        replace hO1 := hO1.up hx63
        obtain ⟨hz, h⟩ := h
        exact r_retZ x_296_64 rfl hz h
    · replace h := h.2 hc
      refine r_aload_n x_296_30 rfl ?_
      refine r_iload_n x_296_31 rfl ?_
      refine r_iload_n x_296_32 rfl ?_
      refine r_iload_n x_296_33 rfl ?_
      refine r_invV x_296_34 (z := 298) (ns := 0) (by decide +kernel) (as := [g_n v1, g_n v2, g_n v3]) (r := []) rfl rfl rfl hO1 rfl rfl ?_
      refine r_callI h fun r70 M67 hx68 hok69 hr71 h => ?_
      replace h := h hx68 hok69 hr71
      replace hO1 := hO1.up hx68
      refine r_if_ne x_296_37 (t := 44) (by decide +kernel) hr71 (fun hc => ?_) (fun hc => ?_)
      · replace h := h.2 hc
        refine r_iconst x_296_44 ?_
        exact r_retZ x_296_45 rfl (Or.inl rfl) h
      · replace h := h.1 hc
        refine r_iconst x_296_40 ?_
        refine r_goto x_296_41 (t := 45) (by decide +kernel) ?_
        exact r_retZ x_296_45 rfl (Or.inr rfl) h
  · replace h := h.2 hc
    refine r_aload_n x_296_11 rfl ?_
    refine r_iload_n x_296_12 rfl ?_
    refine r_iload_n x_296_13 rfl ?_
    refine r_iload_n x_296_14 rfl ?_
    refine r_invV x_296_15 (z := 298) (ns := 0) (by decide +kernel) (as := [g_n v1, g_n v2, g_n v3]) (r := []) rfl rfl rfl hO1 rfl rfl ?_
    refine r_callI h fun r75 M72 hx73 hok74 hr76 h => ?_
    replace h := h hx73 hok74 hr76
    replace hO1 := hO1.up hx73
    obtain ⟨hz, h⟩ := h
    exact r_retZ x_296_18 rfl hz h
theorem s_X12_holdsCondition_140 {d : Nat} {M : g_M} {Q : Int → g_M → Prop} {a0 : Nat} {v1 : Int} (hv1 : g_InR v1) {v2 : Int} (hv2 : g_InR v2) {v3 : Int} (hv3 : g_InR v3) {v4 : Int} (hv4 : g_InR v4) {v5 : Int} (hv5 : g_InR v5) (h : g_ok M → ((v5 < v3 → g_O M a0 12 ∧ ∃ b13, g_r M a0 9 = some b13 ∧ ∃ n15, g_A M b13 1 n15 ∧ ((0 : Int) ≤ v5 ∧ (v5 : Int) < n15) ∧ ((g_i M b13 v5 = (-1) → g_InR (v5 + 1) ∧ g_Run d 296 140 [(0, .ref a0), (1, g_n v1), (2, g_n v2), (3, g_n v3), (4, g_n (g_or v4 0)), (5, g_n (v5 + 1))] [] M (g_qI Q)) ∧ (¬ g_i M b13 v5 = (-1) → g_InR (v5 + 1) ∧ g_Run d 296 140 [(0, .ref a0), (1, g_n v1), (2, g_n v2), (3, g_n v3), (4, g_n (g_or v4 1)), (5, g_n (v5 + 1))] [] M (g_qI Q)))) ∧ (¬ v5 < v3 → g_O M a0 12 ∧ g_Call d 233 [.ref a0, g_n v1] M (g_qI fun r5 M2 => g_ext M M2 → g_ok M2 → g_InR r5 → g_Call d 226 [.ref a0, g_n r5] M2 (g_qI fun r10 M7 => g_ext M2 M7 → g_ok M7 → g_InR r10 → ((r10 = 1 → ((v4 = 1 → Q 1 M7) ∧ (¬ v4 = 1 → Q 0 M7))) ∧ (¬ r10 = 1 → ((v4 = 0 → Q 1 M7) ∧ (¬ v4 = 0 → Q 0 M7))))))))) : g_Run d 296 140 [(0, .ref a0), (1, g_n v1), (2, g_n v2), (3, g_n v3), (4, g_n v4), (5, g_n v5)] [] M (g_qI Q) := by
  refine g_Run.ok fun hok => ?_
  replace h := h hok
  refine r_iload x_296_140 rfl ?_
  refine r_iload_n x_296_142 rfl ?_
  refine r_ic_ge x_296_143 (t := 173) (by decide +kernel) hv5 hv3 (fun hc => ?_) (fun hc => ?_)
  · replace h := h.2 hc
    refine r_iload x_296_173 rfl ?_
    refine r_aload_n x_296_175 rfl ?_
    refine r_aload_n x_296_176 rfl ?_
    refine r_iload_n x_296_177 rfl ?_
    obtain ⟨hO1, h⟩ := h
    refine r_invV x_296_178 (z := 233) (ns := 0) (by decide +kernel) (as := [g_n v1]) (r := [.ref a0, g_n v4]) rfl rfl rfl hO1 rfl rfl ?_
    refine r_callI h fun r5 M2 hx3 hok4 hr6 h => ?_
    replace h := h hx3 hok4 hr6
    replace hO1 := hO1.up hx3
    refine r_invV x_296_181 (z := 226) (ns := 0) (by decide +kernel) (as := [g_n r5]) (r := [g_n v4]) rfl rfl rfl hO1 rfl rfl ?_
    refine r_callI h fun r10 M7 hx8 hok9 hr11 h => ?_
    replace h := h hx8 hok9 hr11
    replace hO1 := hO1.up hx8
    refine r_iconst x_296_184 ?_
    refine r_ic_ne x_296_185 (t := 192) (by decide +kernel) hr11 (g_Rk rfl) (fun hc => ?_) (fun hc => ?_)
    · replace h := h.2 hc
      refine r_iconst x_296_192 ?_
      refine r_ic_ne x_296_193 (t := 200) (by decide +kernel) hv4 (g_Rk rfl) (fun hc => ?_) (fun hc => ?_)
      · replace h := h.2 hc
        refine r_iconst x_296_200 ?_
        exact r_retZ x_296_201 rfl (Or.inl rfl) h
      · replace h := h.1 hc
        refine r_iconst x_296_196 ?_
        refine r_goto x_296_197 (t := 201) (by decide +kernel) ?_
        exact r_retZ x_296_201 rfl (Or.inr rfl) h
    · replace h := h.1 hc
      refine r_iconst x_296_188 ?_
      refine r_goto x_296_189 (t := 193) (by decide +kernel) ?_
      refine r_ic_ne x_296_193 (t := 200) (by decide +kernel) hv4 (g_Rk rfl) (fun hc => ?_) (fun hc => ?_)
      · replace h := h.2 hc
        refine r_iconst x_296_200 ?_
        exact r_retZ x_296_201 rfl (Or.inl rfl) h
      · replace h := h.1 hc
        refine r_iconst x_296_196 ?_
        refine r_goto x_296_197 (t := 201) (by decide +kernel) ?_
        exact r_retZ x_296_201 rfl (Or.inr rfl) h
  · replace h := h.1 hc
    refine r_iload x_296_146 rfl ?_
    refine r_aload_n x_296_148 rfl ?_
    obtain ⟨hO12, h⟩ := h
    obtain ⟨b13, hb14, h⟩ := h
    refine r_getR x_296_149 rfl (ci := 12) (k := 9) (ns := 0) (by decide +kernel) (by decide) rfl (kz := 9) rfl hO12 hb14 ?_
    refine r_iload x_296_152 rfl ?_
    obtain ⟨n15, hA16, h⟩ := h
    obtain ⟨h17, h⟩ := h
    refine r_iald x_296_154 hA16 hv5 h17.1 h17.2 ?_
    refine r_iconst x_296_155 ?_
    refine r_ic_eq x_296_156 (t := 163) (by decide +kernel) (hok.1 _ _) (g_Rk rfl) (fun hc => ?_) (fun hc => ?_)
    · replace h := h.1 hc
      refine r_iconst x_296_163 ?_
      refine r_ior x_296_164 ?_
      refine r_istore x_296_165 (by decide +kernel) rfl (lv1 := [(0, .ref a0), (1, g_n v1), (2, g_n v2), (3, g_n v3), (4, g_n (g_or v4 0)), (5, g_n v5)]) rfl ?_
      obtain ⟨h18, h⟩ := h
      refine r_iinc x_296_167 (by decide +kernel) rfl rfl (lv1 := [(0, .ref a0), (1, g_n v1), (2, g_n v2), (3, g_n v3), (4, g_n (g_or v4 0)), (5, g_n (v5 + 1))]) rfl ?_
      refine r_goto x_296_170 (t := 140) (by decide +kernel) ?_
      exact h
    · replace h := h.2 hc
      refine r_iconst x_296_159 ?_
      refine r_goto x_296_160 (t := 164) (by decide +kernel) ?_
      refine r_ior x_296_164 ?_
      refine r_istore x_296_165 (by decide +kernel) rfl (lv1 := [(0, .ref a0), (1, g_n v1), (2, g_n v2), (3, g_n v3), (4, g_n (g_or v4 1)), (5, g_n v5)]) rfl ?_
      obtain ⟨h19, h⟩ := h
      refine r_iinc x_296_167 (by decide +kernel) rfl rfl (lv1 := [(0, .ref a0), (1, g_n v1), (2, g_n v2), (3, g_n v3), (4, g_n (g_or v4 1)), (5, g_n (v5 + 1))]) rfl ?_
      refine r_goto x_296_170 (t := 140) (by decide +kernel) ?_
      exact h
theorem s_X12_holdsCondition_230 {d : Nat} {M : g_M} {Q : Int → g_M → Prop} {a0 : Nat} {v1 : Int} (hv1 : g_InR v1) {v2 : Int} (hv2 : g_InR v2) {v3 : Int} (hv3 : g_InR v3) {v4 : Int} (hv4 : g_InR v4) {v5 : Int} (hv5 : g_InR v5) (h : g_ok M → ((v5 < v3 → g_O M a0 12 ∧ ∃ b2, g_r M a0 9 = some b2 ∧ ∃ n4, g_A M b2 1 n4 ∧ ((0 : Int) ≤ v5 ∧ (v5 : Int) < n4) ∧ ((g_i M b2 v5 = (-1) → g_InR (v5 + 1) ∧ g_Run d 296 230 [(0, .ref a0), (1, g_n v1), (2, g_n v2), (3, g_n v3), (4, g_n (g_or v4 0)), (5, g_n (v5 + 1))] [] M (g_qI Q)) ∧ (¬ g_i M b2 v5 = (-1) → ∃ b8, g_r M a0 0 = some b8 ∧ ∃ b10, g_r M a0 9 = some b10 ∧ ∃ n12, g_A M b10 1 n12 ∧ ((0 : Int) ≤ v5 ∧ (v5 : Int) < n12) ∧ ∃ n15, g_A M b8 0 n15 ∧ ((0 : Int) ≤ g_i M b10 v5 ∧ (g_i M b10 v5 : Int) < n15) ∧ ((g_i M b8 (g_i M b10 v5) = 4 → g_Call d 236 [.ref a0, g_n v1, .ref (4 * 106 + 1)] M (g_qI fun r22 M19 => g_ext M M19 → g_ok M19 → g_InR r22 → ((r22 = 0 → ∃ b24, g_r M19 a0 9 = some b24 ∧ ∃ n26, g_A M19 b24 1 n26 ∧ ((0 : Int) ≤ v5 ∧ (v5 : Int) < n26) ∧ g_Call d 233 [.ref a0, g_n (g_i M19 b24 v5)] M19 (g_qI fun r32 M29 => g_ext M19 M29 → g_ok M29 → g_InR r32 → g_Call d 297 [.ref a0, g_n v1, g_n r32] M29 (g_qI fun r37 M34 => g_ext M29 M34 → g_ok M34 → g_InR r37 → ((r37 = 0 → g_InR (v5 + 1) ∧ g_Run d 296 230 [(0, .ref a0), (1, g_n v1), (2, g_n v2), (3, g_n v3), (4, g_n (g_or v4 0)), (5, g_n (v5 + 1))] [] M34 (g_qI Q)) ∧ (¬ r37 = 0 → g_InR (v5 + 1) ∧ g_Run d 296 230 [(0, .ref a0), (1, g_n v1), (2, g_n v2), (3, g_n v3), (4, g_n (g_or v4 1)), (5, g_n (v5 + 1))] [] M34 (g_qI Q)))))) ∧ (¬ r22 = 0 → ∃ b41, g_r M19 a0 9 = some b41 ∧ ∃ n43, g_A M19 b41 1 n43 ∧ ((0 : Int) ≤ v5 ∧ (v5 : Int) < n43) ∧ g_Call d 233 [.ref a0, g_n (g_i M19 b41 v5)] M19 (g_qI fun r49 M46 => g_ext M19 M46 → g_ok M46 → g_InR r49 → g_Call d 239 [.ref a0, g_n r49] M46 (g_qI fun r54 M51 => g_ext M46 M51 → g_ok M51 → g_InR r54 → g_Call d 243 [.ref a0, g_n v1] M51 (g_qL fun R59 M56 => g_ext M51 M56 → g_ok M56 → ((g_lc (Int64.ofInt r54) R59 = 0 → g_InR (v5 + 1) ∧ g_Run d 296 230 [(0, .ref a0), (1, g_n v1), (2, g_n v2), (3, g_n v3), (4, g_n (g_or v4 1)), (5, g_n (v5 + 1))] [] M56 (g_qI Q)) ∧ (¬ g_lc (Int64.ofInt r54) R59 = 0 → g_InR (v5 + 1) ∧ g_Run d 296 230 [(0, .ref a0), (1, g_n v1), (2, g_n v2), (3, g_n v3), (4, g_n (g_or v4 0)), (5, g_n (v5 + 1))] [] M56 (g_qI Q)))))))))) ∧ (¬ g_i M b8 (g_i M b10 v5) = 4 → g_InR (v5 + 1) ∧ g_Run d 296 230 [(0, .ref a0), (1, g_n v1), (2, g_n v2), (3, g_n v3), (4, g_n (g_or v4 0)), (5, g_n (v5 + 1))] [] M (g_qI Q)))))) ∧ (¬ v5 < v3 → (v4 = 0 ∨ v4 = 1) ∧ Q v4 M))) : g_Run d 296 230 [(0, .ref a0), (1, g_n v1), (2, g_n v2), (3, g_n v3), (4, g_n v4), (5, g_n v5)] [] M (g_qI Q) := by
  refine g_Run.ok fun hok => ?_
  replace h := h hok
  refine r_iload x_296_230 rfl ?_
  refine r_iload_n x_296_232 rfl ?_
  refine r_ic_ge x_296_233 (t := 337) (by decide +kernel) hv5 hv3 (fun hc => ?_) (fun hc => ?_)
  · replace h := h.2 hc
    refine r_iload x_296_337 rfl ?_
    obtain ⟨hz, h⟩ := h
    exact r_retZ x_296_339 rfl hz h
  · replace h := h.1 hc
    refine r_iload x_296_236 rfl ?_
    refine r_aload_n x_296_238 rfl ?_
    obtain ⟨hO1, h⟩ := h
    obtain ⟨b2, hb3, h⟩ := h
    refine r_getR x_296_239 rfl (ci := 12) (k := 9) (ns := 0) (by decide +kernel) (by decide) rfl (kz := 9) rfl hO1 hb3 ?_
    refine r_iload x_296_242 rfl ?_
    obtain ⟨n4, hA5, h⟩ := h
    obtain ⟨h6, h⟩ := h
    refine r_iald x_296_244 hA5 hv5 h6.1 h6.2 ?_
    refine r_iconst x_296_245 ?_
    refine r_ic_eq x_296_246 (t := 327) (by decide +kernel) (hok.1 _ _) (g_Rk rfl) (fun hc => ?_) (fun hc => ?_)
    · replace h := h.1 hc
      refine r_iconst x_296_327 ?_
      refine r_ior x_296_328 ?_
      refine r_istore x_296_329 (by decide +kernel) rfl (lv1 := [(0, .ref a0), (1, g_n v1), (2, g_n v2), (3, g_n v3), (4, g_n (g_or v4 0)), (5, g_n v5)]) rfl ?_
      obtain ⟨h7, h⟩ := h
      refine r_iinc x_296_331 (by decide +kernel) rfl rfl (lv1 := [(0, .ref a0), (1, g_n v1), (2, g_n v2), (3, g_n v3), (4, g_n (g_or v4 0)), (5, g_n (v5 + 1))]) rfl ?_
      refine r_goto x_296_334 (t := 230) (by decide +kernel) ?_
      exact h
    · replace h := h.2 hc
      refine r_aload_n x_296_249 rfl ?_
      obtain ⟨b8, hb9, h⟩ := h
      refine r_getR x_296_250 rfl (ci := 12) (k := 0) (ns := 0) (by decide +kernel) (by decide) rfl (kz := 0) rfl hO1 hb9 ?_
      refine r_aload_n x_296_253 rfl ?_
      obtain ⟨b10, hb11, h⟩ := h
      refine r_getR x_296_254 rfl (ci := 12) (k := 9) (ns := 0) (by decide +kernel) (by decide) rfl (kz := 9) rfl hO1 hb11 ?_
      refine r_iload x_296_257 rfl ?_
      obtain ⟨n12, hA13, h⟩ := h
      obtain ⟨h14, h⟩ := h
      refine r_iald x_296_259 hA13 hv5 h14.1 h14.2 ?_
      obtain ⟨n15, hA16, h⟩ := h
      obtain ⟨h17, h⟩ := h
      refine r_bald x_296_260 (Or.inl rfl) hA16 (hok.1 _ _) h17.1 h17.2 ?_
      refine r_iconst x_296_261 ?_
      refine r_ic_ne x_296_262 (t := 327) (by decide +kernel) (hok.1 _ _) (g_Rk rfl) (fun hc => ?_) (fun hc => ?_)
      · replace h := h.2 hc
        refine r_iconst x_296_327 ?_
        refine r_ior x_296_328 ?_
        refine r_istore x_296_329 (by decide +kernel) rfl (lv1 := [(0, .ref a0), (1, g_n v1), (2, g_n v2), (3, g_n v3), (4, g_n (g_or v4 0)), (5, g_n v5)]) rfl ?_
        obtain ⟨h18, h⟩ := h
        refine r_iinc x_296_331 (by decide +kernel) rfl rfl (lv1 := [(0, .ref a0), (1, g_n v1), (2, g_n v2), (3, g_n v3), (4, g_n (g_or v4 0)), (5, g_n (v5 + 1))]) rfl ?_
        refine r_goto x_296_334 (t := 230) (by decide +kernel) ?_
        exact h
      · replace h := h.1 hc
        refine r_aload_n x_296_265 rfl ?_
        refine r_iload_n x_296_266 rfl ?_
        refine r_ldcw x_296_267 (v := .ref (4 * 106 + 1)) rfl ?_
        refine r_invV x_296_270 (z := 236) (ns := 0) (by decide +kernel) (as := [g_n v1, .ref (4 * 106 + 1)]) (r := [g_n v4]) rfl rfl rfl hO1 rfl rfl ?_
        refine r_callI h fun r22 M19 hx20 hok21 hr23 h => ?_
        replace h := h hx20 hok21 hr23
        replace hO1 := hO1.up hx20
        replace hA5 := hA5.up hx20
        replace hA13 := hA13.up hx20
        replace hA16 := hA16.up hx20
        refine r_if_eq x_296_273 (t := 304) (by decide +kernel) hr23 (fun hc => ?_) (fun hc => ?_)
        · replace h := h.1 hc
          refine r_aload_n x_296_304 rfl ?_
          refine r_iload_n x_296_305 rfl ?_
          refine r_aload_n x_296_306 rfl ?_
          refine r_aload_n x_296_307 rfl ?_
          obtain ⟨b24, hb25, h⟩ := h
          refine r_getR x_296_308 rfl (ci := 12) (k := 9) (ns := 0) (by decide +kernel) (by decide) rfl (kz := 9) rfl hO1 hb25 ?_
          refine r_iload x_296_311 rfl ?_
          obtain ⟨n26, hA27, h⟩ := h
          obtain ⟨h28, h⟩ := h
          refine r_iald x_296_313 hA27 hv5 h28.1 h28.2 ?_
          refine r_invV x_296_314 (z := 233) (ns := 0) (by decide +kernel) (as := [g_n (g_i M19 b24 v5)]) (r := [g_n v1, .ref a0, g_n v4]) rfl rfl rfl hO1 rfl rfl ?_
          refine r_callI h fun r32 M29 hx30 hok31 hr33 h => ?_
          replace h := h hx30 hok31 hr33
          replace hO1 := hO1.up hx30
          replace hA5 := hA5.up hx30
          replace hA13 := hA13.up hx30
          replace hA16 := hA16.up hx30
          replace hA27 := hA27.up hx30
          refine r_invV x_296_317 (z := 297) (ns := 0) (by decide +kernel) (as := [g_n v1, g_n r32]) (r := [g_n v4]) rfl rfl rfl hO1 rfl rfl ?_
          refine r_callI h fun r37 M34 hx35 hok36 hr38 h => ?_
          replace h := h hx35 hok36 hr38
          replace hO1 := hO1.up hx35
          replace hA5 := hA5.up hx35
          replace hA13 := hA13.up hx35
          replace hA16 := hA16.up hx35
          replace hA27 := hA27.up hx35
          refine r_if_eq x_296_320 (t := 327) (by decide +kernel) hr38 (fun hc => ?_) (fun hc => ?_)
          · replace h := h.1 hc
            refine r_iconst x_296_327 ?_
            refine r_ior x_296_328 ?_
            refine r_istore x_296_329 (by decide +kernel) rfl (lv1 := [(0, .ref a0), (1, g_n v1), (2, g_n v2), (3, g_n v3), (4, g_n (g_or v4 0)), (5, g_n v5)]) rfl ?_
            obtain ⟨h39, h⟩ := h
            refine r_iinc x_296_331 (by decide +kernel) rfl rfl (lv1 := [(0, .ref a0), (1, g_n v1), (2, g_n v2), (3, g_n v3), (4, g_n (g_or v4 0)), (5, g_n (v5 + 1))]) rfl ?_
            refine r_goto x_296_334 (t := 230) (by decide +kernel) ?_
            exact h
          · replace h := h.2 hc
            refine r_iconst x_296_323 ?_
            refine r_goto x_296_324 (t := 328) (by decide +kernel) ?_
            refine r_ior x_296_328 ?_
            refine r_istore x_296_329 (by decide +kernel) rfl (lv1 := [(0, .ref a0), (1, g_n v1), (2, g_n v2), (3, g_n v3), (4, g_n (g_or v4 1)), (5, g_n v5)]) rfl ?_
            obtain ⟨h40, h⟩ := h
            refine r_iinc x_296_331 (by decide +kernel) rfl rfl (lv1 := [(0, .ref a0), (1, g_n v1), (2, g_n v2), (3, g_n v3), (4, g_n (g_or v4 1)), (5, g_n (v5 + 1))]) rfl ?_
            refine r_goto x_296_334 (t := 230) (by decide +kernel) ?_
            exact h
        · replace h := h.2 hc
          refine r_aload_n x_296_276 rfl ?_
          refine r_aload_n x_296_277 rfl ?_
          refine r_aload_n x_296_278 rfl ?_
          obtain ⟨b41, hb42, h⟩ := h
          refine r_getR x_296_279 rfl (ci := 12) (k := 9) (ns := 0) (by decide +kernel) (by decide) rfl (kz := 9) rfl hO1 hb42 ?_
          refine r_iload x_296_282 rfl ?_
          obtain ⟨n43, hA44, h⟩ := h
          obtain ⟨h45, h⟩ := h
          refine r_iald x_296_284 hA44 hv5 h45.1 h45.2 ?_
          refine r_invV x_296_285 (z := 233) (ns := 0) (by decide +kernel) (as := [g_n (g_i M19 b41 v5)]) (r := [.ref a0, g_n v4]) rfl rfl rfl hO1 rfl rfl ?_
          refine r_callI h fun r49 M46 hx47 hok48 hr50 h => ?_
          replace h := h hx47 hok48 hr50
          replace hO1 := hO1.up hx47
          replace hA5 := hA5.up hx47
          replace hA13 := hA13.up hx47
          replace hA16 := hA16.up hx47
          replace hA44 := hA44.up hx47
          refine r_invV x_296_288 (z := 239) (ns := 0) (by decide +kernel) (as := [g_n r49]) (r := [g_n v4]) rfl rfl rfl hO1 rfl rfl ?_
          refine r_callI h fun r54 M51 hx52 hok53 hr55 h => ?_
          replace h := h hx52 hok53 hr55
          replace hO1 := hO1.up hx52
          replace hA5 := hA5.up hx52
          replace hA13 := hA13.up hx52
          replace hA16 := hA16.up hx52
          replace hA44 := hA44.up hx52
          refine r_i2l x_296_291 hr55 ?_
          refine r_aload_n x_296_292 rfl ?_
          refine r_iload_n x_296_293 rfl ?_
          refine r_invV x_296_294 (z := 243) (ns := 0) (by decide +kernel) (as := [g_n v1]) (r := [.long (Int64.ofInt r54), g_n v4]) rfl rfl rfl hO1 rfl rfl ?_
          refine r_callL h fun R59 M56 hx57 hok58 h => ?_
          replace h := h hx57 hok58
          replace hO1 := hO1.up hx57
          replace hA5 := hA5.up hx57
          replace hA13 := hA13.up hx57
          replace hA16 := hA16.up hx57
          replace hA44 := hA44.up hx57
          refine r_lcmp x_296_297 ?_
          refine r_if_ne x_296_298 (t := 327) (by decide +kernel) (g_InR_toInt _) (fun hc => ?_) (fun hc => ?_)
          · replace h := h.2 hc
            refine r_iconst x_296_327 ?_
            refine r_ior x_296_328 ?_
            refine r_istore x_296_329 (by decide +kernel) rfl (lv1 := [(0, .ref a0), (1, g_n v1), (2, g_n v2), (3, g_n v3), (4, g_n (g_or v4 0)), (5, g_n v5)]) rfl ?_
            obtain ⟨h60, h⟩ := h
            refine r_iinc x_296_331 (by decide +kernel) rfl rfl (lv1 := [(0, .ref a0), (1, g_n v1), (2, g_n v2), (3, g_n v3), (4, g_n (g_or v4 0)), (5, g_n (v5 + 1))]) rfl ?_
            refine r_goto x_296_334 (t := 230) (by decide +kernel) ?_
            exact h
          · replace h := h.1 hc
            refine r_goto x_296_301 (t := 323) (by decide +kernel) ?_
            refine r_iconst x_296_323 ?_
            refine r_goto x_296_324 (t := 328) (by decide +kernel) ?_
            refine r_ior x_296_328 ?_
            refine r_istore x_296_329 (by decide +kernel) rfl (lv1 := [(0, .ref a0), (1, g_n v1), (2, g_n v2), (3, g_n v3), (4, g_n (g_or v4 1)), (5, g_n v5)]) rfl ?_
            obtain ⟨h61, h⟩ := h
            refine r_iinc x_296_331 (by decide +kernel) rfl rfl (lv1 := [(0, .ref a0), (1, g_n v1), (2, g_n v2), (3, g_n v3), (4, g_n (g_or v4 1)), (5, g_n (v5 + 1))]) rfl ?_
            refine r_goto x_296_334 (t := 230) (by decide +kernel) ?_
            exact h
theorem m_X12_hasItem {d : Nat} {M : g_M} {Q : Int → g_M → Prop} {a0 : Nat} {v1 : Int} (hv1 : g_InR v1) {v2 : Int} (hv2 : g_InR v2) (h : g_ok M → g_Call d 237 [g_n v2] M (g_qI fun r4 M1 => g_ext M M1 → g_ok M1 → g_InR r4 → g_Run d 297 5 [(0, .ref a0), (1, g_n v1), (2, g_n v2), (3, g_n r4)] [] M1 (g_qI Q))) : g_Call (d + 1) 297 [.ref a0, g_n v1, g_n v2] M (g_qI Q) := by
  refine g_Call.ok fun hok0 => ?_
  replace h := h hok0
  refine r_body rfl (lv := [(0, .ref a0), (1, g_n v1), (2, g_n v2)]) rfl ?_
  refine g_Run.ok fun hok => ?_
  refine r_iload_n x_297_0 rfl ?_
  refine r_invS x_297_1 (z := 237) (ns := 0) (by decide +kernel) (as := [g_n v2]) (r := []) rfl rfl rfl ?_
  refine r_callI h fun r4 M1 hx2 hok3 hr5 h => ?_
  replace h := h hx2 hok3 hr5
  refine r_istore_n x_297_4 (by decide +kernel) rfl (lv1 := [(0, .ref a0), (1, g_n v1), (2, g_n v2), (3, g_n r4)]) rfl ?_
  exact h
theorem s_X12_hasItem_5 {d : Nat} {M : g_M} {Q : Int → g_M → Prop} {a0 : Nat} {v1 : Int} (hv1 : g_InR v1) {v2 : Int} (hv2 : g_InR v2) {v3 : Int} (hv3 : g_InR v3) (h : g_ok M → g_O M a0 12 ∧ g_Call d 238 [.ref a0, g_n v2] M (g_qI fun r5 M2 => g_ext M M2 → g_ok M2 → g_InR r5 → ((v3 < r5 → g_Call d 285 [.ref a0, g_n v1] M2 (g_qI fun r10 M7 => g_ext M2 M7 → g_ok M7 → g_InR r10 → ((r10 = 0 → ∃ b12, g_r M7 a0 0 = some b12 ∧ ∃ n14, g_A M7 b12 0 n14 ∧ ((0 : Int) ≤ v3 ∧ (v3 : Int) < n14) ∧ ((g_i M7 b12 v3 = 3 → g_Call d 233 [.ref a0, g_n v1] M7 (g_qI fun r25 M22 => g_ext M7 M22 → g_ok M22 → g_InR r25 → g_Call d 233 [.ref a0, g_n v3] M22 (g_qI fun r30 M27 => g_ext M22 M27 → g_ok M27 → g_InR r30 → g_Call d 293 [.ref a0, g_n r25, g_n r30] M27 (g_qI fun r35 M32 => g_ext M27 M32 → g_ok M32 → g_InR r35 → ((r35 = 0 → g_Call d 235 [.ref a0, g_n v3] M32 (g_qI fun r40 M37 => g_ext M32 M37 → g_ok M37 → g_InR r40 → g_Run d 297 5 [(0, .ref a0), (1, g_n v1), (2, g_n v2), (3, g_n r40)] [] M37 (g_qI Q))) ∧ (¬ r35 = 0 → Q 1 M32)))))) ∧ (¬ g_i M7 b12 v3 = 3 → g_Call d 235 [.ref a0, g_n v3] M7 (g_qI fun r20 M17 => g_ext M7 M17 → g_ok M17 → g_InR r20 → g_Run d 297 5 [(0, .ref a0), (1, g_n v1), (2, g_n v2), (3, g_n r20)] [] M17 (g_qI Q))))) ∧ (¬ r10 = 0 → g_Call d 277 [.ref a0, g_n v3] M7 (g_qV fun M42 => g_ext M7 M42 → g_ok M42 → g_Call d 233 [.ref a0, g_n v1] M42 (g_qI fun r48 M45 => g_ext M42 M45 → g_ok M45 → g_InR r48 → g_Call d 295 [.ref a0, g_n r48, g_n (g_i M7 a0 10), g_n (g_i M45 a0 10)] M45 (g_qI fun r53 M50 => g_ext M45 M50 → g_ok M50 → g_InR r53 → (∀ M55, M55 = g_wi M50 a0 10 (g_i M7 a0 10) → g_ok M55 → ((r53 = 0 → g_Call d 235 [.ref a0, g_n v3] M55 (g_qI fun r62 M59 => g_ext M55 M59 → g_ok M59 → g_InR r62 → g_Run d 297 5 [(0, .ref a0), (1, g_n v1), (2, g_n v2), (3, g_n r62)] [] M59 (g_qI Q))) ∧ (¬ r53 = 0 → Q 1 M55)))))))))) ∧ (¬ v3 < r5 → Q 0 M2)))) : g_Run d 297 5 [(0, .ref a0), (1, g_n v1), (2, g_n v2), (3, g_n v3)] [] M (g_qI Q) := by
  refine g_Run.ok fun hok => ?_
  replace h := h hok
  refine r_iload_n x_297_5 rfl ?_
  refine r_aload_n x_297_6 rfl ?_
  refine r_iload_n x_297_7 rfl ?_
  obtain ⟨hO1, h⟩ := h
  refine r_invV x_297_8 (z := 238) (ns := 0) (by decide +kernel) (as := [g_n v2]) (r := [g_n v3]) rfl rfl rfl hO1 rfl rfl ?_
  refine r_callI h fun r5 M2 hx3 hok4 hr6 h => ?_
  replace h := h hx3 hok4 hr6
  replace hO1 := hO1.up hx3
  refine r_ic_ge x_297_11 (t := 104) (by decide +kernel) hv3 hr6 (fun hc => ?_) (fun hc => ?_)
  · replace h := h.2 hc
    refine r_iconst x_297_104 ?_
    exact r_retZ x_297_105 rfl (Or.inl rfl) h
  · replace h := h.1 hc
    refine r_aload_n x_297_14 rfl ?_
    refine r_iload_n x_297_15 rfl ?_
    refine r_invV x_297_16 (z := 285) (ns := 0) (by decide +kernel) (as := [g_n v1]) (r := []) rfl rfl rfl hO1 rfl rfl ?_
    refine r_callI h fun r10 M7 hx8 hok9 hr11 h => ?_
    replace h := h hx8 hok9 hr11
    replace hO1 := hO1.up hx8
    refine r_if_eq x_297_19 (t := 66) (by decide +kernel) hr11 (fun hc => ?_) (fun hc => ?_)
    · replace h := h.1 hc
      refine r_aload_n x_297_66 rfl ?_
      obtain ⟨b12, hb13, h⟩ := h
      refine r_getR x_297_67 rfl (ci := 12) (k := 0) (ns := 0) (by decide +kernel) (by decide) rfl (kz := 0) rfl hO1 hb13 ?_
      refine r_iload_n x_297_70 rfl ?_
      obtain ⟨n14, hA15, h⟩ := h
      obtain ⟨h16, h⟩ := h
      refine r_bald x_297_71 (Or.inl rfl) hA15 hv3 h16.1 h16.2 ?_
      refine r_iconst x_297_72 ?_
      refine r_ic_ne x_297_73 (t := 95) (by decide +kernel) (hok9.1 _ _) (g_Rk rfl) (fun hc => ?_) (fun hc => ?_)
      · replace h := h.2 hc
        refine r_aload_n x_297_95 rfl ?_
        refine r_iload_n x_297_96 rfl ?_
        refine r_invV x_297_97 (z := 235) (ns := 0) (by decide +kernel) (as := [g_n v3]) (r := []) rfl rfl rfl hO1 rfl rfl ?_
        refine r_callI h fun r20 M17 hx18 hok19 hr21 h => ?_
        replace h := h hx18 hok19 hr21
        replace hO1 := hO1.up hx18
        replace hA15 := hA15.up hx18
        refine r_istore_n x_297_100 (by decide +kernel) rfl (lv1 := [(0, .ref a0), (1, g_n v1), (2, g_n v2), (3, g_n r20)]) rfl ?_
        refine r_goto x_297_101 (t := 5) (by decide +kernel) ?_
        exact h
      · replace h := h.1 hc
        refine r_aload_n x_297_76 rfl ?_
        refine r_aload_n x_297_77 rfl ?_
        refine r_iload_n x_297_78 rfl ?_
        refine r_invV x_297_79 (z := 233) (ns := 0) (by decide +kernel) (as := [g_n v1]) (r := [.ref a0]) rfl rfl rfl hO1 rfl rfl ?_
        refine r_callI h fun r25 M22 hx23 hok24 hr26 h => ?_
        replace h := h hx23 hok24 hr26
        replace hO1 := hO1.up hx23
        replace hA15 := hA15.up hx23
        refine r_aload_n x_297_82 rfl ?_
        refine r_iload_n x_297_83 rfl ?_
        refine r_invV x_297_84 (z := 233) (ns := 0) (by decide +kernel) (as := [g_n v3]) (r := [g_n r25, .ref a0]) rfl rfl rfl hO1 rfl rfl ?_
        refine r_callI h fun r30 M27 hx28 hok29 hr31 h => ?_
        replace h := h hx28 hok29 hr31
        replace hO1 := hO1.up hx28
        replace hA15 := hA15.up hx28
        refine r_invV x_297_87 (z := 293) (ns := 0) (by decide +kernel) (as := [g_n r25, g_n r30]) (r := []) rfl rfl rfl hO1 rfl rfl ?_
        refine r_callI h fun r35 M32 hx33 hok34 hr36 h => ?_
        replace h := h hx33 hok34 hr36
        replace hO1 := hO1.up hx33
        replace hA15 := hA15.up hx33
        refine r_if_eq x_297_90 (t := 95) (by decide +kernel) hr36 (fun hc => ?_) (fun hc => ?_)
        · replace h := h.1 hc
          refine r_aload_n x_297_95 rfl ?_
          refine r_iload_n x_297_96 rfl ?_
          refine r_invV x_297_97 (z := 235) (ns := 0) (by decide +kernel) (as := [g_n v3]) (r := []) rfl rfl rfl hO1 rfl rfl ?_
          refine r_callI h fun r40 M37 hx38 hok39 hr41 h => ?_
          replace h := h hx38 hok39 hr41
          replace hO1 := hO1.up hx38
          replace hA15 := hA15.up hx38
          refine r_istore_n x_297_100 (by decide +kernel) rfl (lv1 := [(0, .ref a0), (1, g_n v1), (2, g_n v2), (3, g_n r40)]) rfl ?_
          refine r_goto x_297_101 (t := 5) (by decide +kernel) ?_
          exact h
        · replace h := h.2 hc
          refine r_iconst x_297_93 ?_
          exact r_retZ x_297_94 rfl (Or.inr rfl) h
    · replace h := h.2 hc
      refine r_aload_n x_297_22 rfl ?_
      refine r_getI x_297_23 rfl (ci := 12) (k := 10) (ns := 0) (by decide +kernel) (by decide) rfl (kz := 10) rfl hO1 ?_
      refine r_istore x_297_26 (by decide +kernel) rfl (lv1 := [(0, .ref a0), (1, g_n v1), (2, g_n v2), (3, g_n v3), (4, g_n (g_i M7 a0 10))]) rfl ?_
      refine r_aload_n x_297_28 rfl ?_
      refine r_iload_n x_297_29 rfl ?_
      refine r_invV x_297_30 (z := 277) (ns := 0) (by decide +kernel) (as := [g_n v3]) (r := []) rfl rfl rfl hO1 rfl rfl ?_
      refine r_callV h fun M42 hx43 hok44 h => ?_
      replace h := h hx43 hok44
      replace hO1 := hO1.up hx43
      refine r_aload_n x_297_33 rfl ?_
      refine r_aload_n x_297_34 rfl ?_
      refine r_iload_n x_297_35 rfl ?_
      refine r_invV x_297_36 (z := 233) (ns := 0) (by decide +kernel) (as := [g_n v1]) (r := [.ref a0]) rfl rfl rfl hO1 rfl rfl ?_
      refine r_callI h fun r48 M45 hx46 hok47 hr49 h => ?_
      replace h := h hx46 hok47 hr49
      replace hO1 := hO1.up hx46
      refine r_iload x_297_39 rfl ?_
      refine r_aload_n x_297_41 rfl ?_
      refine r_getI x_297_42 rfl (ci := 12) (k := 10) (ns := 0) (by decide +kernel) (by decide) rfl (kz := 10) rfl hO1 ?_
      refine r_invV x_297_45 (z := 295) (ns := 0) (by decide +kernel) (as := [g_n r48, g_n (g_i M7 a0 10), g_n (g_i M45 a0 10)]) (r := []) rfl rfl rfl hO1 rfl rfl ?_
      refine r_callI h fun r53 M50 hx51 hok52 hr54 h => ?_
      replace h := h hx51 hok52 hr54
      replace hO1 := hO1.up hx51
      refine r_istore x_297_48 (by decide +kernel) rfl (lv1 := [(0, .ref a0), (1, g_n v1), (2, g_n v2), (3, g_n v3), (4, g_n (g_i M7 a0 10)), (5, g_n r53)]) rfl ?_
      refine r_aload_n x_297_50 rfl ?_
      refine r_iload x_297_51 rfl ?_
      refine r_putI x_297_53 (ci := 12) (k := 10) (ns := 0) (by decide +kernel) (by decide) (g_f0 (by decide +kernel)) rfl (hok9.1 _ _) trivial (kz := 10) rfl hO1 ?_
      obtain ⟨M55, hM56⟩ : ∃ Mz, Mz = g_wi M50 a0 10 (g_i M7 a0 10) := ⟨_, rfl⟩
      rw [← hM56]
      refine g_Run.ok fun hok57 => ?_
      replace h := h M55 hM56 hok57
      have hx58 := g_extW hM56
      replace hO1 := hO1.up hx58
      refine r_iload x_297_56 rfl ?_
      refine r_if_eq x_297_58 (t := 63) (by decide +kernel) hr54 (fun hc => ?_) (fun hc => ?_)
      · replace h := h.1 hc
        refine r_goto x_297_63 (t := 95) (by decide +kernel) ?_
        refine r_aload_n x_297_95 rfl ?_
        refine r_iload_n x_297_96 rfl ?_
        refine r_invV x_297_97 (z := 235) (ns := 0) (by decide +kernel) (as := [g_n v3]) (r := []) rfl rfl rfl hO1 rfl rfl ?_
        refine r_callI h fun r62 M59 hx60 hok61 hr63 h => ?_
        replace h := h hx60 hok61 hr63
        replace hO1 := hO1.up hx60
        refine r_istore_n x_297_100 (by decide +kernel) rfl (lv1 := [(0, .ref a0), (1, g_n v1), (2, g_n v2), (3, g_n r62), (4, g_n (g_i M7 a0 10)), (5, g_n r53)]) rfl ?_
        refine r_goto x_297_101 (t := 5) (by decide +kernel) ?_
        refine g_drop [0, 1, 2, 3] (lv1 := [(0, .ref a0), (1, g_n v1), (2, g_n v2), (3, g_n r62)]) rfl ?_
        exact h
      · replace h := h.2 hc
        refine r_iconst x_297_61 ?_
        exact r_retZ x_297_62 rfl (Or.inr rfl) h
theorem m_X12_equals {d : Nat} {M : g_M} {Q : Int → g_M → Prop} {a0 : Nat} {v1 : Int} (hv1 : g_InR v1) {v2 : Int} (hv2 : g_InR v2) {v3 : Int} (hv3 : g_InR v3) (h : g_ok M → g_Run d 298 3 [(0, .ref a0), (1, g_n v1), (2, g_n v2), (3, g_n v3), (4, g_n v2)] [] M (g_qI Q)) : g_Call (d + 1) 298 [.ref a0, g_n v1, g_n v2, g_n v3] M (g_qI Q) := by
  refine g_Call.ok fun hok0 => ?_
  replace h := h hok0
  refine r_body rfl (lv := [(0, .ref a0), (1, g_n v1), (2, g_n v2), (3, g_n v3)]) rfl ?_
  refine g_Run.ok fun hok => ?_
  refine r_iload_n x_298_0 rfl ?_
  refine r_istore x_298_1 (by decide +kernel) rfl (lv1 := [(0, .ref a0), (1, g_n v1), (2, g_n v2), (3, g_n v3), (4, g_n v2)]) rfl ?_
  exact h
theorem s_X12_equals_3 {d : Nat} {M : g_M} {Q : Int → g_M → Prop} {a0 : Nat} {v1 : Int} (hv1 : g_InR v1) {v2 : Int} (hv2 : g_InR v2) {v3 : Int} (hv3 : g_InR v3) {v4 : Int} (hv4 : g_InR v4) (h : g_ok M → ((v4 < v3 → g_O M a0 12 ∧ ∃ b2, g_r M a0 9 = some b2 ∧ ∃ n4, g_A M b2 1 n4 ∧ ((0 : Int) ≤ v4 ∧ (v4 : Int) < n4) ∧ ((g_i M b2 v4 = (-1) → ∃ b28, g_r M a0 0 = some b28 ∧ ∃ n30, g_A M b28 0 n30 ∧ ((0 : Int) ≤ v1 ∧ (v1 : Int) < n30) ∧ ((g_i M b28 v1 = 10 → Q 1 M) ∧ (¬ g_i M b28 v1 = 10 → g_InR (v4 + 1) ∧ g_Run d 298 3 [(0, .ref a0), (1, g_n v1), (2, g_n v2), (3, g_n v3), (4, g_n (v4 + 1))] [] M (g_qI Q)))) ∧ (¬ g_i M b2 v4 = (-1) → g_Call d 271 [.ref a0, g_n (g_i M b2 v4), g_n v1] M (g_qI fun r10 M7 => g_ext M M7 → g_ok M7 → g_InR r10 → ((r10 = 0 → ∃ b12, g_r M7 a0 0 = some b12 ∧ ∃ n14, g_A M7 b12 0 n14 ∧ ((0 : Int) ≤ g_i M b2 v4 ∧ (g_i M b2 v4 : Int) < n14) ∧ ((g_i M7 b12 (g_i M b2 v4) = 4 → g_Call d 233 [.ref a0, g_n (g_i M b2 v4)] M7 (g_qI fun r21 M18 => g_ext M7 M18 → g_ok M18 → g_InR r21 → g_Call d 237 [g_n r21] M18 (g_qI fun r26 M23 => g_ext M18 M23 → g_ok M23 → g_InR r26 → g_Run d 298 71 [(0, .ref a0), (1, g_n v1), (2, g_n v2), (3, g_n v3), (4, g_n v4), (5, g_n (g_i M b2 v4)), (6, g_n r26)] [] M23 (g_qI Q)))) ∧ (¬ g_i M7 b12 (g_i M b2 v4) = 4 → g_InR (v4 + 1) ∧ g_Run d 298 3 [(0, .ref a0), (1, g_n v1), (2, g_n v2), (3, g_n v3), (4, g_n (v4 + 1))] [] M7 (g_qI Q)))) ∧ (¬ r10 = 0 → Q 1 M7)))))) ∧ (¬ v4 < v3 → Q 0 M))) : g_Run d 298 3 [(0, .ref a0), (1, g_n v1), (2, g_n v2), (3, g_n v3), (4, g_n v4)] [] M (g_qI Q) := by
  refine g_Run.ok fun hok => ?_
  replace h := h hok
  refine r_iload x_298_3 rfl ?_
  refine r_iload_n x_298_5 rfl ?_
  refine r_ic_ge x_298_6 (t := 115) (by decide +kernel) hv4 hv3 (fun hc => ?_) (fun hc => ?_)
  · replace h := h.2 hc
    refine r_iconst x_298_115 ?_
    exact r_retZ x_298_116 rfl (Or.inl rfl) h
  · replace h := h.1 hc
    refine r_aload_n x_298_9 rfl ?_
    obtain ⟨hO1, h⟩ := h
    obtain ⟨b2, hb3, h⟩ := h
    refine r_getR x_298_10 rfl (ci := 12) (k := 9) (ns := 0) (by decide +kernel) (by decide) rfl (kz := 9) rfl hO1 hb3 ?_
    refine r_iload x_298_13 rfl ?_
    obtain ⟨n4, hA5, h⟩ := h
    obtain ⟨h6, h⟩ := h
    refine r_iald x_298_15 hA5 hv4 h6.1 h6.2 ?_
    refine r_istore x_298_16 (by decide +kernel) rfl (lv1 := [(0, .ref a0), (1, g_n v1), (2, g_n v2), (3, g_n v3), (4, g_n v4), (5, g_n (g_i M b2 v4))]) rfl ?_
    refine r_iload x_298_18 rfl ?_
    refine r_iconst x_298_20 ?_
    refine r_ic_ne x_298_21 (t := 37) (by decide +kernel) (hok.1 _ _) (g_Rk rfl) (fun hc => ?_) (fun hc => ?_)
    · replace h := h.2 hc
      refine r_aload_n x_298_37 rfl ?_
      refine r_iload x_298_38 rfl ?_
      refine r_iload_n x_298_40 rfl ?_
      refine r_invV x_298_41 (z := 271) (ns := 0) (by decide +kernel) (as := [g_n (g_i M b2 v4), g_n v1]) (r := []) rfl rfl rfl hO1 rfl rfl ?_
      refine r_callI h fun r10 M7 hx8 hok9 hr11 h => ?_
      replace h := h hx8 hok9 hr11
      replace hO1 := hO1.up hx8
      replace hA5 := hA5.up hx8
      refine r_if_eq x_298_44 (t := 49) (by decide +kernel) hr11 (fun hc => ?_) (fun hc => ?_)
      · replace h := h.1 hc
        refine r_aload_n x_298_49 rfl ?_
        obtain ⟨b12, hb13, h⟩ := h
        refine r_getR x_298_50 rfl (ci := 12) (k := 0) (ns := 0) (by decide +kernel) (by decide) rfl (kz := 0) rfl hO1 hb13 ?_
        refine r_iload x_298_53 rfl ?_
        obtain ⟨n14, hA15, h⟩ := h
        obtain ⟨h16, h⟩ := h
        refine r_bald x_298_55 (Or.inl rfl) hA15 (hok.1 _ _) h16.1 h16.2 ?_
        refine r_iconst x_298_56 ?_
        refine r_ic_ne x_298_57 (t := 109) (by decide +kernel) (hok9.1 _ _) (g_Rk rfl) (fun hc => ?_) (fun hc => ?_)
        · replace h := h.2 hc
          obtain ⟨h17, h⟩ := h
          refine r_iinc x_298_109 (by decide +kernel) rfl rfl (lv1 := [(0, .ref a0), (1, g_n v1), (2, g_n v2), (3, g_n v3), (4, g_n (v4 + 1)), (5, g_n (g_i M b2 v4))]) rfl ?_
          refine r_goto x_298_112 (t := 3) (by decide +kernel) ?_
          refine g_drop [0, 1, 2, 3, 4] (lv1 := [(0, .ref a0), (1, g_n v1), (2, g_n v2), (3, g_n v3), (4, g_n (v4 + 1))]) rfl ?_
          exact h
        · replace h := h.1 hc
          refine r_aload_n x_298_60 rfl ?_
          refine r_iload x_298_61 rfl ?_
          refine r_invV x_298_63 (z := 233) (ns := 0) (by decide +kernel) (as := [g_n (g_i M b2 v4)]) (r := []) rfl rfl rfl hO1 rfl rfl ?_
          refine r_callI h fun r21 M18 hx19 hok20 hr22 h => ?_
          replace h := h hx19 hok20 hr22
          replace hO1 := hO1.up hx19
          replace hA5 := hA5.up hx19
          replace hA15 := hA15.up hx19
          refine r_invS x_298_66 (z := 237) (ns := 0) (by decide +kernel) (as := [g_n r21]) (r := []) rfl rfl rfl ?_
          refine r_callI h fun r26 M23 hx24 hok25 hr27 h => ?_
          replace h := h hx24 hok25 hr27
          replace hO1 := hO1.up hx24
          replace hA5 := hA5.up hx24
          replace hA15 := hA15.up hx24
          refine r_istore x_298_69 (by decide +kernel) rfl (lv1 := [(0, .ref a0), (1, g_n v1), (2, g_n v2), (3, g_n v3), (4, g_n v4), (5, g_n (g_i M b2 v4)), (6, g_n r26)]) rfl ?_
          exact h
      · replace h := h.2 hc
        refine r_iconst x_298_47 ?_
        exact r_retZ x_298_48 rfl (Or.inr rfl) h
    · replace h := h.1 hc
      refine r_aload_n x_298_24 rfl ?_
      obtain ⟨b28, hb29, h⟩ := h
      refine r_getR x_298_25 rfl (ci := 12) (k := 0) (ns := 0) (by decide +kernel) (by decide) rfl (kz := 0) rfl hO1 hb29 ?_
      refine r_iload_n x_298_28 rfl ?_
      obtain ⟨n30, hA31, h⟩ := h
      obtain ⟨h32, h⟩ := h
      refine r_bald x_298_29 (Or.inl rfl) hA31 hv1 h32.1 h32.2 ?_
      refine r_bipush x_298_30 (x := 10) rfl ?_
      refine r_ic_ne x_298_32 (t := 109) (by decide +kernel) (hok.1 _ _) (g_Rk rfl) (fun hc => ?_) (fun hc => ?_)
      · replace h := h.2 hc
        obtain ⟨h33, h⟩ := h
        refine r_iinc x_298_109 (by decide +kernel) rfl rfl (lv1 := [(0, .ref a0), (1, g_n v1), (2, g_n v2), (3, g_n v3), (4, g_n (v4 + 1)), (5, g_n (g_i M b2 v4))]) rfl ?_
        refine r_goto x_298_112 (t := 3) (by decide +kernel) ?_
        refine g_drop [0, 1, 2, 3, 4] (lv1 := [(0, .ref a0), (1, g_n v1), (2, g_n v2), (3, g_n v3), (4, g_n (v4 + 1))]) rfl ?_
        exact h
      · replace h := h.1 hc
        refine r_iconst x_298_35 ?_
        exact r_retZ x_298_36 rfl (Or.inr rfl) h
theorem s_X12_equals_71 {d : Nat} {M : g_M} {Q : Int → g_M → Prop} {a0 : Nat} {v1 : Int} (hv1 : g_InR v1) {v2 : Int} (hv2 : g_InR v2) {v3 : Int} (hv3 : g_InR v3) {v4 : Int} (hv4 : g_InR v4) {v5 : Int} (hv5 : g_InR v5) {v6 : Int} (hv6 : g_InR v6) (h : g_ok M → g_O M a0 12 ∧ g_Call d 233 [.ref a0, g_n v5] M (g_qI fun r5 M2 => g_ext M M2 → g_ok M2 → g_InR r5 → g_Call d 238 [.ref a0, g_n r5] M2 (g_qI fun r10 M7 => g_ext M2 M7 → g_ok M7 → g_InR r10 → ((v6 < r10 → g_Call d 271 [.ref a0, g_n v6, g_n v1] M7 (g_qI fun r16 M13 => g_ext M7 M13 → g_ok M13 → g_InR r16 → ((r16 = 0 → g_Call d 235 [.ref a0, g_n v6] M13 (g_qI fun r21 M18 => g_ext M13 M18 → g_ok M18 → g_InR r21 → g_Run d 298 71 [(0, .ref a0), (1, g_n v1), (2, g_n v2), (3, g_n v3), (4, g_n v4), (5, g_n v5), (6, g_n r21)] [] M18 (g_qI Q))) ∧ (¬ r16 = 0 → Q 1 M13)))) ∧ (¬ v6 < r10 → g_InR (v4 + 1) ∧ g_Run d 298 3 [(0, .ref a0), (1, g_n v1), (2, g_n v2), (3, g_n v3), (4, g_n (v4 + 1))] [] M7 (g_qI Q)))))) : g_Run d 298 71 [(0, .ref a0), (1, g_n v1), (2, g_n v2), (3, g_n v3), (4, g_n v4), (5, g_n v5), (6, g_n v6)] [] M (g_qI Q) := by
  refine g_Run.ok fun hok => ?_
  replace h := h hok
  refine r_iload x_298_71 rfl ?_
  refine r_aload_n x_298_73 rfl ?_
  refine r_aload_n x_298_74 rfl ?_
  refine r_iload x_298_75 rfl ?_
  obtain ⟨hO1, h⟩ := h
  refine r_invV x_298_77 (z := 233) (ns := 0) (by decide +kernel) (as := [g_n v5]) (r := [.ref a0, g_n v6]) rfl rfl rfl hO1 rfl rfl ?_
  refine r_callI h fun r5 M2 hx3 hok4 hr6 h => ?_
  replace h := h hx3 hok4 hr6
  replace hO1 := hO1.up hx3
  refine r_invV x_298_80 (z := 238) (ns := 0) (by decide +kernel) (as := [g_n r5]) (r := [g_n v6]) rfl rfl rfl hO1 rfl rfl ?_
  refine r_callI h fun r10 M7 hx8 hok9 hr11 h => ?_
  replace h := h hx8 hok9 hr11
  replace hO1 := hO1.up hx8
  refine r_ic_ge x_298_83 (t := 109) (by decide +kernel) hv6 hr11 (fun hc => ?_) (fun hc => ?_)
  · replace h := h.2 hc
    obtain ⟨h12, h⟩ := h
    refine r_iinc x_298_109 (by decide +kernel) rfl rfl (lv1 := [(0, .ref a0), (1, g_n v1), (2, g_n v2), (3, g_n v3), (4, g_n (v4 + 1)), (5, g_n v5), (6, g_n v6)]) rfl ?_
    refine r_goto x_298_112 (t := 3) (by decide +kernel) ?_
    refine g_drop [0, 1, 2, 3, 4] (lv1 := [(0, .ref a0), (1, g_n v1), (2, g_n v2), (3, g_n v3), (4, g_n (v4 + 1))]) rfl ?_
    exact h
  · replace h := h.1 hc
    refine r_aload_n x_298_86 rfl ?_
    refine r_iload x_298_87 rfl ?_
    refine r_iload_n x_298_89 rfl ?_
    refine r_invV x_298_90 (z := 271) (ns := 0) (by decide +kernel) (as := [g_n v6, g_n v1]) (r := []) rfl rfl rfl hO1 rfl rfl ?_
    refine r_callI h fun r16 M13 hx14 hok15 hr17 h => ?_
    replace h := h hx14 hok15 hr17
    replace hO1 := hO1.up hx14
    refine r_if_eq x_298_93 (t := 98) (by decide +kernel) hr17 (fun hc => ?_) (fun hc => ?_)
    · replace h := h.1 hc
      refine r_aload_n x_298_98 rfl ?_
      refine r_iload x_298_99 rfl ?_
      refine r_invV x_298_101 (z := 235) (ns := 0) (by decide +kernel) (as := [g_n v6]) (r := []) rfl rfl rfl hO1 rfl rfl ?_
      refine r_callI h fun r21 M18 hx19 hok20 hr22 h => ?_
      replace h := h hx19 hok20 hr22
      replace hO1 := hO1.up hx19
      refine r_istore x_298_104 (by decide +kernel) rfl (lv1 := [(0, .ref a0), (1, g_n v1), (2, g_n v2), (3, g_n v3), (4, g_n v4), (5, g_n v5), (6, g_n r21)]) rfl ?_
      refine r_goto x_298_106 (t := 71) (by decide +kernel) ?_
      exact h
    · replace h := h.2 hc
      refine r_iconst x_298_96 ?_
      exact r_retZ x_298_97 rfl (Or.inr rfl) h
theorem m_X12_equalsSome {d : Nat} {M : g_M} {Q : Int → g_M → Prop} {a0 : Nat} {v1 : Int} (hv1 : g_InR v1) {v2 : Int} (hv2 : g_InR v2) {v3 : Int} (hv3 : g_InR v3) (h : g_ok M → g_O M a0 12 ∧ g_Call d 233 [.ref a0, g_n v1] M (g_qI fun r5 M2 => g_ext M M2 → g_ok M2 → g_InR r5 → g_Call d 237 [g_n r5] M2 (g_qI fun r10 M7 => g_ext M2 M7 → g_ok M7 → g_InR r10 → g_Run d 299 10 [(0, .ref a0), (1, g_n v1), (2, g_n v2), (3, g_n v3), (4, g_n r10)] [] M7 (g_qI Q)))) : g_Call (d + 1) 299 [.ref a0, g_n v1, g_n v2, g_n v3] M (g_qI Q) := by
  refine g_Call.ok fun hok0 => ?_
  replace h := h hok0
  refine r_body rfl (lv := [(0, .ref a0), (1, g_n v1), (2, g_n v2), (3, g_n v3)]) rfl ?_
  refine g_Run.ok fun hok => ?_
  refine r_aload_n x_299_0 rfl ?_
  refine r_iload_n x_299_1 rfl ?_
  obtain ⟨hO1, h⟩ := h
  refine r_invV x_299_2 (z := 233) (ns := 0) (by decide +kernel) (as := [g_n v1]) (r := []) rfl rfl rfl hO1 rfl rfl ?_
  refine r_callI h fun r5 M2 hx3 hok4 hr6 h => ?_
  replace h := h hx3 hok4 hr6
  replace hO1 := hO1.up hx3
  refine r_invS x_299_5 (z := 237) (ns := 0) (by decide +kernel) (as := [g_n r5]) (r := []) rfl rfl rfl ?_
  refine r_callI h fun r10 M7 hx8 hok9 hr11 h => ?_
  replace h := h hx8 hok9 hr11
  replace hO1 := hO1.up hx8
  refine r_istore x_299_8 (by decide +kernel) rfl (lv1 := [(0, .ref a0), (1, g_n v1), (2, g_n v2), (3, g_n v3), (4, g_n r10)]) rfl ?_
  exact h
theorem s_X12_equalsSome_10 {d : Nat} {M : g_M} {Q : Int → g_M → Prop} {a0 : Nat} {v1 : Int} (hv1 : g_InR v1) {v2 : Int} (hv2 : g_InR v2) {v3 : Int} (hv3 : g_InR v3) {v4 : Int} (hv4 : g_InR v4) (h : g_ok M → g_O M a0 12 ∧ g_Call d 233 [.ref a0, g_n v1] M (g_qI fun r5 M2 => g_ext M M2 → g_ok M2 → g_InR r5 → g_Call d 238 [.ref a0, g_n r5] M2 (g_qI fun r10 M7 => g_ext M2 M7 → g_ok M7 → g_InR r10 → ((v4 < r10 → g_Call d 298 [.ref a0, g_n v4, g_n v2, g_n v3] M7 (g_qI fun r15 M12 => g_ext M7 M12 → g_ok M12 → g_InR r15 → ((r15 = 0 → g_Call d 235 [.ref a0, g_n v4] M12 (g_qI fun r20 M17 => g_ext M12 M17 → g_ok M17 → g_InR r20 → g_Run d 299 10 [(0, .ref a0), (1, g_n v1), (2, g_n v2), (3, g_n v3), (4, g_n r20)] [] M17 (g_qI Q))) ∧ (¬ r15 = 0 → Q 1 M12)))) ∧ (¬ v4 < r10 → Q 0 M7))))) : g_Run d 299 10 [(0, .ref a0), (1, g_n v1), (2, g_n v2), (3, g_n v3), (4, g_n v4)] [] M (g_qI Q) := by
  refine g_Run.ok fun hok => ?_
  replace h := h hok
  refine r_iload x_299_10 rfl ?_
  refine r_aload_n x_299_12 rfl ?_
  refine r_aload_n x_299_13 rfl ?_
  refine r_iload_n x_299_14 rfl ?_
  obtain ⟨hO1, h⟩ := h
  refine r_invV x_299_15 (z := 233) (ns := 0) (by decide +kernel) (as := [g_n v1]) (r := [.ref a0, g_n v4]) rfl rfl rfl hO1 rfl rfl ?_
  refine r_callI h fun r5 M2 hx3 hok4 hr6 h => ?_
  replace h := h hx3 hok4 hr6
  replace hO1 := hO1.up hx3
  refine r_invV x_299_18 (z := 238) (ns := 0) (by decide +kernel) (as := [g_n r5]) (r := [g_n v4]) rfl rfl rfl hO1 rfl rfl ?_
  refine r_callI h fun r10 M7 hx8 hok9 hr11 h => ?_
  replace h := h hx8 hok9 hr11
  replace hO1 := hO1.up hx8
  refine r_ic_ge x_299_21 (t := 48) (by decide +kernel) hv4 hr11 (fun hc => ?_) (fun hc => ?_)
  · replace h := h.2 hc
    refine r_iconst x_299_48 ?_
    exact r_retZ x_299_49 rfl (Or.inl rfl) h
  · replace h := h.1 hc
    refine r_aload_n x_299_24 rfl ?_
    refine r_iload x_299_25 rfl ?_
    refine r_iload_n x_299_27 rfl ?_
    refine r_iload_n x_299_28 rfl ?_
    refine r_invV x_299_29 (z := 298) (ns := 0) (by decide +kernel) (as := [g_n v4, g_n v2, g_n v3]) (r := []) rfl rfl rfl hO1 rfl rfl ?_
    refine r_callI h fun r15 M12 hx13 hok14 hr16 h => ?_
    replace h := h hx13 hok14 hr16
    replace hO1 := hO1.up hx13
    refine r_if_eq x_299_32 (t := 37) (by decide +kernel) hr16 (fun hc => ?_) (fun hc => ?_)
    · replace h := h.1 hc
      refine r_aload_n x_299_37 rfl ?_
      refine r_iload x_299_38 rfl ?_
      refine r_invV x_299_40 (z := 235) (ns := 0) (by decide +kernel) (as := [g_n v4]) (r := []) rfl rfl rfl hO1 rfl rfl ?_
      refine r_callI h fun r20 M17 hx18 hok19 hr21 h => ?_
      replace h := h hx18 hok19 hr21
      replace hO1 := hO1.up hx18
      refine r_istore x_299_43 (by decide +kernel) rfl (lv1 := [(0, .ref a0), (1, g_n v1), (2, g_n v2), (3, g_n v3), (4, g_n r20)]) rfl ?_
      refine r_goto x_299_45 (t := 10) (by decide +kernel) ?_
      exact h
    · replace h := h.2 hc
      refine r_iconst x_299_35 ?_
      exact r_retZ x_299_36 rfl (Or.inr rfl) h
theorem m_X12_compares {d : Nat} {M : g_M} {Q : Int → g_M → Prop} {a0 : Nat} {v1 : Int} (hv1 : g_InR v1) {v2 : Int} (hv2 : g_InR v2) {v3 : Int} (hv3 : g_InR v3) (h : g_ok M → g_O M a0 12 ∧ ∃ b2, g_r M a0 0 = some b2 ∧ ∃ n4, g_A M b2 0 n4 ∧ ((0 : Int) ≤ v1 ∧ (v1 : Int) < n4) ∧ ((g_i M b2 v1 = 10 → g_Call d 236 [.ref a0, g_n v1, .ref (4 * 102 + 1)] M (g_qI fun r10 M7 => g_ext M M7 → g_ok M7 → g_InR r10 → ((r10 = 0 → g_Call d 236 [.ref a0, g_n v1, .ref (4 * 104 + 1)] M7 (g_qI fun r20 M17 => g_ext M7 M17 → g_ok M17 → g_InR r20 → ((r20 = 0 → g_Run d 300 44 [(0, .ref a0), (1, g_n v1), (2, g_n v2), (3, g_n v3), (4, g_n v2)] [] M17 (g_qI Q)) ∧ (¬ r20 = 0 → g_Call d 298 [.ref a0, g_n v1, g_n v2, g_n v3] M17 (g_qI fun r25 M22 => g_ext M17 M22 → g_ok M22 → g_InR r25 → (r25 = 0 ∨ r25 = 1) ∧ Q r25 M22))))) ∧ (¬ r10 = 0 → g_Call d 298 [.ref a0, g_n v1, g_n v2, g_n v3] M7 (g_qI fun r15 M12 => g_ext M7 M12 → g_ok M12 → g_InR r15 → (r15 = 0 ∨ r15 = 1) ∧ Q r15 M12))))) ∧ (¬ g_i M b2 v1 = 10 → g_Run d 300 44 [(0, .ref a0), (1, g_n v1), (2, g_n v2), (3, g_n v3), (4, g_n v2)] [] M (g_qI Q)))) : g_Call (d + 1) 300 [.ref a0, g_n v1, g_n v2, g_n v3] M (g_qI Q) := by
  refine g_Call.ok fun hok0 => ?_
  replace h := h hok0
  refine r_body rfl (lv := [(0, .ref a0), (1, g_n v1), (2, g_n v2), (3, g_n v3)]) rfl ?_
  refine g_Run.ok fun hok => ?_
  refine r_aload_n x_300_0 rfl ?_
  obtain ⟨hO1, h⟩ := h
  obtain ⟨b2, hb3, h⟩ := h
  refine r_getR x_300_1 rfl (ci := 12) (k := 0) (ns := 0) (by decide +kernel) (by decide) rfl (kz := 0) rfl hO1 hb3 ?_
  refine r_iload_n x_300_4 rfl ?_
  obtain ⟨n4, hA5, h⟩ := h
  obtain ⟨h6, h⟩ := h
  refine r_bald x_300_5 (Or.inl rfl) hA5 hv1 h6.1 h6.2 ?_
  refine r_bipush x_300_6 (x := 10) rfl ?_
  refine r_ic_ne x_300_8 (t := 41) (by decide +kernel) (hok.1 _ _) (g_Rk rfl) (fun hc => ?_) (fun hc => ?_)
  · replace h := h.2 hc
    refine r_iload_n x_300_41 rfl ?_
    refine r_istore x_300_42 (by decide +kernel) rfl (lv1 := [(0, .ref a0), (1, g_n v1), (2, g_n v2), (3, g_n v3), (4, g_n v2)]) rfl ?_
    exact h
  · replace h := h.1 hc
    refine r_aload_n x_300_11 rfl ?_
    refine r_iload_n x_300_12 rfl ?_
    refine r_ldcw x_300_13 (v := .ref (4 * 102 + 1)) rfl ?_
    refine r_invV x_300_16 (z := 236) (ns := 0) (by decide +kernel) (as := [g_n v1, .ref (4 * 102 + 1)]) (r := []) rfl rfl rfl hO1 rfl rfl ?_
    refine r_callI h fun r10 M7 hx8 hok9 hr11 h => ?_
    replace h := h hx8 hok9 hr11
    replace hO1 := hO1.up hx8
    replace hA5 := hA5.up hx8
    refine r_if_ne x_300_19 (t := 33) (by decide +kernel) hr11 (fun hc => ?_) (fun hc => ?_)
    · replace h := h.2 hc
      refine r_aload_n x_300_33 rfl ?_
      refine r_iload_n x_300_34 rfl ?_
      refine r_iload_n x_300_35 rfl ?_
      refine r_iload_n x_300_36 rfl ?_
      refine r_invV x_300_37 (z := 298) (ns := 0) (by decide +kernel) (as := [g_n v1, g_n v2, g_n v3]) (r := []) rfl rfl rfl hO1 rfl rfl ?_
      refine r_callI h fun r15 M12 hx13 hok14 hr16 h => ?_
      replace h := h hx13 hok14 hr16
      replace hO1 := hO1.up hx13
      replace hA5 := hA5.up hx13
      obtain ⟨hz, h⟩ := h
      exact r_retZ x_300_40 rfl hz h
    · replace h := h.1 hc
      refine r_aload_n x_300_22 rfl ?_
      refine r_iload_n x_300_23 rfl ?_
      refine r_ldcw x_300_24 (v := .ref (4 * 104 + 1)) rfl ?_
      refine r_invV x_300_27 (z := 236) (ns := 0) (by decide +kernel) (as := [g_n v1, .ref (4 * 104 + 1)]) (r := []) rfl rfl rfl hO1 rfl rfl ?_
      refine r_callI h fun r20 M17 hx18 hok19 hr21 h => ?_
      replace h := h hx18 hok19 hr21
      replace hO1 := hO1.up hx18
      replace hA5 := hA5.up hx18
      refine r_if_eq x_300_30 (t := 41) (by decide +kernel) hr21 (fun hc => ?_) (fun hc => ?_)
      · replace h := h.1 hc
        refine r_iload_n x_300_41 rfl ?_
        refine r_istore x_300_42 (by decide +kernel) rfl (lv1 := [(0, .ref a0), (1, g_n v1), (2, g_n v2), (3, g_n v3), (4, g_n v2)]) rfl ?_
        exact h
      · replace h := h.2 hc
        refine r_aload_n x_300_33 rfl ?_
        refine r_iload_n x_300_34 rfl ?_
        refine r_iload_n x_300_35 rfl ?_
        refine r_iload_n x_300_36 rfl ?_
        refine r_invV x_300_37 (z := 298) (ns := 0) (by decide +kernel) (as := [g_n v1, g_n v2, g_n v3]) (r := []) rfl rfl rfl hO1 rfl rfl ?_
        refine r_callI h fun r25 M22 hx23 hok24 hr26 h => ?_
        replace h := h hx23 hok24 hr26
        replace hO1 := hO1.up hx23
        replace hA5 := hA5.up hx23
        obtain ⟨hz, h⟩ := h
        exact r_retZ x_300_40 rfl hz h
theorem s_X12_compares_44 {d : Nat} {M : g_M} {Q : Int → g_M → Prop} {a0 : Nat} {v1 : Int} (hv1 : g_InR v1) {v2 : Int} (hv2 : g_InR v2) {v3 : Int} (hv3 : g_InR v3) {v4 : Int} (hv4 : g_InR v4) (h : g_ok M → ((v4 < v3 → g_O M a0 12 ∧ ∃ b2, g_r M a0 9 = some b2 ∧ ∃ n4, g_A M b2 1 n4 ∧ ((0 : Int) ≤ v4 ∧ (v4 : Int) < n4) ∧ ((g_i M b2 v4 = (-1) → g_InR (v4 + 1) ∧ g_Run d 300 44 [(0, .ref a0), (1, g_n v1), (2, g_n v2), (3, g_n v3), (4, g_n (v4 + 1))] [] M (g_qI Q)) ∧ (¬ g_i M b2 v4 = (-1) → g_Call d 301 [.ref a0, g_n (g_i M b2 v4), g_n v1] M (g_qI fun r10 M7 => g_ext M M7 → g_ok M7 → g_InR r10 → ((r10 = 0 → ∃ b12, g_r M7 a0 0 = some b12 ∧ ∃ n14, g_A M7 b12 0 n14 ∧ ((0 : Int) ≤ g_i M b2 v4 ∧ (g_i M b2 v4 : Int) < n14) ∧ ((g_i M7 b12 (g_i M b2 v4) = 4 → g_Call d 233 [.ref a0, g_n (g_i M b2 v4)] M7 (g_qI fun r21 M18 => g_ext M7 M18 → g_ok M18 → g_InR r21 → g_Call d 237 [g_n r21] M18 (g_qI fun r26 M23 => g_ext M18 M23 → g_ok M23 → g_InR r26 → g_Run d 300 102 [(0, .ref a0), (1, g_n v1), (2, g_n v2), (3, g_n v3), (4, g_n v4), (5, g_n (g_i M b2 v4)), (6, g_n r26)] [] M23 (g_qI Q)))) ∧ (¬ g_i M7 b12 (g_i M b2 v4) = 4 → g_InR (v4 + 1) ∧ g_Run d 300 44 [(0, .ref a0), (1, g_n v1), (2, g_n v2), (3, g_n v3), (4, g_n (v4 + 1))] [] M7 (g_qI Q)))) ∧ (¬ r10 = 0 → Q 1 M7)))))) ∧ (¬ v4 < v3 → Q 0 M))) : g_Run d 300 44 [(0, .ref a0), (1, g_n v1), (2, g_n v2), (3, g_n v3), (4, g_n v4)] [] M (g_qI Q) := by
  refine g_Run.ok fun hok => ?_
  replace h := h hok
  refine r_iload x_300_44 rfl ?_
  refine r_iload_n x_300_46 rfl ?_
  refine r_ic_ge x_300_47 (t := 146) (by decide +kernel) hv4 hv3 (fun hc => ?_) (fun hc => ?_)
  · replace h := h.2 hc
    refine r_iconst x_300_146 ?_
    exact r_retZ x_300_147 rfl (Or.inl rfl) h
  · replace h := h.1 hc
    refine r_aload_n x_300_50 rfl ?_
    obtain ⟨hO1, h⟩ := h
    obtain ⟨b2, hb3, h⟩ := h
    refine r_getR x_300_51 rfl (ci := 12) (k := 9) (ns := 0) (by decide +kernel) (by decide) rfl (kz := 9) rfl hO1 hb3 ?_
    refine r_iload x_300_54 rfl ?_
    obtain ⟨n4, hA5, h⟩ := h
    obtain ⟨h6, h⟩ := h
    refine r_iald x_300_56 hA5 hv4 h6.1 h6.2 ?_
    refine r_istore x_300_57 (by decide +kernel) rfl (lv1 := [(0, .ref a0), (1, g_n v1), (2, g_n v2), (3, g_n v3), (4, g_n v4), (5, g_n (g_i M b2 v4))]) rfl ?_
    refine r_iload x_300_59 rfl ?_
    refine r_iconst x_300_61 ?_
    refine r_ic_ne x_300_62 (t := 68) (by decide +kernel) (hok.1 _ _) (g_Rk rfl) (fun hc => ?_) (fun hc => ?_)
    · replace h := h.2 hc
      refine r_aload_n x_300_68 rfl ?_
      refine r_iload x_300_69 rfl ?_
      refine r_iload_n x_300_71 rfl ?_
      refine r_invV x_300_72 (z := 301) (ns := 0) (by decide +kernel) (as := [g_n (g_i M b2 v4), g_n v1]) (r := []) rfl rfl rfl hO1 rfl rfl ?_
      refine r_callI h fun r10 M7 hx8 hok9 hr11 h => ?_
      replace h := h hx8 hok9 hr11
      replace hO1 := hO1.up hx8
      replace hA5 := hA5.up hx8
      refine r_if_eq x_300_75 (t := 80) (by decide +kernel) hr11 (fun hc => ?_) (fun hc => ?_)
      · replace h := h.1 hc
        refine r_aload_n x_300_80 rfl ?_
        obtain ⟨b12, hb13, h⟩ := h
        refine r_getR x_300_81 rfl (ci := 12) (k := 0) (ns := 0) (by decide +kernel) (by decide) rfl (kz := 0) rfl hO1 hb13 ?_
        refine r_iload x_300_84 rfl ?_
        obtain ⟨n14, hA15, h⟩ := h
        obtain ⟨h16, h⟩ := h
        refine r_bald x_300_86 (Or.inl rfl) hA15 (hok.1 _ _) h16.1 h16.2 ?_
        refine r_iconst x_300_87 ?_
        refine r_ic_ne x_300_88 (t := 140) (by decide +kernel) (hok9.1 _ _) (g_Rk rfl) (fun hc => ?_) (fun hc => ?_)
        · replace h := h.2 hc
          obtain ⟨h17, h⟩ := h
          refine r_iinc x_300_140 (by decide +kernel) rfl rfl (lv1 := [(0, .ref a0), (1, g_n v1), (2, g_n v2), (3, g_n v3), (4, g_n (v4 + 1)), (5, g_n (g_i M b2 v4))]) rfl ?_
          refine r_goto x_300_143 (t := 44) (by decide +kernel) ?_
          refine g_drop [0, 1, 2, 3, 4] (lv1 := [(0, .ref a0), (1, g_n v1), (2, g_n v2), (3, g_n v3), (4, g_n (v4 + 1))]) rfl ?_
          exact h
        · replace h := h.1 hc
          refine r_aload_n x_300_91 rfl ?_
          refine r_iload x_300_92 rfl ?_
          refine r_invV x_300_94 (z := 233) (ns := 0) (by decide +kernel) (as := [g_n (g_i M b2 v4)]) (r := []) rfl rfl rfl hO1 rfl rfl ?_
          refine r_callI h fun r21 M18 hx19 hok20 hr22 h => ?_
          replace h := h hx19 hok20 hr22
          replace hO1 := hO1.up hx19
          replace hA5 := hA5.up hx19
          replace hA15 := hA15.up hx19
          refine r_invS x_300_97 (z := 237) (ns := 0) (by decide +kernel) (as := [g_n r21]) (r := []) rfl rfl rfl ?_
          refine r_callI h fun r26 M23 hx24 hok25 hr27 h => ?_
          replace h := h hx24 hok25 hr27
          replace hO1 := hO1.up hx24
          replace hA5 := hA5.up hx24
          replace hA15 := hA15.up hx24
          refine r_istore x_300_100 (by decide +kernel) rfl (lv1 := [(0, .ref a0), (1, g_n v1), (2, g_n v2), (3, g_n v3), (4, g_n v4), (5, g_n (g_i M b2 v4)), (6, g_n r26)]) rfl ?_
          exact h
      · replace h := h.2 hc
        refine r_iconst x_300_78 ?_
        exact r_retZ x_300_79 rfl (Or.inr rfl) h
    · replace h := h.1 hc
      refine r_goto x_300_65 (t := 140) (by decide +kernel) ?_
      obtain ⟨h28, h⟩ := h
      refine r_iinc x_300_140 (by decide +kernel) rfl rfl (lv1 := [(0, .ref a0), (1, g_n v1), (2, g_n v2), (3, g_n v3), (4, g_n (v4 + 1)), (5, g_n (g_i M b2 v4))]) rfl ?_
      refine r_goto x_300_143 (t := 44) (by decide +kernel) ?_
      refine g_drop [0, 1, 2, 3, 4] (lv1 := [(0, .ref a0), (1, g_n v1), (2, g_n v2), (3, g_n v3), (4, g_n (v4 + 1))]) rfl ?_
      exact h
theorem s_X12_compares_102 {d : Nat} {M : g_M} {Q : Int → g_M → Prop} {a0 : Nat} {v1 : Int} (hv1 : g_InR v1) {v2 : Int} (hv2 : g_InR v2) {v3 : Int} (hv3 : g_InR v3) {v4 : Int} (hv4 : g_InR v4) {v5 : Int} (hv5 : g_InR v5) {v6 : Int} (hv6 : g_InR v6) (h : g_ok M → g_O M a0 12 ∧ g_Call d 233 [.ref a0, g_n v5] M (g_qI fun r5 M2 => g_ext M M2 → g_ok M2 → g_InR r5 → g_Call d 238 [.ref a0, g_n r5] M2 (g_qI fun r10 M7 => g_ext M2 M7 → g_ok M7 → g_InR r10 → ((v6 < r10 → g_Call d 301 [.ref a0, g_n v6, g_n v1] M7 (g_qI fun r16 M13 => g_ext M7 M13 → g_ok M13 → g_InR r16 → ((r16 = 0 → g_Call d 235 [.ref a0, g_n v6] M13 (g_qI fun r21 M18 => g_ext M13 M18 → g_ok M18 → g_InR r21 → g_Run d 300 102 [(0, .ref a0), (1, g_n v1), (2, g_n v2), (3, g_n v3), (4, g_n v4), (5, g_n v5), (6, g_n r21)] [] M18 (g_qI Q))) ∧ (¬ r16 = 0 → Q 1 M13)))) ∧ (¬ v6 < r10 → g_InR (v4 + 1) ∧ g_Run d 300 44 [(0, .ref a0), (1, g_n v1), (2, g_n v2), (3, g_n v3), (4, g_n (v4 + 1))] [] M7 (g_qI Q)))))) : g_Run d 300 102 [(0, .ref a0), (1, g_n v1), (2, g_n v2), (3, g_n v3), (4, g_n v4), (5, g_n v5), (6, g_n v6)] [] M (g_qI Q) := by
  refine g_Run.ok fun hok => ?_
  replace h := h hok
  refine r_iload x_300_102 rfl ?_
  refine r_aload_n x_300_104 rfl ?_
  refine r_aload_n x_300_105 rfl ?_
  refine r_iload x_300_106 rfl ?_
  obtain ⟨hO1, h⟩ := h
  refine r_invV x_300_108 (z := 233) (ns := 0) (by decide +kernel) (as := [g_n v5]) (r := [.ref a0, g_n v6]) rfl rfl rfl hO1 rfl rfl ?_
  refine r_callI h fun r5 M2 hx3 hok4 hr6 h => ?_
  replace h := h hx3 hok4 hr6
  replace hO1 := hO1.up hx3
  refine r_invV x_300_111 (z := 238) (ns := 0) (by decide +kernel) (as := [g_n r5]) (r := [g_n v6]) rfl rfl rfl hO1 rfl rfl ?_
  refine r_callI h fun r10 M7 hx8 hok9 hr11 h => ?_
  replace h := h hx8 hok9 hr11
  replace hO1 := hO1.up hx8
  refine r_ic_ge x_300_114 (t := 140) (by decide +kernel) hv6 hr11 (fun hc => ?_) (fun hc => ?_)
  · replace h := h.2 hc
    obtain ⟨h12, h⟩ := h
    refine r_iinc x_300_140 (by decide +kernel) rfl rfl (lv1 := [(0, .ref a0), (1, g_n v1), (2, g_n v2), (3, g_n v3), (4, g_n (v4 + 1)), (5, g_n v5), (6, g_n v6)]) rfl ?_
    refine r_goto x_300_143 (t := 44) (by decide +kernel) ?_
    refine g_drop [0, 1, 2, 3, 4] (lv1 := [(0, .ref a0), (1, g_n v1), (2, g_n v2), (3, g_n v3), (4, g_n (v4 + 1))]) rfl ?_
    exact h
  · replace h := h.1 hc
    refine r_aload_n x_300_117 rfl ?_
    refine r_iload x_300_118 rfl ?_
    refine r_iload_n x_300_120 rfl ?_
    refine r_invV x_300_121 (z := 301) (ns := 0) (by decide +kernel) (as := [g_n v6, g_n v1]) (r := []) rfl rfl rfl hO1 rfl rfl ?_
    refine r_callI h fun r16 M13 hx14 hok15 hr17 h => ?_
    replace h := h hx14 hok15 hr17
    replace hO1 := hO1.up hx14
    refine r_if_eq x_300_124 (t := 129) (by decide +kernel) hr17 (fun hc => ?_) (fun hc => ?_)
    · replace h := h.1 hc
      refine r_aload_n x_300_129 rfl ?_
      refine r_iload x_300_130 rfl ?_
      refine r_invV x_300_132 (z := 235) (ns := 0) (by decide +kernel) (as := [g_n v6]) (r := []) rfl rfl rfl hO1 rfl rfl ?_
      refine r_callI h fun r21 M18 hx19 hok20 hr22 h => ?_
      replace h := h hx19 hok20 hr22
      replace hO1 := hO1.up hx19
      refine r_istore x_300_135 (by decide +kernel) rfl (lv1 := [(0, .ref a0), (1, g_n v1), (2, g_n v2), (3, g_n v3), (4, g_n v4), (5, g_n v5), (6, g_n r21)]) rfl ?_
      refine r_goto x_300_137 (t := 102) (by decide +kernel) ?_
      exact h
    · replace h := h.2 hc
      refine r_iconst x_300_127 ?_
      exact r_retZ x_300_128 rfl (Or.inr rfl) h
theorem m_X12_isBeside {d : Nat} {M : g_M} {Q : Int → g_M → Prop} {a0 : Nat} {v1 : Int} (hv1 : g_InR v1) {v2 : Int} (hv2 : g_InR v2) (h : g_ok M → g_O M a0 12 ∧ g_Call d 267 [.ref a0, g_n v1] M (g_qI fun r5 M2 => g_ext M M2 → g_ok M2 → g_InR r5 → g_Call d 267 [.ref a0, g_n v2] M2 (g_qI fun r10 M7 => g_ext M2 M7 → g_ok M7 → g_InR r10 → ((r5 = r10 → g_Call d 269 [.ref a0, g_n v1, g_n v2] M7 (g_qI fun r15 M12 => g_ext M7 M12 → g_ok M12 → g_InR r15 → g_Call d 236 [.ref a0, g_n v2, .ref (4 * 101 + 1)] M12 (g_qI fun r20 M17 => g_ext M12 M17 → g_ok M17 → g_InR r20 → ((r20 = 0 → g_Call d 236 [.ref a0, g_n v2, .ref (4 * 102 + 1)] M17 (g_qI fun r25 M22 => g_ext M17 M22 → g_ok M22 → g_InR r25 → ((r25 = 0 → g_Call d 236 [.ref a0, g_n v2, .ref (4 * 103 + 1)] M22 (g_qI fun r30 M27 => g_ext M22 M27 → g_ok M27 → g_InR r30 → ((r30 = 0 → ((r15 < 0 → Q 0 M27) ∧ (¬ r15 < 0 → Q 1 M27))) ∧ (¬ r30 = 0 → ((0 < r15 → Q 1 M27) ∧ (¬ 0 < r15 → Q 0 M27)))))) ∧ (¬ r25 = 0 → ((0 < r15 → Q 0 M22) ∧ (¬ 0 < r15 → Q 1 M22)))))) ∧ (¬ r20 = 0 → ((r15 < 0 → Q 1 M17) ∧ (¬ r15 < 0 → Q 0 M17))))))) ∧ (¬ r5 = r10 → Q 0 M7))))) : g_Call (d + 1) 301 [.ref a0, g_n v1, g_n v2] M (g_qI Q) := by
  refine g_Call.ok fun hok0 => ?_
  replace h := h hok0
  refine r_body rfl (lv := [(0, .ref a0), (1, g_n v1), (2, g_n v2)]) rfl ?_
  refine g_Run.ok fun hok => ?_
  refine r_aload_n x_301_0 rfl ?_
  refine r_iload_n x_301_1 rfl ?_
  obtain ⟨hO1, h⟩ := h
  refine r_invV x_301_2 (z := 267) (ns := 0) (by decide +kernel) (as := [g_n v1]) (r := []) rfl rfl rfl hO1 rfl rfl ?_
  refine r_callI h fun r5 M2 hx3 hok4 hr6 h => ?_
  replace h := h hx3 hok4 hr6
  replace hO1 := hO1.up hx3
  refine r_aload_n x_301_5 rfl ?_
  refine r_iload_n x_301_6 rfl ?_
  refine r_invV x_301_7 (z := 267) (ns := 0) (by decide +kernel) (as := [g_n v2]) (r := [g_n r5]) rfl rfl rfl hO1 rfl rfl ?_
  refine r_callI h fun r10 M7 hx8 hok9 hr11 h => ?_
  replace h := h hx8 hok9 hr11
  replace hO1 := hO1.up hx8
  refine r_ic_eq x_301_10 (t := 15) (by decide +kernel) hr6 hr11 (fun hc => ?_) (fun hc => ?_)
  · replace h := h.1 hc
    refine r_aload_n x_301_15 rfl ?_
    refine r_iload_n x_301_16 rfl ?_
    refine r_iload_n x_301_17 rfl ?_
    refine r_invV x_301_18 (z := 269) (ns := 0) (by decide +kernel) (as := [g_n v1, g_n v2]) (r := []) rfl rfl rfl hO1 rfl rfl ?_
    refine r_callI h fun r15 M12 hx13 hok14 hr16 h => ?_
    replace h := h hx13 hok14 hr16
    replace hO1 := hO1.up hx13
    refine r_istore_n x_301_21 (by decide +kernel) rfl (lv1 := [(0, .ref a0), (1, g_n v1), (2, g_n v2), (3, g_n r15)]) rfl ?_
    refine r_aload_n x_301_22 rfl ?_
    refine r_iload_n x_301_23 rfl ?_
    refine r_ldcw x_301_24 (v := .ref (4 * 101 + 1)) rfl ?_
    refine r_invV x_301_27 (z := 236) (ns := 0) (by decide +kernel) (as := [g_n v2, .ref (4 * 101 + 1)]) (r := []) rfl rfl rfl hO1 rfl rfl ?_
    refine r_callI h fun r20 M17 hx18 hok19 hr21 h => ?_
    replace h := h hx18 hok19 hr21
    replace hO1 := hO1.up hx18
    refine r_if_eq x_301_30 (t := 45) (by decide +kernel) hr21 (fun hc => ?_) (fun hc => ?_)
    · replace h := h.1 hc
      refine r_aload_n x_301_45 rfl ?_
      refine r_iload_n x_301_46 rfl ?_
      refine r_ldcw x_301_47 (v := .ref (4 * 102 + 1)) rfl ?_
      refine r_invV x_301_50 (z := 236) (ns := 0) (by decide +kernel) (as := [g_n v2, .ref (4 * 102 + 1)]) (r := []) rfl rfl rfl hO1 rfl rfl ?_
      refine r_callI h fun r25 M22 hx23 hok24 hr26 h => ?_
      replace h := h hx23 hok24 hr26
      replace hO1 := hO1.up hx23
      refine r_if_eq x_301_53 (t := 68) (by decide +kernel) hr26 (fun hc => ?_) (fun hc => ?_)
      · replace h := h.1 hc
        refine r_aload_n x_301_68 rfl ?_
        refine r_iload_n x_301_69 rfl ?_
        refine r_ldcw x_301_70 (v := .ref (4 * 103 + 1)) rfl ?_
        refine r_invV x_301_73 (z := 236) (ns := 0) (by decide +kernel) (as := [g_n v2, .ref (4 * 103 + 1)]) (r := []) rfl rfl rfl hO1 rfl rfl ?_
        refine r_callI h fun r30 M27 hx28 hok29 hr31 h => ?_
        replace h := h hx28 hok29 hr31
        replace hO1 := hO1.up hx28
        refine r_if_eq x_301_76 (t := 91) (by decide +kernel) hr31 (fun hc => ?_) (fun hc => ?_)
        · replace h := h.1 hc
          refine r_iload_n x_301_91 rfl ?_
          refine r_if_lt x_301_92 (t := 99) (by decide +kernel) hr16 (fun hc => ?_) (fun hc => ?_)
          · replace h := h.1 hc
            refine r_iconst x_301_99 ?_
            exact r_retZ x_301_100 rfl (Or.inl rfl) h
          · replace h := h.2 hc
            refine r_iconst x_301_95 ?_
            refine r_goto x_301_96 (t := 100) (by decide +kernel) ?_
            exact r_retZ x_301_100 rfl (Or.inr rfl) h
        · replace h := h.2 hc
          refine r_iload_n x_301_79 rfl ?_
          refine r_if_le x_301_80 (t := 87) (by decide +kernel) hr16 (fun hc => ?_) (fun hc => ?_)
          · replace h := h.2 hc
            refine r_iconst x_301_87 ?_
            refine r_goto x_301_88 (t := 100) (by decide +kernel) ?_
            exact r_retZ x_301_100 rfl (Or.inl rfl) h
          · replace h := h.1 hc
            refine r_iconst x_301_83 ?_
            refine r_goto x_301_84 (t := 100) (by decide +kernel) ?_
            exact r_retZ x_301_100 rfl (Or.inr rfl) h
      · replace h := h.2 hc
        refine r_iload_n x_301_56 rfl ?_
        refine r_if_gt x_301_57 (t := 64) (by decide +kernel) hr16 (fun hc => ?_) (fun hc => ?_)
        · replace h := h.1 hc
          refine r_iconst x_301_64 ?_
          refine r_goto x_301_65 (t := 100) (by decide +kernel) ?_
          exact r_retZ x_301_100 rfl (Or.inl rfl) h
        · replace h := h.2 hc
          refine r_iconst x_301_60 ?_
          refine r_goto x_301_61 (t := 100) (by decide +kernel) ?_
          exact r_retZ x_301_100 rfl (Or.inr rfl) h
    · replace h := h.2 hc
      refine r_iload_n x_301_33 rfl ?_
      refine r_if_ge x_301_34 (t := 41) (by decide +kernel) hr16 (fun hc => ?_) (fun hc => ?_)
      · replace h := h.2 hc
        refine r_iconst x_301_41 ?_
        refine r_goto x_301_42 (t := 100) (by decide +kernel) ?_
        exact r_retZ x_301_100 rfl (Or.inl rfl) h
      · replace h := h.1 hc
        refine r_iconst x_301_37 ?_
        refine r_goto x_301_38 (t := 100) (by decide +kernel) ?_
        exact r_retZ x_301_100 rfl (Or.inr rfl) h
  · replace h := h.2 hc
    refine r_iconst x_301_13 ?_
    exact r_retZ x_301_14 rfl (Or.inl rfl) h
theorem m_X12_isOperator {d : Nat} {M : g_M} {Q : Int → g_M → Prop} {a0 : Nat} {v1 : Int} (hv1 : g_InR v1) (h : g_ok M → g_O M a0 12 ∧ g_Call d 236 [.ref a0, g_n v1, .ref (4 * 134 + 1)] M (g_qI fun r5 M2 => g_ext M M2 → g_ok M2 → g_InR r5 → ((r5 = 0 → g_Call d 236 [.ref a0, g_n v1, .ref (4 * 135 + 1)] M2 (g_qI fun r10 M7 => g_ext M2 M7 → g_ok M7 → g_InR r10 → ((r10 = 0 → g_Call d 236 [.ref a0, g_n v1, .ref (4 * 136 + 1)] M7 (g_qI fun r15 M12 => g_ext M7 M12 → g_ok M12 → g_InR r15 → ((r15 = 0 → g_Call d 236 [.ref a0, g_n v1, .ref (4 * 118 + 1)] M12 (g_qI fun r20 M17 => g_ext M12 M17 → g_ok M17 → g_InR r20 → ((r20 = 0 → g_Call d 236 [.ref a0, g_n v1, .ref (4 * 137 + 1)] M17 (g_qI fun r25 M22 => g_ext M17 M22 → g_ok M22 → g_InR r25 → ((r25 = 0 → g_Call d 236 [.ref a0, g_n v1, .ref (4 * 119 + 1)] M22 (g_qI fun r30 M27 => g_ext M22 M27 → g_ok M27 → g_InR r30 → ((r30 = 0 → Q 0 M27) ∧ (¬ r30 = 0 → Q 1 M27)))) ∧ (¬ r25 = 0 → Q 1 M22)))) ∧ (¬ r20 = 0 → Q 1 M17)))) ∧ (¬ r15 = 0 → Q 1 M12)))) ∧ (¬ r10 = 0 → Q 1 M7)))) ∧ (¬ r5 = 0 → Q 1 M2)))) : g_Call (d + 1) 302 [.ref a0, g_n v1] M (g_qI Q) := by
  refine g_Call.ok fun hok0 => ?_
  replace h := h hok0
  refine r_body rfl (lv := [(0, .ref a0), (1, g_n v1)]) rfl ?_
  refine g_Run.ok fun hok => ?_
  refine r_aload_n x_302_0 rfl ?_
  refine r_iload_n x_302_1 rfl ?_
  refine r_ldcw x_302_2 (v := .ref (4 * 134 + 1)) rfl ?_
  obtain ⟨hO1, h⟩ := h
  refine r_invV x_302_5 (z := 236) (ns := 0) (by decide +kernel) (as := [g_n v1, .ref (4 * 134 + 1)]) (r := []) rfl rfl rfl hO1 rfl rfl ?_
  refine r_callI h fun r5 M2 hx3 hok4 hr6 h => ?_
  replace h := h hx3 hok4 hr6
  replace hO1 := hO1.up hx3
  refine r_if_ne x_302_8 (t := 66) (by decide +kernel) hr6 (fun hc => ?_) (fun hc => ?_)
  · replace h := h.2 hc
    refine r_iconst x_302_66 ?_
    refine r_goto x_302_67 (t := 71) (by decide +kernel) ?_
    exact r_retZ x_302_71 rfl (Or.inr rfl) h
  · replace h := h.1 hc
    refine r_aload_n x_302_11 rfl ?_
    refine r_iload_n x_302_12 rfl ?_
    refine r_ldcw x_302_13 (v := .ref (4 * 135 + 1)) rfl ?_
    refine r_invV x_302_16 (z := 236) (ns := 0) (by decide +kernel) (as := [g_n v1, .ref (4 * 135 + 1)]) (r := []) rfl rfl rfl hO1 rfl rfl ?_
    refine r_callI h fun r10 M7 hx8 hok9 hr11 h => ?_
    replace h := h hx8 hok9 hr11
    replace hO1 := hO1.up hx8
    refine r_if_ne x_302_19 (t := 66) (by decide +kernel) hr11 (fun hc => ?_) (fun hc => ?_)
    · replace h := h.2 hc
      refine r_iconst x_302_66 ?_
      refine r_goto x_302_67 (t := 71) (by decide +kernel) ?_
      exact r_retZ x_302_71 rfl (Or.inr rfl) h
    · replace h := h.1 hc
      refine r_aload_n x_302_22 rfl ?_
      refine r_iload_n x_302_23 rfl ?_
      refine r_ldcw x_302_24 (v := .ref (4 * 136 + 1)) rfl ?_
      refine r_invV x_302_27 (z := 236) (ns := 0) (by decide +kernel) (as := [g_n v1, .ref (4 * 136 + 1)]) (r := []) rfl rfl rfl hO1 rfl rfl ?_
      refine r_callI h fun r15 M12 hx13 hok14 hr16 h => ?_
      replace h := h hx13 hok14 hr16
      replace hO1 := hO1.up hx13
      refine r_if_ne x_302_30 (t := 66) (by decide +kernel) hr16 (fun hc => ?_) (fun hc => ?_)
      · replace h := h.2 hc
        refine r_iconst x_302_66 ?_
        refine r_goto x_302_67 (t := 71) (by decide +kernel) ?_
        exact r_retZ x_302_71 rfl (Or.inr rfl) h
      · replace h := h.1 hc
        refine r_aload_n x_302_33 rfl ?_
        refine r_iload_n x_302_34 rfl ?_
        refine r_ldcw x_302_35 (v := .ref (4 * 118 + 1)) rfl ?_
        refine r_invV x_302_38 (z := 236) (ns := 0) (by decide +kernel) (as := [g_n v1, .ref (4 * 118 + 1)]) (r := []) rfl rfl rfl hO1 rfl rfl ?_
        refine r_callI h fun r20 M17 hx18 hok19 hr21 h => ?_
        replace h := h hx18 hok19 hr21
        replace hO1 := hO1.up hx18
        refine r_if_ne x_302_41 (t := 66) (by decide +kernel) hr21 (fun hc => ?_) (fun hc => ?_)
        · replace h := h.2 hc
          refine r_iconst x_302_66 ?_
          refine r_goto x_302_67 (t := 71) (by decide +kernel) ?_
          exact r_retZ x_302_71 rfl (Or.inr rfl) h
        · replace h := h.1 hc
          refine r_aload_n x_302_44 rfl ?_
          refine r_iload_n x_302_45 rfl ?_
          refine r_ldcw x_302_46 (v := .ref (4 * 137 + 1)) rfl ?_
          refine r_invV x_302_49 (z := 236) (ns := 0) (by decide +kernel) (as := [g_n v1, .ref (4 * 137 + 1)]) (r := []) rfl rfl rfl hO1 rfl rfl ?_
          refine r_callI h fun r25 M22 hx23 hok24 hr26 h => ?_
          replace h := h hx23 hok24 hr26
          replace hO1 := hO1.up hx23
          refine r_if_ne x_302_52 (t := 66) (by decide +kernel) hr26 (fun hc => ?_) (fun hc => ?_)
          · replace h := h.2 hc
            refine r_iconst x_302_66 ?_
            refine r_goto x_302_67 (t := 71) (by decide +kernel) ?_
            exact r_retZ x_302_71 rfl (Or.inr rfl) h
          · replace h := h.1 hc
            refine r_aload_n x_302_55 rfl ?_
            refine r_iload_n x_302_56 rfl ?_
            refine r_ldcw x_302_57 (v := .ref (4 * 119 + 1)) rfl ?_
            refine r_invV x_302_60 (z := 236) (ns := 0) (by decide +kernel) (as := [g_n v1, .ref (4 * 119 + 1)]) (r := []) rfl rfl rfl hO1 rfl rfl ?_
            refine r_callI h fun r30 M27 hx28 hok29 hr31 h => ?_
            replace h := h hx28 hok29 hr31
            replace hO1 := hO1.up hx28
            refine r_if_eq x_302_63 (t := 70) (by decide +kernel) hr31 (fun hc => ?_) (fun hc => ?_)
            · replace h := h.1 hc
              refine r_iconst x_302_70 ?_
              exact r_retZ x_302_71 rfl (Or.inl rfl) h
            · replace h := h.2 hc
              refine r_iconst x_302_66 ?_
              refine r_goto x_302_67 (t := 71) (by decide +kernel) ?_
              exact r_retZ x_302_71 rfl (Or.inr rfl) h
theorem m_X12_areAlong {d : Nat} {M : g_M} {Q : Int → g_M → Prop} {a0 : Nat} {v1 : Int} (hv1 : g_InR v1) {v2 : Int} (hv2 : g_InR v2) (h : g_ok M → g_O M a0 12 ∧ g_Call d 232 [.ref a0, g_n v1] M (g_qI fun r5 M2 => g_ext M M2 → g_ok M2 → g_InR r5 → g_InR (r5 - v1) ∧ g_InR ((r5 - v1) - 1) ∧ g_Call d 232 [.ref a0, g_n v2] M2 (g_qI fun r12 M9 => g_ext M2 M9 → g_ok M9 → g_InR r12 → g_InR (r12 - v2) ∧ g_InR ((r12 - v2) - 1) ∧ (((r5 - v1) - 1 < (r12 - v2) - 1 → g_Run d 303 38 [(0, .ref a0), (1, g_n v1), (2, g_n v2), (3, g_n ((r5 - v1) - 1)), (4, g_n ((r12 - v2) - 1)), (5, g_n ((r5 - v1) - 1)), (6, g_n 0)] [] M9 (g_qI Q)) ∧ (¬ (r5 - v1) - 1 < (r12 - v2) - 1 → g_Run d 303 38 [(0, .ref a0), (1, g_n v1), (2, g_n v2), (3, g_n ((r5 - v1) - 1)), (4, g_n ((r12 - v2) - 1)), (5, g_n ((r12 - v2) - 1)), (6, g_n 0)] [] M9 (g_qI Q)))))) : g_Call (d + 1) 303 [.ref a0, g_n v1, g_n v2] M (g_qI Q) := by
  refine g_Call.ok fun hok0 => ?_
  replace h := h hok0
  refine r_body rfl (lv := [(0, .ref a0), (1, g_n v1), (2, g_n v2)]) rfl ?_
  refine g_Run.ok fun hok => ?_
  refine r_aload_n x_303_0 rfl ?_
  refine r_iload_n x_303_1 rfl ?_
  obtain ⟨hO1, h⟩ := h
  refine r_invV x_303_2 (z := 232) (ns := 0) (by decide +kernel) (as := [g_n v1]) (r := []) rfl rfl rfl hO1 rfl rfl ?_
  refine r_callI h fun r5 M2 hx3 hok4 hr6 h => ?_
  replace h := h hx3 hok4 hr6
  replace hO1 := hO1.up hx3
  refine r_iload_n x_303_5 rfl ?_
  refine r_isub x_303_6 ?_
  obtain ⟨h7, h⟩ := h
  refine r_iconst x_303_7 ?_
  refine r_isub x_303_8 ?_
  obtain ⟨h8, h⟩ := h
  refine r_istore_n x_303_9 (by decide +kernel) rfl (lv1 := [(0, .ref a0), (1, g_n v1), (2, g_n v2), (3, g_n ((r5 - v1) - 1))]) rfl ?_
  refine r_aload_n x_303_10 rfl ?_
  refine r_iload_n x_303_11 rfl ?_
  refine r_invV x_303_12 (z := 232) (ns := 0) (by decide +kernel) (as := [g_n v2]) (r := []) rfl rfl rfl hO1 rfl rfl ?_
  refine r_callI h fun r12 M9 hx10 hok11 hr13 h => ?_
  replace h := h hx10 hok11 hr13
  replace hO1 := hO1.up hx10
  refine r_iload_n x_303_15 rfl ?_
  refine r_isub x_303_16 ?_
  obtain ⟨h14, h⟩ := h
  refine r_iconst x_303_17 ?_
  refine r_isub x_303_18 ?_
  obtain ⟨h15, h⟩ := h
  refine r_istore x_303_19 (by decide +kernel) rfl (lv1 := [(0, .ref a0), (1, g_n v1), (2, g_n v2), (3, g_n ((r5 - v1) - 1)), (4, g_n ((r12 - v2) - 1))]) rfl ?_
  refine r_iload_n x_303_21 rfl ?_
  refine r_iload x_303_22 rfl ?_
  refine r_ic_ge x_303_24 (t := 31) (by decide +kernel) h8 h15 (fun hc => ?_) (fun hc => ?_)
  · replace h := h.2 hc
    refine r_iload x_303_31 rfl ?_
    refine r_istore x_303_33 (by decide +kernel) rfl (lv1 := [(0, .ref a0), (1, g_n v1), (2, g_n v2), (3, g_n ((r5 - v1) - 1)), (4, g_n ((r12 - v2) - 1)), (5, g_n ((r12 - v2) - 1))]) rfl ?_
    refine r_iconst x_303_35 ?_
    refine r_istore x_303_36 (by decide +kernel) rfl (lv1 := [(0, .ref a0), (1, g_n v1), (2, g_n v2), (3, g_n ((r5 - v1) - 1)), (4, g_n ((r12 - v2) - 1)), (5, g_n ((r12 - v2) - 1)), (6, g_n 0)]) rfl ?_
    exact h
  · replace h := h.1 hc
    refine r_iload_n x_303_27 rfl ?_
    refine r_goto x_303_28 (t := 33) (by decide +kernel) ?_
    refine r_istore x_303_33 (by decide +kernel) rfl (lv1 := [(0, .ref a0), (1, g_n v1), (2, g_n v2), (3, g_n ((r5 - v1) - 1)), (4, g_n ((r12 - v2) - 1)), (5, g_n ((r5 - v1) - 1))]) rfl ?_
    refine r_iconst x_303_35 ?_
    refine r_istore x_303_36 (by decide +kernel) rfl (lv1 := [(0, .ref a0), (1, g_n v1), (2, g_n v2), (3, g_n ((r5 - v1) - 1)), (4, g_n ((r12 - v2) - 1)), (5, g_n ((r5 - v1) - 1)), (6, g_n 0)]) rfl ?_
    exact h
theorem s_X12_areAlong_38 {d : Nat} {M : g_M} {Q : Int → g_M → Prop} {a0 : Nat} {v1 : Int} (hv1 : g_InR v1) {v2 : Int} (hv2 : g_InR v2) {v3 : Int} (hv3 : g_InR v3) {v4 : Int} (hv4 : g_InR v4) {v5 : Int} (hv5 : g_InR v5) {v6 : Int} (hv6 : g_InR v6) (h : g_ok M → ((v6 < v5 → g_O M a0 12 ∧ ∃ b18, g_r M a0 0 = some b18 ∧ g_InR (v1 + 1) ∧ g_InR ((v1 + 1) + v6) ∧ ∃ n22, g_A M b18 0 n22 ∧ ((0 : Int) ≤ (v1 + 1) + v6 ∧ ((v1 + 1) + v6 : Int) < n22) ∧ ∃ b25, g_r M a0 0 = some b25 ∧ g_InR (v2 + 1) ∧ g_InR ((v2 + 1) + v6) ∧ ∃ n29, g_A M b25 0 n29 ∧ ((0 : Int) ≤ (v2 + 1) + v6 ∧ ((v2 + 1) + v6 : Int) < n29) ∧ ((g_i M b18 ((v1 + 1) + v6) = g_i M b25 ((v2 + 1) + v6) → g_InR (v6 + 1) ∧ g_Run d 303 38 [(0, .ref a0), (1, g_n v1), (2, g_n v2), (3, g_n v3), (4, g_n v4), (5, g_n v5), (6, g_n (v6 + 1))] [] M (g_qI Q)) ∧ (¬ g_i M b18 ((v1 + 1) + v6) = g_i M b25 ((v2 + 1) + v6) → Q 0 M))) ∧ (¬ v6 < v5 → ((v3 = v4 → Q 1 M) ∧ (¬ v3 = v4 → ((v3 < v4 → g_InR (v2 + 1) ∧ g_InR ((v2 + 1) + v3) ∧ g_O M a0 12 ∧ g_Call d 226 [.ref a0, g_n ((v2 + 1) + v3)] M (g_qI fun r15 M12 => g_ext M M12 → g_ok M12 → g_InR r15 → ((r15 = 46 → Q 1 M12) ∧ (¬ r15 = 46 → Q 0 M12)))) ∧ (¬ v3 < v4 → g_InR (v1 + 1) ∧ g_InR ((v1 + 1) + v4) ∧ g_O M a0 12 ∧ g_Call d 226 [.ref a0, g_n ((v1 + 1) + v4)] M (g_qI fun r7 M4 => g_ext M M4 → g_ok M4 → g_InR r7 → ((r7 = 46 → Q 1 M4) ∧ (¬ r7 = 46 → Q 0 M4)))))))))) : g_Run d 303 38 [(0, .ref a0), (1, g_n v1), (2, g_n v2), (3, g_n v3), (4, g_n v4), (5, g_n v5), (6, g_n v6)] [] M (g_qI Q) := by
  refine g_Run.ok fun hok => ?_
  replace h := h hok
  refine r_iload x_303_38 rfl ?_
  refine r_iload x_303_40 rfl ?_
  refine r_ic_ge x_303_42 (t := 78) (by decide +kernel) hv6 hv5 (fun hc => ?_) (fun hc => ?_)
  · replace h := h.2 hc
    refine r_iload_n x_303_78 rfl ?_
    refine r_iload x_303_79 rfl ?_
    refine r_ic_eq x_303_81 (t := 117) (by decide +kernel) hv3 hv4 (fun hc => ?_) (fun hc => ?_)
    · replace h := h.1 hc
      refine r_iconst x_303_117 ?_
      refine r_goto x_303_118 (t := 122) (by decide +kernel) ?_
      exact r_retZ x_303_122 rfl (Or.inr rfl) h
    · replace h := h.2 hc
      refine r_iload_n x_303_84 rfl ?_
      refine r_iload x_303_85 rfl ?_
      refine r_ic_ge x_303_87 (t := 102) (by decide +kernel) hv3 hv4 (fun hc => ?_) (fun hc => ?_)
      · replace h := h.2 hc
        refine r_aload_n x_303_102 rfl ?_
        refine r_iload_n x_303_103 rfl ?_
        refine r_iconst x_303_104 ?_
        refine r_iadd x_303_105 ?_
        obtain ⟨h1, h⟩ := h
        refine r_iload x_303_106 rfl ?_
        refine r_iadd x_303_108 ?_
        obtain ⟨h2, h⟩ := h
        obtain ⟨hO3, h⟩ := h
        refine r_invV x_303_109 (z := 226) (ns := 0) (by decide +kernel) (as := [g_n ((v1 + 1) + v4)]) (r := []) rfl rfl rfl hO3 rfl rfl ?_
        refine r_callI h fun r7 M4 hx5 hok6 hr8 h => ?_
        replace h := h hx5 hok6 hr8
        replace hO3 := hO3.up hx5
        refine r_bipush x_303_112 (x := 46) rfl ?_
        refine r_ic_ne x_303_114 (t := 121) (by decide +kernel) hr8 (g_Rk rfl) (fun hc => ?_) (fun hc => ?_)
        · replace h := h.2 hc
          refine r_iconst x_303_121 ?_
          exact r_retZ x_303_122 rfl (Or.inl rfl) h
        · replace h := h.1 hc
          refine r_iconst x_303_117 ?_
          refine r_goto x_303_118 (t := 122) (by decide +kernel) ?_
          exact r_retZ x_303_122 rfl (Or.inr rfl) h
      · replace h := h.1 hc
        refine r_aload_n x_303_90 rfl ?_
        refine r_iload_n x_303_91 rfl ?_
        refine r_iconst x_303_92 ?_
        refine r_iadd x_303_93 ?_
        obtain ⟨h9, h⟩ := h
        refine r_iload_n x_303_94 rfl ?_
        refine r_iadd x_303_95 ?_
        obtain ⟨h10, h⟩ := h
        obtain ⟨hO11, h⟩ := h
        refine r_invV x_303_96 (z := 226) (ns := 0) (by decide +kernel) (as := [g_n ((v2 + 1) + v3)]) (r := []) rfl rfl rfl hO11 rfl rfl ?_
        refine r_callI h fun r15 M12 hx13 hok14 hr16 h => ?_
        replace h := h hx13 hok14 hr16
        replace hO11 := hO11.up hx13
        refine r_goto x_303_99 (t := 112) (by decide +kernel) ?_
        refine r_bipush x_303_112 (x := 46) rfl ?_
        refine r_ic_ne x_303_114 (t := 121) (by decide +kernel) hr16 (g_Rk rfl) (fun hc => ?_) (fun hc => ?_)
        · replace h := h.2 hc
          refine r_iconst x_303_121 ?_
          exact r_retZ x_303_122 rfl (Or.inl rfl) h
        · replace h := h.1 hc
          refine r_iconst x_303_117 ?_
          refine r_goto x_303_118 (t := 122) (by decide +kernel) ?_
          exact r_retZ x_303_122 rfl (Or.inr rfl) h
  · replace h := h.1 hc
    refine r_aload_n x_303_45 rfl ?_
    obtain ⟨hO17, h⟩ := h
    obtain ⟨b18, hb19, h⟩ := h
    refine r_getR x_303_46 rfl (ci := 12) (k := 0) (ns := 0) (by decide +kernel) (by decide) rfl (kz := 0) rfl hO17 hb19 ?_
    refine r_iload_n x_303_49 rfl ?_
    refine r_iconst x_303_50 ?_
    refine r_iadd x_303_51 ?_
    obtain ⟨h20, h⟩ := h
    refine r_iload x_303_52 rfl ?_
    refine r_iadd x_303_54 ?_
    obtain ⟨h21, h⟩ := h
    obtain ⟨n22, hA23, h⟩ := h
    obtain ⟨h24, h⟩ := h
    refine r_bald x_303_55 (Or.inl rfl) hA23 h21 h24.1 h24.2 ?_
    refine r_aload_n x_303_56 rfl ?_
    obtain ⟨b25, hb26, h⟩ := h
    refine r_getR x_303_57 rfl (ci := 12) (k := 0) (ns := 0) (by decide +kernel) (by decide) rfl (kz := 0) rfl hO17 hb26 ?_
    refine r_iload_n x_303_60 rfl ?_
    refine r_iconst x_303_61 ?_
    refine r_iadd x_303_62 ?_
    obtain ⟨h27, h⟩ := h
    refine r_iload x_303_63 rfl ?_
    refine r_iadd x_303_65 ?_
    obtain ⟨h28, h⟩ := h
    obtain ⟨n29, hA30, h⟩ := h
    obtain ⟨h31, h⟩ := h
    refine r_bald x_303_66 (Or.inl rfl) hA30 h28 h31.1 h31.2 ?_
    refine r_ic_eq x_303_67 (t := 72) (by decide +kernel) (hok.1 _ _) (hok.1 _ _) (fun hc => ?_) (fun hc => ?_)
    · replace h := h.1 hc
      obtain ⟨h32, h⟩ := h
      refine r_iinc x_303_72 (by decide +kernel) rfl rfl (lv1 := [(0, .ref a0), (1, g_n v1), (2, g_n v2), (3, g_n v3), (4, g_n v4), (5, g_n v5), (6, g_n (v6 + 1))]) rfl ?_
      refine r_goto x_303_75 (t := 38) (by decide +kernel) ?_
      exact h
    · replace h := h.2 hc
      refine r_iconst x_303_70 ?_
      exact r_retZ x_303_71 rfl (Or.inl rfl) h
theorem m_X12_isTaken {d : Nat} {M : g_M} {Q : Int → g_M → Prop} {a0 : Nat} {v1 : Int} (hv1 : g_InR v1) {v2 : Int} (hv2 : g_InR v2) (h : g_ok M → g_Call d 237 [g_n v1] M (g_qI fun r4 M1 => g_ext M M1 → g_ok M1 → g_InR r4 → g_Run d 304 5 [(0, .ref a0), (1, g_n v1), (2, g_n v2), (3, g_n r4)] [] M1 (g_qI Q))) : g_Call (d + 1) 304 [.ref a0, g_n v1, g_n v2] M (g_qI Q) := by
  refine g_Call.ok fun hok0 => ?_
  replace h := h hok0
  refine r_body rfl (lv := [(0, .ref a0), (1, g_n v1), (2, g_n v2)]) rfl ?_
  refine g_Run.ok fun hok => ?_
  refine r_iload_n x_304_0 rfl ?_
  refine r_invS x_304_1 (z := 237) (ns := 0) (by decide +kernel) (as := [g_n v1]) (r := []) rfl rfl rfl ?_
  refine r_callI h fun r4 M1 hx2 hok3 hr5 h => ?_
  replace h := h hx2 hok3 hr5
  refine r_istore_n x_304_4 (by decide +kernel) rfl (lv1 := [(0, .ref a0), (1, g_n v1), (2, g_n v2), (3, g_n r4)]) rfl ?_
  exact h
theorem s_X12_isTaken_5 {d : Nat} {M : g_M} {Q : Int → g_M → Prop} {a0 : Nat} {v1 : Int} (hv1 : g_InR v1) {v2 : Int} (hv2 : g_InR v2) {v3 : Int} (hv3 : g_InR v3) (h : g_ok M → g_O M a0 12 ∧ g_Call d 238 [.ref a0, g_n v1] M (g_qI fun r5 M2 => g_ext M M2 → g_ok M2 → g_InR r5 → ((v3 < r5 → ((v3 < v2 → g_Call d 233 [.ref a0, g_n v3] M2 (g_qI fun r10 M7 => g_ext M2 M7 → g_ok M7 → g_InR r10 → g_Call d 237 [g_n r10] M7 (g_qI fun r15 M12 => g_ext M7 M12 → g_ok M12 → g_InR r15 → g_Run d 304 29 [(0, .ref a0), (1, g_n v1), (2, g_n v2), (3, g_n v3), (4, g_n r15)] [] M12 (g_qI Q)))) ∧ (¬ v3 < v2 → Q 0 M2))) ∧ (¬ v3 < r5 → Q 0 M2)))) : g_Run d 304 5 [(0, .ref a0), (1, g_n v1), (2, g_n v2), (3, g_n v3)] [] M (g_qI Q) := by
  refine g_Run.ok fun hok => ?_
  replace h := h hok
  refine r_iload_n x_304_5 rfl ?_
  refine r_aload_n x_304_6 rfl ?_
  refine r_iload_n x_304_7 rfl ?_
  obtain ⟨hO1, h⟩ := h
  refine r_invV x_304_8 (z := 238) (ns := 0) (by decide +kernel) (as := [g_n v1]) (r := [g_n v3]) rfl rfl rfl hO1 rfl rfl ?_
  refine r_callI h fun r5 M2 hx3 hok4 hr6 h => ?_
  replace h := h hx3 hok4 hr6
  replace hO1 := hO1.up hx3
  refine r_ic_ge x_304_11 (t := 81) (by decide +kernel) hv3 hr6 (fun hc => ?_) (fun hc => ?_)
  · replace h := h.2 hc
    refine r_iconst x_304_81 ?_
    exact r_retZ x_304_82 rfl (Or.inl rfl) h
  · replace h := h.1 hc
    refine r_iload_n x_304_14 rfl ?_
    refine r_iload_n x_304_15 rfl ?_
    refine r_ic_ge x_304_16 (t := 81) (by decide +kernel) hv3 hv2 (fun hc => ?_) (fun hc => ?_)
    · replace h := h.2 hc
      refine r_iconst x_304_81 ?_
      exact r_retZ x_304_82 rfl (Or.inl rfl) h
    · replace h := h.1 hc
      refine r_aload_n x_304_19 rfl ?_
      refine r_iload_n x_304_20 rfl ?_
      refine r_invV x_304_21 (z := 233) (ns := 0) (by decide +kernel) (as := [g_n v3]) (r := []) rfl rfl rfl hO1 rfl rfl ?_
      refine r_callI h fun r10 M7 hx8 hok9 hr11 h => ?_
      replace h := h hx8 hok9 hr11
      replace hO1 := hO1.up hx8
      refine r_invS x_304_24 (z := 237) (ns := 0) (by decide +kernel) (as := [g_n r10]) (r := []) rfl rfl rfl ?_
      refine r_callI h fun r15 M12 hx13 hok14 hr16 h => ?_
      replace h := h hx13 hok14 hr16
      replace hO1 := hO1.up hx13
      refine r_istore x_304_27 (by decide +kernel) rfl (lv1 := [(0, .ref a0), (1, g_n v1), (2, g_n v2), (3, g_n v3), (4, g_n r15)]) rfl ?_
      exact h
theorem s_X12_isTaken_29 {d : Nat} {M : g_M} {Q : Int → g_M → Prop} {a0 : Nat} {v1 : Int} (hv1 : g_InR v1) {v2 : Int} (hv2 : g_InR v2) {v3 : Int} (hv3 : g_InR v3) {v4 : Int} (hv4 : g_InR v4) (h : g_ok M → g_O M a0 12 ∧ g_Call d 233 [.ref a0, g_n v3] M (g_qI fun r5 M2 => g_ext M M2 → g_ok M2 → g_InR r5 → g_Call d 238 [.ref a0, g_n r5] M2 (g_qI fun r10 M7 => g_ext M2 M7 → g_ok M7 → g_InR r10 → ((v4 < r10 → ((v4 < v2 → g_Call d 303 [.ref a0, g_n v4, g_n v2] M7 (g_qI fun r25 M22 => g_ext M7 M22 → g_ok M22 → g_InR r25 → ((r25 = 0 → g_Call d 235 [.ref a0, g_n v4] M22 (g_qI fun r30 M27 => g_ext M22 M27 → g_ok M27 → g_InR r30 → g_Run d 304 29 [(0, .ref a0), (1, g_n v1), (2, g_n v2), (3, g_n v3), (4, g_n r30)] [] M27 (g_qI Q))) ∧ (¬ r25 = 0 → Q 1 M22)))) ∧ (¬ v4 < v2 → g_Call d 235 [.ref a0, g_n v3] M7 (g_qI fun r20 M17 => g_ext M7 M17 → g_ok M17 → g_InR r20 → g_Run d 304 5 [(0, .ref a0), (1, g_n v1), (2, g_n v2), (3, g_n r20)] [] M17 (g_qI Q))))) ∧ (¬ v4 < r10 → g_Call d 235 [.ref a0, g_n v3] M7 (g_qI fun r15 M12 => g_ext M7 M12 → g_ok M12 → g_InR r15 → g_Run d 304 5 [(0, .ref a0), (1, g_n v1), (2, g_n v2), (3, g_n r15)] [] M12 (g_qI Q))))))) : g_Run d 304 29 [(0, .ref a0), (1, g_n v1), (2, g_n v2), (3, g_n v3), (4, g_n v4)] [] M (g_qI Q) := by
  refine g_Run.ok fun hok => ?_
  replace h := h hok
  refine r_iload x_304_29 rfl ?_
  refine r_aload_n x_304_31 rfl ?_
  refine r_aload_n x_304_32 rfl ?_
  refine r_iload_n x_304_33 rfl ?_
  obtain ⟨hO1, h⟩ := h
  refine r_invV x_304_34 (z := 233) (ns := 0) (by decide +kernel) (as := [g_n v3]) (r := [.ref a0, g_n v4]) rfl rfl rfl hO1 rfl rfl ?_
  refine r_callI h fun r5 M2 hx3 hok4 hr6 h => ?_
  replace h := h hx3 hok4 hr6
  replace hO1 := hO1.up hx3
  refine r_invV x_304_37 (z := 238) (ns := 0) (by decide +kernel) (as := [g_n r5]) (r := [g_n v4]) rfl rfl rfl hO1 rfl rfl ?_
  refine r_callI h fun r10 M7 hx8 hok9 hr11 h => ?_
  replace h := h hx8 hok9 hr11
  replace hO1 := hO1.up hx8
  refine r_ic_ge x_304_40 (t := 72) (by decide +kernel) hv4 hr11 (fun hc => ?_) (fun hc => ?_)
  · replace h := h.2 hc
    refine r_aload_n x_304_72 rfl ?_
    refine r_iload_n x_304_73 rfl ?_
    refine r_invV x_304_74 (z := 235) (ns := 0) (by decide +kernel) (as := [g_n v3]) (r := []) rfl rfl rfl hO1 rfl rfl ?_
    refine r_callI h fun r15 M12 hx13 hok14 hr16 h => ?_
    replace h := h hx13 hok14 hr16
    replace hO1 := hO1.up hx13
    refine r_istore_n x_304_77 (by decide +kernel) rfl (lv1 := [(0, .ref a0), (1, g_n v1), (2, g_n v2), (3, g_n r15), (4, g_n v4)]) rfl ?_
    refine r_goto x_304_78 (t := 5) (by decide +kernel) ?_
    refine g_drop [0, 1, 2, 3] (lv1 := [(0, .ref a0), (1, g_n v1), (2, g_n v2), (3, g_n r15)]) rfl ?_
    exact h
  · replace h := h.1 hc
    refine r_iload x_304_43 rfl ?_
    refine r_iload_n x_304_45 rfl ?_
    refine r_ic_ge x_304_46 (t := 72) (by decide +kernel) hv4 hv2 (fun hc => ?_) (fun hc => ?_)
    · replace h := h.2 hc
      refine r_aload_n x_304_72 rfl ?_
      refine r_iload_n x_304_73 rfl ?_
      refine r_invV x_304_74 (z := 235) (ns := 0) (by decide +kernel) (as := [g_n v3]) (r := []) rfl rfl rfl hO1 rfl rfl ?_
      refine r_callI h fun r20 M17 hx18 hok19 hr21 h => ?_
      replace h := h hx18 hok19 hr21
      replace hO1 := hO1.up hx18
      refine r_istore_n x_304_77 (by decide +kernel) rfl (lv1 := [(0, .ref a0), (1, g_n v1), (2, g_n v2), (3, g_n r20), (4, g_n v4)]) rfl ?_
      refine r_goto x_304_78 (t := 5) (by decide +kernel) ?_
      refine g_drop [0, 1, 2, 3] (lv1 := [(0, .ref a0), (1, g_n v1), (2, g_n v2), (3, g_n r20)]) rfl ?_
      exact h
    · replace h := h.1 hc
      refine r_aload_n x_304_49 rfl ?_
      refine r_iload x_304_50 rfl ?_
      refine r_iload_n x_304_52 rfl ?_
      refine r_invV x_304_53 (z := 303) (ns := 0) (by decide +kernel) (as := [g_n v4, g_n v2]) (r := []) rfl rfl rfl hO1 rfl rfl ?_
      refine r_callI h fun r25 M22 hx23 hok24 hr26 h => ?_
      replace h := h hx23 hok24 hr26
      replace hO1 := hO1.up hx23
      refine r_if_eq x_304_56 (t := 61) (by decide +kernel) hr26 (fun hc => ?_) (fun hc => ?_)
      · replace h := h.1 hc
        refine r_aload_n x_304_61 rfl ?_
        refine r_iload x_304_62 rfl ?_
        refine r_invV x_304_64 (z := 235) (ns := 0) (by decide +kernel) (as := [g_n v4]) (r := []) rfl rfl rfl hO1 rfl rfl ?_
        refine r_callI h fun r30 M27 hx28 hok29 hr31 h => ?_
        replace h := h hx28 hok29 hr31
        replace hO1 := hO1.up hx28
        refine r_istore x_304_67 (by decide +kernel) rfl (lv1 := [(0, .ref a0), (1, g_n v1), (2, g_n v2), (3, g_n v3), (4, g_n r30)]) rfl ?_
        refine r_goto x_304_69 (t := 29) (by decide +kernel) ?_
        exact h
      · replace h := h.2 hc
        refine r_iconst x_304_59 ?_
        exact r_retZ x_304_60 rfl (Or.inr rfl) h
theorem m_X12_isChange {d : Nat} {M : g_M} {Q : Int → g_M → Prop} {a0 : Nat} {v1 : Int} (hv1 : g_InR v1) (h : g_ok M → g_Call d 237 [g_n v1] M (g_qI fun r4 M1 => g_ext M M1 → g_ok M1 → g_InR r4 → g_Run d 305 5 [(0, .ref a0), (1, g_n v1), (2, g_n r4)] [] M1 (g_qI Q))) : g_Call (d + 1) 305 [.ref a0, g_n v1] M (g_qI Q) := by
  refine g_Call.ok fun hok0 => ?_
  replace h := h hok0
  refine r_body rfl (lv := [(0, .ref a0), (1, g_n v1)]) rfl ?_
  refine g_Run.ok fun hok => ?_
  refine r_iload_n x_305_0 rfl ?_
  refine r_invS x_305_1 (z := 237) (ns := 0) (by decide +kernel) (as := [g_n v1]) (r := []) rfl rfl rfl ?_
  refine r_callI h fun r4 M1 hx2 hok3 hr5 h => ?_
  replace h := h hx2 hok3 hr5
  refine r_istore_n x_305_4 (by decide +kernel) rfl (lv1 := [(0, .ref a0), (1, g_n v1), (2, g_n r4)]) rfl ?_
  exact h
theorem s_X12_isChange_5 {d : Nat} {M : g_M} {Q : Int → g_M → Prop} {a0 : Nat} {v1 : Int} (hv1 : g_InR v1) {v2 : Int} (hv2 : g_InR v2) (h : g_ok M → g_O M a0 12 ∧ g_Call d 238 [.ref a0, g_n v1] M (g_qI fun r5 M2 => g_ext M M2 → g_ok M2 → g_InR r5 → ((v2 < r5 → g_Call d 302 [.ref a0, g_n v2] M2 (g_qI fun r10 M7 => g_ext M2 M7 → g_ok M7 → g_InR r10 → ((r10 = 0 → g_Call d 257 [.ref a0, g_n 1, g_n v2] M7 (g_qI fun r35 M32 => g_ext M7 M32 → g_ok M32 → g_InR r35 → (r35 = 0 ∨ r35 = 1) ∧ Q r35 M32)) ∧ (¬ r10 = 0 → ∃ b12, g_r M7 a0 0 = some b12 ∧ ∃ n14, g_A M7 b12 0 n14 ∧ ((0 : Int) ≤ v2 ∧ (v2 : Int) < n14) ∧ ((g_i M7 b12 v2 = 3 → g_Call d 233 [.ref a0, g_n v2] M7 (g_qI fun r20 M17 => g_ext M7 M17 → g_ok M17 → g_InR r20 → g_Call d 237 [g_n r20] M17 (g_qI fun r25 M22 => g_ext M17 M22 → g_ok M22 → g_InR r25 → g_Run d 305 55 [(0, .ref a0), (1, g_n v1), (2, g_n v2), (3, g_n r25)] [] M22 (g_qI Q)))) ∧ (¬ g_i M7 b12 v2 = 3 → g_Call d 257 [.ref a0, g_n 2, g_n v2] M7 (g_qI fun r30 M27 => g_ext M7 M27 → g_ok M27 → g_InR r30 → (r30 = 0 ∨ r30 = 1) ∧ Q r30 M27))))))) ∧ (¬ v2 < r5 → Q 1 M2)))) : g_Run d 305 5 [(0, .ref a0), (1, g_n v1), (2, g_n v2)] [] M (g_qI Q) := by
  refine g_Run.ok fun hok => ?_
  replace h := h hok
  refine r_iload_n x_305_5 rfl ?_
  refine r_aload_n x_305_6 rfl ?_
  refine r_iload_n x_305_7 rfl ?_
  obtain ⟨hO1, h⟩ := h
  refine r_invV x_305_8 (z := 238) (ns := 0) (by decide +kernel) (as := [g_n v1]) (r := [g_n v2]) rfl rfl rfl hO1 rfl rfl ?_
  refine r_callI h fun r5 M2 hx3 hok4 hr6 h => ?_
  replace h := h hx3 hok4 hr6
  replace hO1 := hO1.up hx3
  refine r_ic_ge x_305_11 (t := 150) (by decide +kernel) hv2 hr6 (fun hc => ?_) (fun hc => ?_)
  · replace h := h.2 hc
    refine r_iconst x_305_150 ?_
    exact r_retZ x_305_151 rfl (Or.inr rfl) h
  · replace h := h.1 hc
    refine r_aload_n x_305_14 rfl ?_
    refine r_iload_n x_305_15 rfl ?_
    refine r_invV x_305_16 (z := 302) (ns := 0) (by decide +kernel) (as := [g_n v2]) (r := []) rfl rfl rfl hO1 rfl rfl ?_
    refine r_callI h fun r10 M7 hx8 hok9 hr11 h => ?_
    replace h := h hx8 hok9 hr11
    replace hO1 := hO1.up hx8
    refine r_if_ne x_305_19 (t := 29) (by decide +kernel) hr11 (fun hc => ?_) (fun hc => ?_)
    · replace h := h.2 hc
      refine r_aload_n x_305_29 rfl ?_
      obtain ⟨b12, hb13, h⟩ := h
      refine r_getR x_305_30 rfl (ci := 12) (k := 0) (ns := 0) (by decide +kernel) (by decide) rfl (kz := 0) rfl hO1 hb13 ?_
      refine r_iload_n x_305_33 rfl ?_
      obtain ⟨n14, hA15, h⟩ := h
      obtain ⟨h16, h⟩ := h
      refine r_bald x_305_34 (Or.inl rfl) hA15 hv2 h16.1 h16.2 ?_
      refine r_iconst x_305_35 ?_
      refine r_ic_eq x_305_36 (t := 46) (by decide +kernel) (hok9.1 _ _) (g_Rk rfl) (fun hc => ?_) (fun hc => ?_)
      · replace h := h.1 hc
        refine r_aload_n x_305_46 rfl ?_
        refine r_iload_n x_305_47 rfl ?_
        refine r_invV x_305_48 (z := 233) (ns := 0) (by decide +kernel) (as := [g_n v2]) (r := []) rfl rfl rfl hO1 rfl rfl ?_
        refine r_callI h fun r20 M17 hx18 hok19 hr21 h => ?_
        replace h := h hx18 hok19 hr21
        replace hO1 := hO1.up hx18
        replace hA15 := hA15.up hx18
        refine r_invS x_305_51 (z := 237) (ns := 0) (by decide +kernel) (as := [g_n r20]) (r := []) rfl rfl rfl ?_
        refine r_callI h fun r25 M22 hx23 hok24 hr26 h => ?_
        replace h := h hx23 hok24 hr26
        replace hO1 := hO1.up hx23
        replace hA15 := hA15.up hx23
        refine r_istore_n x_305_54 (by decide +kernel) rfl (lv1 := [(0, .ref a0), (1, g_n v1), (2, g_n v2), (3, g_n r25)]) rfl ?_
        exact h
      · replace h := h.2 hc
        refine r_aload_n x_305_39 rfl ?_
        refine r_iconst x_305_40 ?_
        refine r_iload_n x_305_41 rfl ?_
        refine r_invV x_305_42 (z := 257) (ns := 0) (by decide +kernel) (as := [g_n 2, g_n v2]) (r := []) rfl rfl rfl hO1 rfl rfl ?_
        refine r_callI h fun r30 M27 hx28 hok29 hr31 h => ?_
        replace h := h hx28 hok29 hr31
        replace hO1 := hO1.up hx28
        replace hA15 := hA15.up hx28
        obtain ⟨hz, h⟩ := h
        exact r_retZ x_305_45 rfl hz h
    · replace h := h.1 hc
      refine r_aload_n x_305_22 rfl ?_
      refine r_iconst x_305_23 ?_
      refine r_iload_n x_305_24 rfl ?_
      refine r_invV x_305_25 (z := 257) (ns := 0) (by decide +kernel) (as := [g_n 1, g_n v2]) (r := []) rfl rfl rfl hO1 rfl rfl ?_
      refine r_callI h fun r35 M32 hx33 hok34 hr36 h => ?_
      replace h := h hx33 hok34 hr36
      replace hO1 := hO1.up hx33
      obtain ⟨hz, h⟩ := h
      exact r_retZ x_305_28 rfl hz h
theorem s_X12_isChange_55 {d : Nat} {M : g_M} {Q : Int → g_M → Prop} {a0 : Nat} {v1 : Int} (hv1 : g_InR v1) {v2 : Int} (hv2 : g_InR v2) {v3 : Int} (hv3 : g_InR v3) (h : g_ok M → g_O M a0 12 ∧ g_Call d 233 [.ref a0, g_n v2] M (g_qI fun r5 M2 => g_ext M M2 → g_ok M2 → g_InR r5 → g_Call d 238 [.ref a0, g_n r5] M2 (g_qI fun r10 M7 => g_ext M2 M7 → g_ok M7 → g_InR r10 → ((v3 < r10 → g_InR (v3 + 1) ∧ g_Call d 232 [.ref a0, g_n v3] M7 (g_qI fun r21 M18 => g_ext M7 M18 → g_ok M18 → g_InR r21 → g_Call d 273 [.ref a0, g_n (v3 + 1), g_n r21] M18 (g_qI fun r26 M23 => g_ext M18 M23 → g_ok M23 → g_InR r26 → ((r26 = 0 → g_Call d 257 [.ref a0, g_n 3, g_n v3] M23 (g_qI fun r46 M43 => g_ext M23 M43 → g_ok M43 → g_InR r46 → (r46 = 0 ∨ r46 = 1) ∧ Q r46 M43)) ∧ (¬ r26 = 0 → g_Call d 236 [.ref a0, g_n v2, .ref (4 * 136 + 1)] M23 (g_qI fun r31 M28 => g_ext M23 M28 → g_ok M28 → g_InR r31 → ((r31 = 0 → g_Run d 305 116 [(0, .ref a0), (1, g_n v1), (2, g_n v2), (3, g_n v3)] [] M28 (g_qI Q)) ∧ (¬ r31 = 0 → g_Call d 242 [.ref a0, g_n v3] M28 (g_qI fun r36 M33 => g_ext M28 M33 → g_ok M33 → g_InR r36 → ((r36 = 0 → g_Call d 257 [.ref a0, g_n 4, g_n v3] M33 (g_qI fun r41 M38 => g_ext M33 M38 → g_ok M38 → g_InR r41 → (r41 = 0 ∨ r41 = 1) ∧ Q r41 M38)) ∧ (¬ r36 = 0 → g_Run d 305 116 [(0, .ref a0), (1, g_n v1), (2, g_n v2), (3, g_n v3)] [] M33 (g_qI Q)))))))))))) ∧ (¬ v3 < r10 → g_Call d 235 [.ref a0, g_n v2] M7 (g_qI fun r15 M12 => g_ext M7 M12 → g_ok M12 → g_InR r15 → g_Run d 305 5 [(0, .ref a0), (1, g_n v1), (2, g_n r15)] [] M12 (g_qI Q))))))) : g_Run d 305 55 [(0, .ref a0), (1, g_n v1), (2, g_n v2), (3, g_n v3)] [] M (g_qI Q) := by
  refine g_Run.ok fun hok => ?_
  replace h := h hok
  refine r_iload_n x_305_55 rfl ?_
  refine r_aload_n x_305_56 rfl ?_
  refine r_aload_n x_305_57 rfl ?_
  refine r_iload_n x_305_58 rfl ?_
  obtain ⟨hO1, h⟩ := h
  refine r_invV x_305_59 (z := 233) (ns := 0) (by decide +kernel) (as := [g_n v2]) (r := [.ref a0, g_n v3]) rfl rfl rfl hO1 rfl rfl ?_
  refine r_callI h fun r5 M2 hx3 hok4 hr6 h => ?_
  replace h := h hx3 hok4 hr6
  replace hO1 := hO1.up hx3
  refine r_invV x_305_62 (z := 238) (ns := 0) (by decide +kernel) (as := [g_n r5]) (r := [g_n v3]) rfl rfl rfl hO1 rfl rfl ?_
  refine r_callI h fun r10 M7 hx8 hok9 hr11 h => ?_
  replace h := h hx8 hok9 hr11
  replace hO1 := hO1.up hx8
  refine r_ic_ge x_305_65 (t := 141) (by decide +kernel) hv3 hr11 (fun hc => ?_) (fun hc => ?_)
  · replace h := h.2 hc
    refine r_aload_n x_305_141 rfl ?_
    refine r_iload_n x_305_142 rfl ?_
    refine r_invV x_305_143 (z := 235) (ns := 0) (by decide +kernel) (as := [g_n v2]) (r := []) rfl rfl rfl hO1 rfl rfl ?_
    refine r_callI h fun r15 M12 hx13 hok14 hr16 h => ?_
    replace h := h hx13 hok14 hr16
    replace hO1 := hO1.up hx13
    refine r_istore_n x_305_146 (by decide +kernel) rfl (lv1 := [(0, .ref a0), (1, g_n v1), (2, g_n r15), (3, g_n v3)]) rfl ?_
    refine r_goto x_305_147 (t := 5) (by decide +kernel) ?_
    refine g_drop [0, 1, 2] (lv1 := [(0, .ref a0), (1, g_n v1), (2, g_n r15)]) rfl ?_
    exact h
  · replace h := h.1 hc
    refine r_aload_n x_305_68 rfl ?_
    refine r_iload_n x_305_69 rfl ?_
    refine r_iconst x_305_70 ?_
    refine r_iadd x_305_71 ?_
    obtain ⟨h17, h⟩ := h
    refine r_aload_n x_305_72 rfl ?_
    refine r_iload_n x_305_73 rfl ?_
    refine r_invV x_305_74 (z := 232) (ns := 0) (by decide +kernel) (as := [g_n v3]) (r := [g_n (v3 + 1), .ref a0]) rfl rfl rfl hO1 rfl rfl ?_
    refine r_callI h fun r21 M18 hx19 hok20 hr22 h => ?_
    replace h := h hx19 hok20 hr22
    replace hO1 := hO1.up hx19
    refine r_invV x_305_77 (z := 273) (ns := 0) (by decide +kernel) (as := [g_n (v3 + 1), g_n r21]) (r := []) rfl rfl rfl hO1 rfl rfl ?_
    refine r_callI h fun r26 M23 hx24 hok25 hr27 h => ?_
    replace h := h hx24 hok25 hr27
    replace hO1 := hO1.up hx24
    refine r_if_ne x_305_80 (t := 90) (by decide +kernel) hr27 (fun hc => ?_) (fun hc => ?_)
    · replace h := h.2 hc
      refine r_aload_n x_305_90 rfl ?_
      refine r_iload_n x_305_91 rfl ?_
      refine r_ldcw x_305_92 (v := .ref (4 * 136 + 1)) rfl ?_
      refine r_invV x_305_95 (z := 236) (ns := 0) (by decide +kernel) (as := [g_n v2, .ref (4 * 136 + 1)]) (r := []) rfl rfl rfl hO1 rfl rfl ?_
      refine r_callI h fun r31 M28 hx29 hok30 hr32 h => ?_
      replace h := h hx29 hok30 hr32
      replace hO1 := hO1.up hx29
      refine r_if_eq x_305_98 (t := 116) (by decide +kernel) hr32 (fun hc => ?_) (fun hc => ?_)
      · replace h := h.1 hc
        exact h
      · replace h := h.2 hc
        refine r_aload_n x_305_101 rfl ?_
        refine r_iload_n x_305_102 rfl ?_
        refine r_invV x_305_103 (z := 242) (ns := 0) (by decide +kernel) (as := [g_n v3]) (r := []) rfl rfl rfl hO1 rfl rfl ?_
        refine r_callI h fun r36 M33 hx34 hok35 hr37 h => ?_
        replace h := h hx34 hok35 hr37
        replace hO1 := hO1.up hx34
        refine r_if_ne x_305_106 (t := 116) (by decide +kernel) hr37 (fun hc => ?_) (fun hc => ?_)
        · replace h := h.2 hc
          exact h
        · replace h := h.1 hc
          refine r_aload_n x_305_109 rfl ?_
          refine r_iconst x_305_110 ?_
          refine r_iload_n x_305_111 rfl ?_
          refine r_invV x_305_112 (z := 257) (ns := 0) (by decide +kernel) (as := [g_n 4, g_n v3]) (r := []) rfl rfl rfl hO1 rfl rfl ?_
          refine r_callI h fun r41 M38 hx39 hok40 hr42 h => ?_
          replace h := h hx39 hok40 hr42
          replace hO1 := hO1.up hx39
          obtain ⟨hz, h⟩ := h
          exact r_retZ x_305_115 rfl hz h
    · replace h := h.1 hc
      refine r_aload_n x_305_83 rfl ?_
      refine r_iconst x_305_84 ?_
      refine r_iload_n x_305_85 rfl ?_
      refine r_invV x_305_86 (z := 257) (ns := 0) (by decide +kernel) (as := [g_n 3, g_n v3]) (r := []) rfl rfl rfl hO1 rfl rfl ?_
      refine r_callI h fun r46 M43 hx44 hok45 hr47 h => ?_
      replace h := h hx44 hok45 hr47
      replace hO1 := hO1.up hx44
      obtain ⟨hz, h⟩ := h
      exact r_retZ x_305_89 rfl hz h
theorem s_X12_isChange_116 {d : Nat} {M : g_M} {Q : Int → g_M → Prop} {a0 : Nat} {v1 : Int} (hv1 : g_InR v1) {v2 : Int} (hv2 : g_InR v2) {v3 : Int} (hv3 : g_InR v3) (h : g_ok M → g_O M a0 12 ∧ g_Call d 304 [.ref a0, g_n v1, g_n v3] M (g_qI fun r5 M2 => g_ext M M2 → g_ok M2 → g_InR r5 → ((r5 = 0 → g_Call d 235 [.ref a0, g_n v3] M2 (g_qI fun r10 M7 => g_ext M2 M7 → g_ok M7 → g_InR r10 → g_Run d 305 55 [(0, .ref a0), (1, g_n v1), (2, g_n v2), (3, g_n r10)] [] M7 (g_qI Q))) ∧ (¬ r5 = 0 → g_Call d 257 [.ref a0, g_n 5, g_n v3] M2 (g_qI fun r15 M12 => g_ext M2 M12 → g_ok M12 → g_InR r15 → (r15 = 0 ∨ r15 = 1) ∧ Q r15 M12))))) : g_Run d 305 116 [(0, .ref a0), (1, g_n v1), (2, g_n v2), (3, g_n v3)] [] M (g_qI Q) := by
  refine g_Run.ok fun hok => ?_
  replace h := h hok
  refine r_aload_n x_305_116 rfl ?_
  refine r_iload_n x_305_117 rfl ?_
  refine r_iload_n x_305_118 rfl ?_
  obtain ⟨hO1, h⟩ := h
  refine r_invV x_305_119 (z := 304) (ns := 0) (by decide +kernel) (as := [g_n v1, g_n v3]) (r := []) rfl rfl rfl hO1 rfl rfl ?_
  refine r_callI h fun r5 M2 hx3 hok4 hr6 h => ?_
  replace h := h hx3 hok4 hr6
  replace hO1 := hO1.up hx3
  refine r_if_eq x_305_122 (t := 132) (by decide +kernel) hr6 (fun hc => ?_) (fun hc => ?_)
  · replace h := h.1 hc
    refine r_aload_n x_305_132 rfl ?_
    refine r_iload_n x_305_133 rfl ?_
    refine r_invV x_305_134 (z := 235) (ns := 0) (by decide +kernel) (as := [g_n v3]) (r := []) rfl rfl rfl hO1 rfl rfl ?_
    refine r_callI h fun r10 M7 hx8 hok9 hr11 h => ?_
    replace h := h hx8 hok9 hr11
    replace hO1 := hO1.up hx8
    refine r_istore_n x_305_137 (by decide +kernel) rfl (lv1 := [(0, .ref a0), (1, g_n v1), (2, g_n v2), (3, g_n r10)]) rfl ?_
    refine r_goto x_305_138 (t := 55) (by decide +kernel) ?_
    exact h
  · replace h := h.2 hc
    refine r_aload_n x_305_125 rfl ?_
    refine r_iconst x_305_126 ?_
    refine r_iload_n x_305_127 rfl ?_
    refine r_invV x_305_128 (z := 257) (ns := 0) (by decide +kernel) (as := [g_n 5, g_n v3]) (r := []) rfl rfl rfl hO1 rfl rfl ?_
    refine r_callI h fun r15 M12 hx13 hok14 hr16 h => ?_
    replace h := h hx13 hok14 hr16
    replace hO1 := hO1.up hx13
    obtain ⟨hz, h⟩ := h
    exact r_retZ x_305_131 rfl hz h
theorem m_X12_splice {d : Nat} {M : g_M} {Q : g_M → Prop} {a0 : Nat} {v1 : Int} (hv1 : g_InR v1) {v2 : Int} (hv2 : g_InR v2) (h : g_ok M → g_O M a0 12 ∧ g_InR ((g_i M a0 4) - 2606200) ∧ g_Call d 227 [.ref a0, g_n 922000] M (g_qI fun r6 M3 => g_ext M M3 → g_ok M3 → g_InR r6 → g_InR (922000 + r6) ∧ (((g_i M a0 4) - 2606200 < v2 → g_InR (v1 + v2) ∧ g_Run d 306 32 [(0, .ref a0), (1, g_n v1), (2, g_n v2), (3, g_n ((g_i M a0 4) - 2606200)), (4, g_n (922000 + r6)), (5, g_n (v1 + v2))] [] M3 (g_qV Q)) ∧ (¬ (g_i M a0 4) - 2606200 < v2 → g_InR ((922000 + r6) - 1) ∧ g_Run d 306 72 [(0, .ref a0), (1, g_n v1), (2, g_n v2), (3, g_n ((g_i M a0 4) - 2606200)), (4, g_n (922000 + r6)), (5, g_n ((922000 + r6) - 1))] [] M3 (g_qV Q))))) : g_Call (d + 1) 306 [.ref a0, g_n v1, g_n v2] M (g_qV Q) := by
  refine g_Call.ok fun hok0 => ?_
  replace h := h hok0
  refine r_body rfl (lv := [(0, .ref a0), (1, g_n v1), (2, g_n v2)]) rfl ?_
  refine g_Run.ok fun hok => ?_
  refine r_aload_n x_306_0 rfl ?_
  obtain ⟨hO1, h⟩ := h
  refine r_getI x_306_1 rfl (ci := 12) (k := 4) (ns := 0) (by decide +kernel) (by decide) rfl (kz := 4) rfl hO1 ?_
  refine r_ldcw x_306_4 (v := g_n 2606200) rfl ?_
  refine r_isub x_306_7 ?_
  obtain ⟨h2, h⟩ := h
  refine r_istore_n x_306_8 (by decide +kernel) rfl (lv1 := [(0, .ref a0), (1, g_n v1), (2, g_n v2), (3, g_n ((g_i M a0 4) - 2606200))]) rfl ?_
  refine r_ldcw x_306_9 (v := g_n 922000) rfl ?_
  refine r_aload_n x_306_12 rfl ?_
  refine r_ldcw x_306_13 (v := g_n 922000) rfl ?_
  refine r_invV x_306_16 (z := 227) (ns := 0) (by decide +kernel) (as := [g_n 922000]) (r := [g_n 922000]) rfl rfl rfl hO1 rfl rfl ?_
  refine r_callI h fun r6 M3 hx4 hok5 hr7 h => ?_
  replace h := h hx4 hok5 hr7
  replace hO1 := hO1.up hx4
  refine r_iadd x_306_19 ?_
  obtain ⟨h8, h⟩ := h
  refine r_istore x_306_20 (by decide +kernel) rfl (lv1 := [(0, .ref a0), (1, g_n v1), (2, g_n v2), (3, g_n ((g_i M a0 4) - 2606200)), (4, g_n (922000 + r6))]) rfl ?_
  refine r_iload_n x_306_22 rfl ?_
  refine r_iload_n x_306_23 rfl ?_
  refine r_ic_ge x_306_24 (t := 66) (by decide +kernel) h2 hv2 (fun hc => ?_) (fun hc => ?_)
  · replace h := h.2 hc
    refine r_iload x_306_66 rfl ?_
    refine r_iconst x_306_68 ?_
    refine r_isub x_306_69 ?_
    obtain ⟨h9, h⟩ := h
    refine r_istore x_306_70 (by decide +kernel) rfl (lv1 := [(0, .ref a0), (1, g_n v1), (2, g_n v2), (3, g_n ((g_i M a0 4) - 2606200)), (4, g_n (922000 + r6)), (5, g_n ((922000 + r6) - 1))]) rfl ?_
    exact h
  · replace h := h.1 hc
    refine r_iload_n x_306_27 rfl ?_
    refine r_iload_n x_306_28 rfl ?_
    refine r_iadd x_306_29 ?_
    obtain ⟨h10, h⟩ := h
    refine r_istore x_306_30 (by decide +kernel) rfl (lv1 := [(0, .ref a0), (1, g_n v1), (2, g_n v2), (3, g_n ((g_i M a0 4) - 2606200)), (4, g_n (922000 + r6)), (5, g_n (v1 + v2))]) rfl ?_
    exact h
theorem s_X12_splice_32 {d : Nat} {M : g_M} {Q : g_M → Prop} {a0 : Nat} {v1 : Int} (hv1 : g_InR v1) {v2 : Int} (hv2 : g_InR v2) {v3 : Int} (hv3 : g_InR v3) {v4 : Int} (hv4 : g_InR v4) {v5 : Int} (hv5 : g_InR v5) (h : g_ok M → ((v5 < v4 → g_O M a0 12 ∧ ∃ b2, g_r M a0 0 = some b2 ∧ g_InR (v5 + v3) ∧ g_InR ((v5 + v3) - v2) ∧ ∃ b6, g_r M a0 0 = some b6 ∧ ∃ n8, g_A M b6 0 n8 ∧ ((0 : Int) ≤ v5 ∧ (v5 : Int) < n8) ∧ ∃ n11, g_A M b2 0 n11 ∧ ((0 : Int) ≤ (v5 + v3) - v2 ∧ ((v5 + v3) - v2 : Int) < n11) ∧ (∀ M14, M14 = g_wi M b2 ((v5 + v3) - v2) (g_w8 (g_i M b6 v5)) → g_ok M14 → g_InR (v5 + 1) ∧ g_Run d 306 32 [(0, .ref a0), (1, g_n v1), (2, g_n v2), (3, g_n v3), (4, g_n v4), (5, g_n (v5 + 1))] [] M14 (g_qV Q))) ∧ (¬ v5 < v4 → g_Run d 306 107 [(0, .ref a0), (1, g_n v1), (2, g_n v2), (3, g_n v3), (4, g_n v4), (5, g_n 0)] [] M (g_qV Q)))) : g_Run d 306 32 [(0, .ref a0), (1, g_n v1), (2, g_n v2), (3, g_n v3), (4, g_n v4), (5, g_n v5)] [] M (g_qV Q) := by
  refine g_Run.ok fun hok => ?_
  replace h := h hok
  refine r_iload x_306_32 rfl ?_
  refine r_iload x_306_34 rfl ?_
  refine r_ic_ge x_306_36 (t := 63) (by decide +kernel) hv5 hv4 (fun hc => ?_) (fun hc => ?_)
  · replace h := h.2 hc
    refine r_goto x_306_63 (t := 104) (by decide +kernel) ?_
    refine r_iconst x_306_104 ?_
    refine r_istore x_306_105 (by decide +kernel) rfl (lv1 := [(0, .ref a0), (1, g_n v1), (2, g_n v2), (3, g_n v3), (4, g_n v4), (5, g_n 0)]) rfl ?_
    exact h
  · replace h := h.1 hc
    refine r_aload_n x_306_39 rfl ?_
    obtain ⟨hO1, h⟩ := h
    obtain ⟨b2, hb3, h⟩ := h
    refine r_getR x_306_40 rfl (ci := 12) (k := 0) (ns := 0) (by decide +kernel) (by decide) rfl (kz := 0) rfl hO1 hb3 ?_
    refine r_iload x_306_43 rfl ?_
    refine r_iload_n x_306_45 rfl ?_
    refine r_iadd x_306_46 ?_
    obtain ⟨h4, h⟩ := h
    refine r_iload_n x_306_47 rfl ?_
    refine r_isub x_306_48 ?_
    obtain ⟨h5, h⟩ := h
    refine r_aload_n x_306_49 rfl ?_
    obtain ⟨b6, hb7, h⟩ := h
    refine r_getR x_306_50 rfl (ci := 12) (k := 0) (ns := 0) (by decide +kernel) (by decide) rfl (kz := 0) rfl hO1 hb7 ?_
    refine r_iload x_306_53 rfl ?_
    obtain ⟨n8, hA9, h⟩ := h
    obtain ⟨h10, h⟩ := h
    refine r_bald x_306_55 (Or.inl rfl) hA9 hv5 h10.1 h10.2 ?_
    obtain ⟨n11, hA12, h⟩ := h
    obtain ⟨h13, h⟩ := h
    refine r_bast0 x_306_56 hA12 h5 h13.1 h13.2 ?_
    obtain ⟨M14, hM15⟩ : ∃ Mz, Mz = g_wi M b2 ((v5 + v3) - v2) (g_w8 (g_i M b6 v5)) := ⟨_, rfl⟩
    rw [← hM15]
    refine g_Run.ok fun hok16 => ?_
    replace h := h M14 hM15 hok16
    have hx17 := g_extW hM15
    replace hO1 := hO1.up hx17
    replace hA9 := hA9.up hx17
    replace hA12 := hA12.up hx17
    obtain ⟨h18, h⟩ := h
    refine r_iinc x_306_57 (by decide +kernel) rfl rfl (lv1 := [(0, .ref a0), (1, g_n v1), (2, g_n v2), (3, g_n v3), (4, g_n v4), (5, g_n (v5 + 1))]) rfl ?_
    refine r_goto x_306_60 (t := 32) (by decide +kernel) ?_
    exact h
theorem s_X12_splice_72 {d : Nat} {M : g_M} {Q : g_M → Prop} {a0 : Nat} {v1 : Int} (hv1 : g_InR v1) {v2 : Int} (hv2 : g_InR v2) {v3 : Int} (hv3 : g_InR v3) {v4 : Int} (hv4 : g_InR v4) {v5 : Int} (hv5 : g_InR v5) (h : g_ok M → g_InR (v1 + v2) ∧ ((v5 < v1 + v2 → g_Run d 306 107 [(0, .ref a0), (1, g_n v1), (2, g_n v2), (3, g_n v3), (4, g_n v4), (5, g_n 0)] [] M (g_qV Q)) ∧ (¬ v5 < v1 + v2 → g_O M a0 12 ∧ ∃ b3, g_r M a0 0 = some b3 ∧ g_InR (v5 + v3) ∧ g_InR ((v5 + v3) - v2) ∧ ∃ b7, g_r M a0 0 = some b7 ∧ ∃ n9, g_A M b7 0 n9 ∧ ((0 : Int) ≤ v5 ∧ (v5 : Int) < n9) ∧ ∃ n12, g_A M b3 0 n12 ∧ ((0 : Int) ≤ (v5 + v3) - v2 ∧ ((v5 + v3) - v2 : Int) < n12) ∧ (∀ M15, M15 = g_wi M b3 ((v5 + v3) - v2) (g_w8 (g_i M b7 v5)) → g_ok M15 → g_InR (v5 + (-1)) ∧ g_Run d 306 72 [(0, .ref a0), (1, g_n v1), (2, g_n v2), (3, g_n v3), (4, g_n v4), (5, g_n (v5 + (-1)))] [] M15 (g_qV Q))))) : g_Run d 306 72 [(0, .ref a0), (1, g_n v1), (2, g_n v2), (3, g_n v3), (4, g_n v4), (5, g_n v5)] [] M (g_qV Q) := by
  refine g_Run.ok fun hok => ?_
  replace h := h hok
  refine r_iload x_306_72 rfl ?_
  refine r_iload_n x_306_74 rfl ?_
  refine r_iload_n x_306_75 rfl ?_
  refine r_iadd x_306_76 ?_
  obtain ⟨h1, h⟩ := h
  refine r_ic_lt x_306_77 (t := 104) (by decide +kernel) hv5 h1 (fun hc => ?_) (fun hc => ?_)
  · replace h := h.1 hc
    refine r_iconst x_306_104 ?_
    refine r_istore x_306_105 (by decide +kernel) rfl (lv1 := [(0, .ref a0), (1, g_n v1), (2, g_n v2), (3, g_n v3), (4, g_n v4), (5, g_n 0)]) rfl ?_
    exact h
  · replace h := h.2 hc
    refine r_aload_n x_306_80 rfl ?_
    obtain ⟨hO2, h⟩ := h
    obtain ⟨b3, hb4, h⟩ := h
    refine r_getR x_306_81 rfl (ci := 12) (k := 0) (ns := 0) (by decide +kernel) (by decide) rfl (kz := 0) rfl hO2 hb4 ?_
    refine r_iload x_306_84 rfl ?_
    refine r_iload_n x_306_86 rfl ?_
    refine r_iadd x_306_87 ?_
    obtain ⟨h5, h⟩ := h
    refine r_iload_n x_306_88 rfl ?_
    refine r_isub x_306_89 ?_
    obtain ⟨h6, h⟩ := h
    refine r_aload_n x_306_90 rfl ?_
    obtain ⟨b7, hb8, h⟩ := h
    refine r_getR x_306_91 rfl (ci := 12) (k := 0) (ns := 0) (by decide +kernel) (by decide) rfl (kz := 0) rfl hO2 hb8 ?_
    refine r_iload x_306_94 rfl ?_
    obtain ⟨n9, hA10, h⟩ := h
    obtain ⟨h11, h⟩ := h
    refine r_bald x_306_96 (Or.inl rfl) hA10 hv5 h11.1 h11.2 ?_
    obtain ⟨n12, hA13, h⟩ := h
    obtain ⟨h14, h⟩ := h
    refine r_bast0 x_306_97 hA13 h6 h14.1 h14.2 ?_
    obtain ⟨M15, hM16⟩ : ∃ Mz, Mz = g_wi M b3 ((v5 + v3) - v2) (g_w8 (g_i M b7 v5)) := ⟨_, rfl⟩
    rw [← hM16]
    refine g_Run.ok fun hok17 => ?_
    replace h := h M15 hM16 hok17
    have hx18 := g_extW hM16
    replace hO2 := hO2.up hx18
    replace hA10 := hA10.up hx18
    replace hA13 := hA13.up hx18
    obtain ⟨h19, h⟩ := h
    refine r_iinc x_306_98 (by decide +kernel) rfl rfl (lv1 := [(0, .ref a0), (1, g_n v1), (2, g_n v2), (3, g_n v3), (4, g_n v4), (5, g_n (v5 + (-1)))]) rfl ?_
    refine r_goto x_306_101 (t := 72) (by decide +kernel) ?_
    exact h
theorem s_X12_splice_107 {d : Nat} {M : g_M} {Q : g_M → Prop} {a0 : Nat} {v1 : Int} (hv1 : g_InR v1) {v2 : Int} (hv2 : g_InR v2) {v3 : Int} (hv3 : g_InR v3) {v4 : Int} (hv4 : g_InR v4) {v5 : Int} (hv5 : g_InR v5) (h : g_ok M → ((v5 < v3 → g_O M a0 12 ∧ ∃ b2, g_r M a0 0 = some b2 ∧ g_InR (v1 + v5) ∧ ∃ b5, g_r M a0 0 = some b5 ∧ g_InR (2606200 + v5) ∧ ∃ n8, g_A M b5 0 n8 ∧ ((0 : Int) ≤ 2606200 + v5 ∧ (2606200 + v5 : Int) < n8) ∧ ∃ n11, g_A M b2 0 n11 ∧ ((0 : Int) ≤ v1 + v5 ∧ (v1 + v5 : Int) < n11) ∧ (∀ M14, M14 = g_wi M b2 (v1 + v5) (g_w8 (g_i M b5 (2606200 + v5))) → g_ok M14 → g_InR (v5 + 1) ∧ g_Run d 306 107 [(0, .ref a0), (1, g_n v1), (2, g_n v2), (3, g_n v3), (4, g_n v4), (5, g_n (v5 + 1))] [] M14 (g_qV Q))) ∧ (¬ v5 < v3 → g_Run d 306 142 [(0, .ref a0), (1, g_n v1), (2, g_n v2), (3, g_n v3), (4, g_n v4), (5, g_n 0)] [] M (g_qV Q)))) : g_Run d 306 107 [(0, .ref a0), (1, g_n v1), (2, g_n v2), (3, g_n v3), (4, g_n v4), (5, g_n v5)] [] M (g_qV Q) := by
  refine g_Run.ok fun hok => ?_
  replace h := h hok
  refine r_iload x_306_107 rfl ?_
  refine r_iload_n x_306_109 rfl ?_
  refine r_ic_ge x_306_110 (t := 139) (by decide +kernel) hv5 hv3 (fun hc => ?_) (fun hc => ?_)
  · replace h := h.2 hc
    refine r_iconst x_306_139 ?_
    refine r_istore x_306_140 (by decide +kernel) rfl (lv1 := [(0, .ref a0), (1, g_n v1), (2, g_n v2), (3, g_n v3), (4, g_n v4), (5, g_n 0)]) rfl ?_
    exact h
  · replace h := h.1 hc
    refine r_aload_n x_306_113 rfl ?_
    obtain ⟨hO1, h⟩ := h
    obtain ⟨b2, hb3, h⟩ := h
    refine r_getR x_306_114 rfl (ci := 12) (k := 0) (ns := 0) (by decide +kernel) (by decide) rfl (kz := 0) rfl hO1 hb3 ?_
    refine r_iload_n x_306_117 rfl ?_
    refine r_iload x_306_118 rfl ?_
    refine r_iadd x_306_120 ?_
    obtain ⟨h4, h⟩ := h
    refine r_aload_n x_306_121 rfl ?_
    obtain ⟨b5, hb6, h⟩ := h
    refine r_getR x_306_122 rfl (ci := 12) (k := 0) (ns := 0) (by decide +kernel) (by decide) rfl (kz := 0) rfl hO1 hb6 ?_
    refine r_ldcw x_306_125 (v := g_n 2606200) rfl ?_
    refine r_iload x_306_128 rfl ?_
    refine r_iadd x_306_130 ?_
    obtain ⟨h7, h⟩ := h
    obtain ⟨n8, hA9, h⟩ := h
    obtain ⟨h10, h⟩ := h
    refine r_bald x_306_131 (Or.inl rfl) hA9 h7 h10.1 h10.2 ?_
    obtain ⟨n11, hA12, h⟩ := h
    obtain ⟨h13, h⟩ := h
    refine r_bast0 x_306_132 hA12 h4 h13.1 h13.2 ?_
    obtain ⟨M14, hM15⟩ : ∃ Mz, Mz = g_wi M b2 (v1 + v5) (g_w8 (g_i M b5 (2606200 + v5))) := ⟨_, rfl⟩
    rw [← hM15]
    refine g_Run.ok fun hok16 => ?_
    replace h := h M14 hM15 hok16
    have hx17 := g_extW hM15
    replace hO1 := hO1.up hx17
    replace hA9 := hA9.up hx17
    replace hA12 := hA12.up hx17
    obtain ⟨h18, h⟩ := h
    refine r_iinc x_306_133 (by decide +kernel) rfl rfl (lv1 := [(0, .ref a0), (1, g_n v1), (2, g_n v2), (3, g_n v3), (4, g_n v4), (5, g_n (v5 + 1))]) rfl ?_
    refine r_goto x_306_136 (t := 107) (by decide +kernel) ?_
    exact h
theorem s_X12_splice_142 {d : Nat} {M : g_M} {Q : g_M → Prop} {a0 : Nat} {v1 : Int} (hv1 : g_InR v1) {v2 : Int} (hv2 : g_InR v2) {v3 : Int} (hv3 : g_InR v3) {v4 : Int} (hv4 : g_InR v4) {v5 : Int} (hv5 : g_InR v5) (h : g_ok M → g_O M a0 12 ∧ ((v5 < g_i M a0 13 → ∃ b2, g_r M a0 12 = some b2 ∧ ∃ n4, g_A M b2 1 n4 ∧ ((0 : Int) ≤ v5 ∧ (v5 : Int) < n4) ∧ ∃ b7, g_r M a0 12 = some b7 ∧ ∃ n9, g_A M b7 1 n9 ∧ ((0 : Int) ≤ v5 ∧ (v5 : Int) < n9) ∧ g_Call d 227 [.ref a0, g_n (g_i M b7 v5)] M (g_qI fun r15 M12 => g_ext M M12 → g_ok M12 → g_InR r15 → g_InR (r15 + v3) ∧ g_InR ((r15 + v3) - v2) ∧ g_Call d 229 [.ref a0, g_n (g_i M b2 v5), g_n ((r15 + v3) - v2)] M12 (g_qV fun M19 => g_ext M12 M19 → g_ok M19 → g_InR (v5 + 1) ∧ g_Run d 306 142 [(0, .ref a0), (1, g_n v1), (2, g_n v2), (3, g_n v3), (4, g_n v4), (5, g_n (v5 + 1))] [] M19 (g_qV Q)))) ∧ (¬ v5 < g_i M a0 13 → Q M))) : g_Run d 306 142 [(0, .ref a0), (1, g_n v1), (2, g_n v2), (3, g_n v3), (4, g_n v4), (5, g_n v5)] [] M (g_qV Q) := by
  refine g_Run.ok fun hok => ?_
  replace h := h hok
  refine r_iload x_306_142 rfl ?_
  refine r_aload_n x_306_144 rfl ?_
  obtain ⟨hO1, h⟩ := h
  refine r_getI x_306_145 rfl (ci := 12) (k := 13) (ns := 0) (by decide +kernel) (by decide) rfl (kz := 13) rfl hO1 ?_
  refine r_ic_ge x_306_148 (t := 183) (by decide +kernel) hv5 (hok.1 _ _) (fun hc => ?_) (fun hc => ?_)
  · replace h := h.2 hc
    exact r_retV x_306_183 rfl h
  · replace h := h.1 hc
    refine r_aload_n x_306_151 rfl ?_
    refine r_aload_n x_306_152 rfl ?_
    obtain ⟨b2, hb3, h⟩ := h
    refine r_getR x_306_153 rfl (ci := 12) (k := 12) (ns := 0) (by decide +kernel) (by decide) rfl (kz := 12) rfl hO1 hb3 ?_
    refine r_iload x_306_156 rfl ?_
    obtain ⟨n4, hA5, h⟩ := h
    obtain ⟨h6, h⟩ := h
    refine r_iald x_306_158 hA5 hv5 h6.1 h6.2 ?_
    refine r_aload_n x_306_159 rfl ?_
    refine r_aload_n x_306_160 rfl ?_
    obtain ⟨b7, hb8, h⟩ := h
    refine r_getR x_306_161 rfl (ci := 12) (k := 12) (ns := 0) (by decide +kernel) (by decide) rfl (kz := 12) rfl hO1 hb8 ?_
    refine r_iload x_306_164 rfl ?_
    obtain ⟨n9, hA10, h⟩ := h
    obtain ⟨h11, h⟩ := h
    refine r_iald x_306_166 hA10 hv5 h11.1 h11.2 ?_
    refine r_invV x_306_167 (z := 227) (ns := 0) (by decide +kernel) (as := [g_n (g_i M b7 v5)]) (r := [g_n (g_i M b2 v5), .ref a0]) rfl rfl rfl hO1 rfl rfl ?_
    refine r_callI h fun r15 M12 hx13 hok14 hr16 h => ?_
    replace h := h hx13 hok14 hr16
    replace hO1 := hO1.up hx13
    replace hA5 := hA5.up hx13
    replace hA10 := hA10.up hx13
    refine r_iload_n x_306_170 rfl ?_
    refine r_iadd x_306_171 ?_
    obtain ⟨h17, h⟩ := h
    refine r_iload_n x_306_172 rfl ?_
    refine r_isub x_306_173 ?_
    obtain ⟨h18, h⟩ := h
    refine r_invV x_306_174 (z := 229) (ns := 0) (by decide +kernel) (as := [g_n (g_i M b2 v5), g_n ((r15 + v3) - v2)]) (r := []) rfl rfl rfl hO1 rfl rfl ?_
    refine r_callV h fun M19 hx20 hok21 h => ?_
    replace h := h hx20 hok21
    replace hO1 := hO1.up hx20
    replace hA5 := hA5.up hx20
    replace hA10 := hA10.up hx20
    obtain ⟨h22, h⟩ := h
    refine r_iinc x_306_177 (by decide +kernel) rfl rfl (lv1 := [(0, .ref a0), (1, g_n v1), (2, g_n v2), (3, g_n v3), (4, g_n v4), (5, g_n (v5 + 1))]) rfl ?_
    refine r_goto x_306_180 (t := 142) (by decide +kernel) ?_
    exact h
theorem m_X12_writeLoose {d : Nat} {M : g_M} {Q : g_M → Prop} {a0 : Nat} (h : g_ok M → g_O M a0 12 ∧ g_Call d 245 [.ref a0, g_n 2606200, g_n 2666200] M (g_qV fun M2 => g_ext M M2 → g_ok M2 → Q M2)) : g_Call (d + 1) 307 [.ref a0] M (g_qV Q) := by
  refine g_Call.ok fun hok0 => ?_
  replace h := h hok0
  refine r_body rfl (lv := [(0, .ref a0)]) rfl ?_
  refine g_Run.ok fun hok => ?_
  refine r_aload_n x_307_0 rfl ?_
  refine r_ldcw x_307_1 (v := g_n 2606200) rfl ?_
  refine r_ldcw x_307_4 (v := g_n 2666200) rfl ?_
  obtain ⟨hO1, h⟩ := h
  refine r_invV x_307_7 (z := 245) (ns := 0) (by decide +kernel) (as := [g_n 2606200, g_n 2666200]) (r := []) rfl rfl rfl hO1 rfl rfl ?_
  refine r_callV h fun M2 hx3 hok4 h => ?_
  replace h := h hx3 hok4
  replace hO1 := hO1.up hx3
  exact r_retV x_307_10 rfl h
theorem m_X12_append {d : Nat} {M : g_M} {Q : Int → g_M → Prop} {a0 : Nat} (h : g_ok M → g_O M a0 12 ∧ ∃ b2, g_r M a0 12 = some b2 ∧ g_InR ((g_i M a0 13) - 1) ∧ ∃ n5, g_A M b2 1 n5 ∧ ((0 : Int) ≤ (g_i M a0 13) - 1 ∧ ((g_i M a0 13) - 1 : Int) < n5) ∧ g_Call d 238 [.ref a0, g_n (g_i M b2 ((g_i M a0 13) - 1))] M (g_qI fun r11 M8 => g_ext M M8 → g_ok M8 → g_InR r11 → g_Call d 306 [.ref a0, g_n r11, g_n 0] M8 (g_qV fun M13 => g_ext M8 M13 → g_ok M13 → Q r11 M13))) : g_Call (d + 1) 308 [.ref a0] M (g_qI Q) := by
  refine g_Call.ok fun hok0 => ?_
  replace h := h hok0
  refine r_body rfl (lv := [(0, .ref a0)]) rfl ?_
  refine g_Run.ok fun hok => ?_
  refine r_aload_n x_308_0 rfl ?_
  refine r_aload_n x_308_1 rfl ?_
  obtain ⟨hO1, h⟩ := h
  obtain ⟨b2, hb3, h⟩ := h
  refine r_getR x_308_2 rfl (ci := 12) (k := 12) (ns := 0) (by decide +kernel) (by decide) rfl (kz := 12) rfl hO1 hb3 ?_
  refine r_aload_n x_308_5 rfl ?_
  refine r_getI x_308_6 rfl (ci := 12) (k := 13) (ns := 0) (by decide +kernel) (by decide) rfl (kz := 13) rfl hO1 ?_
  refine r_iconst x_308_9 ?_
  refine r_isub x_308_10 ?_
  obtain ⟨h4, h⟩ := h
  obtain ⟨n5, hA6, h⟩ := h
  obtain ⟨h7, h⟩ := h
  refine r_iald x_308_11 hA6 h4 h7.1 h7.2 ?_
  refine r_invV x_308_12 (z := 238) (ns := 0) (by decide +kernel) (as := [g_n (g_i M b2 ((g_i M a0 13) - 1))]) (r := []) rfl rfl rfl hO1 rfl rfl ?_
  refine r_callI h fun r11 M8 hx9 hok10 hr12 h => ?_
  replace h := h hx9 hok10 hr12
  replace hO1 := hO1.up hx9
  replace hA6 := hA6.up hx9
  refine r_istore_n x_308_15 (by decide +kernel) rfl (lv1 := [(0, .ref a0), (1, g_n r11)]) rfl ?_
  refine r_aload_n x_308_16 rfl ?_
  refine r_iload_n x_308_17 rfl ?_
  refine r_iconst x_308_18 ?_
  refine r_invV x_308_19 (z := 306) (ns := 0) (by decide +kernel) (as := [g_n r11, g_n 0]) (r := []) rfl rfl rfl hO1 rfl rfl ?_
  refine r_callV h fun M13 hx14 hok15 h => ?_
  replace h := h hx14 hok15
  replace hO1 := hO1.up hx14
  replace hA6 := hA6.up hx14
  refine r_iload_n x_308_22 rfl ?_
  exact r_retI x_308_23 rfl hr12 h
theorem m_X12_into {d : Nat} {M : g_M} {Q : g_M → Prop} {a0 : Nat} {v1 : Int} (hv1 : g_InR v1) (h : g_ok M → g_O M a0 12 ∧ ∃ b2, g_r M a0 0 = some b2 ∧ ∃ n4, g_A M b2 0 n4 ∧ ((0 : Int) ≤ v1 ∧ (v1 : Int) < n4) ∧ ((g_i M b2 v1 = 4 → g_Run d 309 16 [(0, .ref a0), (1, g_n v1)] [g_n 1, .ref a0] M (g_qV Q)) ∧ (¬ g_i M b2 v1 = 4 → g_Run d 309 16 [(0, .ref a0), (1, g_n v1)] [g_n 0, .ref a0] M (g_qV Q)))) : g_Call (d + 1) 309 [.ref a0, g_n v1] M (g_qV Q) := by
  refine g_Call.ok fun hok0 => ?_
  replace h := h hok0
  refine r_body rfl (lv := [(0, .ref a0), (1, g_n v1)]) rfl ?_
  refine g_Run.ok fun hok => ?_
  refine r_aload_n x_309_0 rfl ?_
  refine r_aload_n x_309_1 rfl ?_
  obtain ⟨hO1, h⟩ := h
  obtain ⟨b2, hb3, h⟩ := h
  refine r_getR x_309_2 rfl (ci := 12) (k := 0) (ns := 0) (by decide +kernel) (by decide) rfl (kz := 0) rfl hO1 hb3 ?_
  refine r_iload_n x_309_5 rfl ?_
  obtain ⟨n4, hA5, h⟩ := h
  obtain ⟨h6, h⟩ := h
  refine r_bald x_309_6 (Or.inl rfl) hA5 hv1 h6.1 h6.2 ?_
  refine r_iconst x_309_7 ?_
  refine r_ic_ne x_309_8 (t := 15) (by decide +kernel) (hok.1 _ _) (g_Rk rfl) (fun hc => ?_) (fun hc => ?_)
  · replace h := h.2 hc
    refine r_iconst x_309_15 ?_
    exact h
  · replace h := h.1 hc
    refine r_iconst x_309_11 ?_
    refine r_goto x_309_12 (t := 16) (by decide +kernel) ?_
    exact h
theorem s_X12_into_16 {d : Nat} {M : g_M} {Q : g_M → Prop} {a0 : Nat} {v1 : Int} (hv1 : g_InR v1) {w0 : Int} (hw0 : g_InR w0) {c1 : Nat} (h : g_ok M → g_O M c1 12 ∧ (w0 = 0 ∨ w0 = 1) ∧ (∀ M3, M3 = g_wi M c1 14 w0 → g_ok M3 → g_O M3 a0 12 ∧ ∃ b8, g_r M3 a0 12 = some b8 ∧ g_Call d 233 [.ref a0, g_n v1] M3 (g_qI fun r13 M10 => g_ext M3 M10 → g_ok M10 → g_InR r13 → ∃ n15, g_A M10 b8 1 n15 ∧ ((0 : Int) ≤ g_i M3 a0 13 ∧ (g_i M3 a0 13 : Int) < n15) ∧ (∀ M18, M18 = g_wi M10 b8 (g_i M3 a0 13) r13 → g_ok M18 → g_InR ((g_i M18 a0 13) + 1) ∧ (∀ M23, M23 = g_wi M18 a0 13 ((g_i M18 a0 13) + 1) → g_ok M23 → Q M23))))) : g_Run d 309 16 [(0, .ref a0), (1, g_n v1)] [g_n w0, .ref c1] M (g_qV Q) := by
  refine g_Run.ok fun hok => ?_
  replace h := h hok
  obtain ⟨hO1, h⟩ := h
  obtain ⟨h2, h⟩ := h
  refine r_putI x_309_16 (ci := 12) (k := 14) (ns := 0) (by decide +kernel) (by decide) (g_fZ h2 (by decide +kernel)) rfl hw0 (g_zx h2 rfl).2 (kz := 14) rfl hO1 ?_
  obtain ⟨M3, hM4⟩ : ∃ Mz, Mz = g_wi M c1 14 w0 := ⟨_, rfl⟩
  rw [← hM4]
  refine g_Run.ok fun hok5 => ?_
  replace h := h M3 hM4 hok5
  have hx6 := g_extW hM4
  replace hO1 := hO1.up hx6
  refine r_aload_n x_309_19 rfl ?_
  obtain ⟨hO7, h⟩ := h
  obtain ⟨b8, hb9, h⟩ := h
  refine r_getR x_309_20 rfl (ci := 12) (k := 12) (ns := 0) (by decide +kernel) (by decide) rfl (kz := 12) rfl hO7 hb9 ?_
  refine r_aload_n x_309_23 rfl ?_
  refine r_getI x_309_24 rfl (ci := 12) (k := 13) (ns := 0) (by decide +kernel) (by decide) rfl (kz := 13) rfl hO7 ?_
  refine r_aload_n x_309_27 rfl ?_
  refine r_iload_n x_309_28 rfl ?_
  refine r_invV x_309_29 (z := 233) (ns := 0) (by decide +kernel) (as := [g_n v1]) (r := [g_n (g_i M3 a0 13), .ref b8]) rfl rfl rfl hO7 rfl rfl ?_
  refine r_callI h fun r13 M10 hx11 hok12 hr14 h => ?_
  replace h := h hx11 hok12 hr14
  replace hO1 := hO1.up hx11
  replace hO7 := hO7.up hx11
  obtain ⟨n15, hA16, h⟩ := h
  obtain ⟨h17, h⟩ := h
  refine r_iast x_309_32 hA16 (hok5.1 _ _) h17.1 h17.2 hr14 ?_
  obtain ⟨M18, hM19⟩ : ∃ Mz, Mz = g_wi M10 b8 (g_i M3 a0 13) r13 := ⟨_, rfl⟩
  rw [← hM19]
  refine g_Run.ok fun hok20 => ?_
  replace h := h M18 hM19 hok20
  have hx21 := g_extW hM19
  replace hO1 := hO1.up hx21
  replace hO7 := hO7.up hx21
  replace hA16 := hA16.up hx21
  refine r_aload_n x_309_33 rfl ?_
  refine r_dup x_309_34 rfl ?_
  refine r_getI x_309_35 rfl (ci := 12) (k := 13) (ns := 0) (by decide +kernel) (by decide) rfl (kz := 13) rfl hO7 ?_
  refine r_iconst x_309_38 ?_
  refine r_iadd x_309_39 ?_
  obtain ⟨h22, h⟩ := h
  refine r_putI x_309_40 (ci := 12) (k := 13) (ns := 0) (by decide +kernel) (by decide) (g_f0 (by decide +kernel)) rfl h22 trivial (kz := 13) rfl hO7 ?_
  obtain ⟨M23, hM24⟩ : ∃ Mz, Mz = g_wi M18 a0 13 ((g_i M18 a0 13) + 1) := ⟨_, rfl⟩
  rw [← hM24]
  refine g_Run.ok fun hok25 => ?_
  replace h := h M23 hM24 hok25
  have hx26 := g_extW hM24
  replace hO1 := hO1.up hx26
  replace hO7 := hO7.up hx26
  replace hA16 := hA16.up hx26
  exact r_retV x_309_43 rfl h
theorem m_X12_fromOutermost {d : Nat} {M : g_M} {Q : g_M → Prop} {a0 : Nat} (h : g_ok M → g_O M a0 12 ∧ ∃ b2, g_r M a0 12 = some b2 ∧ ∃ n4, g_A M b2 1 n4 ∧ ((0 : Int) ≤ 0 ∧ (0 : Int) < n4) ∧ (∀ M7, M7 = g_wi M b2 0 922000 → g_ok M7 → (∀ M11, M11 = g_wi M7 a0 13 1 → g_ok M11 → (∀ M15, M15 = g_wi M11 a0 14 0 → g_ok M15 → Q M15)))) : g_Call (d + 1) 310 [.ref a0] M (g_qV Q) := by
  refine g_Call.ok fun hok0 => ?_
  replace h := h hok0
  refine r_body rfl (lv := [(0, .ref a0)]) rfl ?_
  refine g_Run.ok fun hok => ?_
  refine r_aload_n x_310_0 rfl ?_
  obtain ⟨hO1, h⟩ := h
  obtain ⟨b2, hb3, h⟩ := h
  refine r_getR x_310_1 rfl (ci := 12) (k := 12) (ns := 0) (by decide +kernel) (by decide) rfl (kz := 12) rfl hO1 hb3 ?_
  refine r_iconst x_310_4 ?_
  refine r_ldcw x_310_5 (v := g_n 922000) rfl ?_
  obtain ⟨n4, hA5, h⟩ := h
  obtain ⟨h6, h⟩ := h
  refine r_iast x_310_8 hA5 (g_Rk rfl) h6.1 h6.2 (g_Rk rfl) ?_
  obtain ⟨M7, hM8⟩ : ∃ Mz, Mz = g_wi M b2 0 922000 := ⟨_, rfl⟩
  rw [← hM8]
  refine g_Run.ok fun hok9 => ?_
  replace h := h M7 hM8 hok9
  have hx10 := g_extW hM8
  replace hO1 := hO1.up hx10
  replace hA5 := hA5.up hx10
  refine r_aload_n x_310_9 rfl ?_
  refine r_iconst x_310_10 ?_
  refine r_putI x_310_11 (ci := 12) (k := 13) (ns := 0) (by decide +kernel) (by decide) (g_f0 (by decide +kernel)) rfl (g_Rk rfl) trivial (kz := 13) rfl hO1 ?_
  obtain ⟨M11, hM12⟩ : ∃ Mz, Mz = g_wi M7 a0 13 1 := ⟨_, rfl⟩
  rw [← hM12]
  refine g_Run.ok fun hok13 => ?_
  replace h := h M11 hM12 hok13
  have hx14 := g_extW hM12
  replace hO1 := hO1.up hx14
  replace hA5 := hA5.up hx14
  refine r_aload_n x_310_14 rfl ?_
  refine r_iconst x_310_15 ?_
  refine r_putI x_310_16 (ci := 12) (k := 14) (ns := 0) (by decide +kernel) (by decide) (g_fZ (Or.inl rfl) (by decide +kernel)) rfl (g_Rk rfl) (g_zx (Or.inl rfl) rfl).2 (kz := 14) rfl hO1 ?_
  obtain ⟨M15, hM16⟩ : ∃ Mz, Mz = g_wi M11 a0 14 0 := ⟨_, rfl⟩
  rw [← hM16]
  refine g_Run.ok fun hok17 => ?_
  replace h := h M15 hM16 hok17
  have hx18 := g_extW hM16
  replace hO1 := hO1.up hx18
  replace hA5 := hA5.up hx18
  exact r_retV x_310_19 rfl h
theorem m_X12_meet {d : Nat} {M : g_M} {Q : Int → g_M → Prop} {a0 : Nat} {v1 : Int} (hv1 : g_InR v1) {v2 : Int} (hv2 : g_InR v2) (h : g_ok M → g_O M a0 12 ∧ ∃ b2, g_r M a0 12 = some b2 ∧ g_InR ((g_i M a0 13) - 1) ∧ ∃ n5, g_A M b2 1 n5 ∧ ((0 : Int) ≤ (g_i M a0 13) - 1 ∧ ((g_i M a0 13) - 1 : Int) < n5) ∧ ((g_i M a0 14 = 0 → g_Call d 240 [.ref a0, g_n (g_i M b2 ((g_i M a0 13) - 1)), g_n v1, g_n v2] M (g_qI fun r21 M18 => g_ext M M18 → g_ok M18 → g_InR r21 → Q r21 M18)) ∧ (¬ g_i M a0 14 = 0 → g_Call d 276 [.ref a0, g_n v1, g_n v2] M (g_qI fun r11 M8 => g_ext M M8 → g_ok M8 → g_InR r11 → ((r11 < 0 → Q ((-1)) M8) ∧ (¬ r11 < 0 → g_Call d 241 [.ref a0, g_n (g_i M b2 ((g_i M a0 13) - 1)), g_n r11] M8 (g_qI fun r16 M13 => g_ext M8 M13 → g_ok M13 → g_InR r16 → Q r16 M13))))))) : g_Call (d + 1) 311 [.ref a0, g_n v1, g_n v2] M (g_qI Q) := by
  refine g_Call.ok fun hok0 => ?_
  replace h := h hok0
  refine r_body rfl (lv := [(0, .ref a0), (1, g_n v1), (2, g_n v2)]) rfl ?_
  refine g_Run.ok fun hok => ?_
  refine r_aload_n x_311_0 rfl ?_
  obtain ⟨hO1, h⟩ := h
  obtain ⟨b2, hb3, h⟩ := h
  refine r_getR x_311_1 rfl (ci := 12) (k := 12) (ns := 0) (by decide +kernel) (by decide) rfl (kz := 12) rfl hO1 hb3 ?_
  refine r_aload_n x_311_4 rfl ?_
  refine r_getI x_311_5 rfl (ci := 12) (k := 13) (ns := 0) (by decide +kernel) (by decide) rfl (kz := 13) rfl hO1 ?_
  refine r_iconst x_311_8 ?_
  refine r_isub x_311_9 ?_
  obtain ⟨h4, h⟩ := h
  obtain ⟨n5, hA6, h⟩ := h
  obtain ⟨h7, h⟩ := h
  refine r_iald x_311_10 hA6 h4 h7.1 h7.2 ?_
  refine r_istore_n x_311_11 (by decide +kernel) rfl (lv1 := [(0, .ref a0), (1, g_n v1), (2, g_n v2), (3, g_n (g_i M b2 ((g_i M a0 13) - 1)))]) rfl ?_
  refine r_aload_n x_311_12 rfl ?_
  refine r_getI x_311_13 rfl (ci := 12) (k := 14) (ns := 0) (by decide +kernel) (by decide) rfl (kz := 14) rfl hO1 ?_
  refine r_if_ne x_311_16 (t := 27) (by decide +kernel) (hok.1 _ _) (fun hc => ?_) (fun hc => ?_)
  · replace h := h.2 hc
    refine r_aload_n x_311_27 rfl ?_
    refine r_iload_n x_311_28 rfl ?_
    refine r_iload_n x_311_29 rfl ?_
    refine r_invV x_311_30 (z := 276) (ns := 0) (by decide +kernel) (as := [g_n v1, g_n v2]) (r := []) rfl rfl rfl hO1 rfl rfl ?_
    refine r_callI h fun r11 M8 hx9 hok10 hr12 h => ?_
    replace h := h hx9 hok10 hr12
    replace hO1 := hO1.up hx9
    replace hA6 := hA6.up hx9
    refine r_istore x_311_33 (by decide +kernel) rfl (lv1 := [(0, .ref a0), (1, g_n v1), (2, g_n v2), (3, g_n (g_i M b2 ((g_i M a0 13) - 1))), (4, g_n r11)]) rfl ?_
    refine r_iload x_311_35 rfl ?_
    refine r_if_ge x_311_37 (t := 44) (by decide +kernel) hr12 (fun hc => ?_) (fun hc => ?_)
    · replace h := h.2 hc
      refine r_aload_n x_311_44 rfl ?_
      refine r_iload_n x_311_45 rfl ?_
      refine r_iload x_311_46 rfl ?_
      refine r_invV x_311_48 (z := 241) (ns := 0) (by decide +kernel) (as := [g_n (g_i M b2 ((g_i M a0 13) - 1)), g_n r11]) (r := []) rfl rfl rfl hO1 rfl rfl ?_
      refine r_callI h fun r16 M13 hx14 hok15 hr17 h => ?_
      replace h := h hx14 hok15 hr17
      replace hO1 := hO1.up hx14
      replace hA6 := hA6.up hx14
      exact r_retI x_311_51 rfl hr17 h
    · replace h := h.1 hc
      refine r_iconst x_311_40 ?_
      refine r_goto x_311_41 (t := 51) (by decide +kernel) ?_
      exact r_retI x_311_51 rfl (g_Rk rfl) h
  · replace h := h.1 hc
    refine r_aload_n x_311_19 rfl ?_
    refine r_iload_n x_311_20 rfl ?_
    refine r_iload_n x_311_21 rfl ?_
    refine r_iload_n x_311_22 rfl ?_
    refine r_invV x_311_23 (z := 240) (ns := 0) (by decide +kernel) (as := [g_n (g_i M b2 ((g_i M a0 13) - 1)), g_n v1, g_n v2]) (r := []) rfl rfl rfl hO1 rfl rfl ?_
    refine r_callI h fun r21 M18 hx19 hok20 hr22 h => ?_
    replace h := h hx19 hok20 hr22
    replace hO1 := hO1.up hx19
    replace hA6 := hA6.up hx19
    exact r_retI x_311_26 rfl hr22 h
theorem m_X12_make {d : Nat} {M : g_M} {Q : Int → g_M → Prop} {a0 : Nat} {v1 : Int} (hv1 : g_InR v1) {v2 : Int} (hv2 : g_InR v2) (h : g_ok M → g_O M a0 12 ∧ g_Call d 310 [.ref a0] M (g_qV fun M2 => g_ext M M2 → g_ok M2 → g_Run d 312 6 [(0, .ref a0), (1, g_n v1), (2, g_n v2), (3, g_n v1)] [] M2 (g_qI Q))) : g_Call (d + 1) 312 [.ref a0, g_n v1, g_n v2] M (g_qI Q) := by
  refine g_Call.ok fun hok0 => ?_
  replace h := h hok0
  refine r_body rfl (lv := [(0, .ref a0), (1, g_n v1), (2, g_n v2)]) rfl ?_
  refine g_Run.ok fun hok => ?_
  refine r_aload_n x_312_0 rfl ?_
  obtain ⟨hO1, h⟩ := h
  refine r_invV x_312_1 (z := 310) (ns := 0) (by decide +kernel) (as := []) (r := []) rfl rfl rfl hO1 rfl rfl ?_
  refine r_callV h fun M2 hx3 hok4 h => ?_
  replace h := h hx3 hok4
  replace hO1 := hO1.up hx3
  refine r_iload_n x_312_4 rfl ?_
  refine r_istore_n x_312_5 (by decide +kernel) rfl (lv1 := [(0, .ref a0), (1, g_n v1), (2, g_n v2), (3, g_n v1)]) rfl ?_
  exact h
theorem s_X12_make_6 {d : Nat} {M : g_M} {Q : Int → g_M → Prop} {a0 : Nat} {v1 : Int} (hv1 : g_InR v1) {v2 : Int} (hv2 : g_InR v2) {v3 : Int} (hv3 : g_InR v3) (h : g_ok M → g_O M a0 12 ∧ g_Call d 272 [.ref a0, g_n v3, g_n v2] M (g_qI fun r5 M2 => g_ext M M2 → g_ok M2 → g_InR r5 → ((g_i M2 a0 14 = 0 → g_Run d 312 32 [(0, .ref a0), (1, g_n v1), (2, g_n v2), (3, g_n v3), (4, g_n r5)] [g_n 0] M2 (g_qI Q)) ∧ (¬ g_i M2 a0 14 = 0 → g_Call d 276 [.ref a0, g_n v3, g_n r5] M2 (g_qI fun r10 M7 => g_ext M2 M7 → g_ok M7 → g_InR r10 → g_Run d 312 32 [(0, .ref a0), (1, g_n v1), (2, g_n v2), (3, g_n v3), (4, g_n r5)] [g_n r10] M7 (g_qI Q)))))) : g_Run d 312 6 [(0, .ref a0), (1, g_n v1), (2, g_n v2), (3, g_n v3)] [] M (g_qI Q) := by
  refine g_Run.ok fun hok => ?_
  replace h := h hok
  refine r_aload_n x_312_6 rfl ?_
  refine r_iload_n x_312_7 rfl ?_
  refine r_iload_n x_312_8 rfl ?_
  obtain ⟨hO1, h⟩ := h
  refine r_invV x_312_9 (z := 272) (ns := 0) (by decide +kernel) (as := [g_n v3, g_n v2]) (r := []) rfl rfl rfl hO1 rfl rfl ?_
  refine r_callI h fun r5 M2 hx3 hok4 hr6 h => ?_
  replace h := h hx3 hok4 hr6
  replace hO1 := hO1.up hx3
  refine r_istore x_312_12 (by decide +kernel) rfl (lv1 := [(0, .ref a0), (1, g_n v1), (2, g_n v2), (3, g_n v3), (4, g_n r5)]) rfl ?_
  refine r_aload_n x_312_14 rfl ?_
  refine r_getI x_312_15 rfl (ci := 12) (k := 14) (ns := 0) (by decide +kernel) (by decide) rfl (kz := 14) rfl hO1 ?_
  refine r_if_eq x_312_18 (t := 31) (by decide +kernel) (hok4.1 _ _) (fun hc => ?_) (fun hc => ?_)
  · replace h := h.1 hc
    refine r_iconst x_312_31 ?_
    exact h
  · replace h := h.2 hc
    refine r_aload_n x_312_21 rfl ?_
    refine r_iload_n x_312_22 rfl ?_
    refine r_iload x_312_23 rfl ?_
    refine r_invV x_312_25 (z := 276) (ns := 0) (by decide +kernel) (as := [g_n v3, g_n r5]) (r := []) rfl rfl rfl hO1 rfl rfl ?_
    refine r_callI h fun r10 M7 hx8 hok9 hr11 h => ?_
    replace h := h hx8 hok9 hr11
    replace hO1 := hO1.up hx8
    refine r_goto x_312_28 (t := 32) (by decide +kernel) ?_
    exact h
theorem s_X12_make_32 {d : Nat} {M : g_M} {Q : Int → g_M → Prop} {a0 : Nat} {v1 : Int} (hv1 : g_InR v1) {v2 : Int} (hv2 : g_InR v2) {v3 : Int} (hv3 : g_InR v3) {v4 : Int} (hv4 : g_InR v4) {w0 : Int} (hw0 : g_InR w0) (h : g_ok M → g_O M a0 12 ∧ ((g_i M a0 14 = 0 → g_Run d 312 69 [(0, .ref a0), (1, g_n v1), (2, g_n v2), (3, g_n v3), (4, g_n v4), (5, g_n w0)] [] M (g_qI Q)) ∧ (¬ g_i M a0 14 = 0 → ((w0 < 0 → Q ((-2)) M) ∧ (¬ w0 < 0 → ∃ b2, g_r M a0 12 = some b2 ∧ g_InR ((g_i M a0 13) - 1) ∧ ∃ n5, g_A M b2 1 n5 ∧ ((0 : Int) ≤ (g_i M a0 13) - 1 ∧ ((g_i M a0 13) - 1 : Int) < n5) ∧ g_Call d 239 [.ref a0, g_n (g_i M b2 ((g_i M a0 13) - 1))] M (g_qI fun r11 M8 => g_ext M M8 → g_ok M8 → g_InR r11 → ((r11 < w0 → Q ((-2)) M8) ∧ (¬ r11 < w0 → g_Run d 312 69 [(0, .ref a0), (1, g_n v1), (2, g_n v2), (3, g_n v3), (4, g_n v4), (5, g_n w0)] [] M8 (g_qI Q))))))))) : g_Run d 312 32 [(0, .ref a0), (1, g_n v1), (2, g_n v2), (3, g_n v3), (4, g_n v4)] [g_n w0] M (g_qI Q) := by
  refine g_Run.ok fun hok => ?_
  replace h := h hok
  refine r_istore x_312_32 (by decide +kernel) rfl (lv1 := [(0, .ref a0), (1, g_n v1), (2, g_n v2), (3, g_n v3), (4, g_n v4), (5, g_n w0)]) rfl ?_
  refine r_aload_n x_312_34 rfl ?_
  obtain ⟨hO1, h⟩ := h
  refine r_getI x_312_35 rfl (ci := 12) (k := 14) (ns := 0) (by decide +kernel) (by decide) rfl (kz := 14) rfl hO1 ?_
  refine r_if_eq x_312_38 (t := 69) (by decide +kernel) (hok.1 _ _) (fun hc => ?_) (fun hc => ?_)
  · replace h := h.1 hc
    exact h
  · replace h := h.2 hc
    refine r_iload x_312_41 rfl ?_
    refine r_if_lt x_312_43 (t := 66) (by decide +kernel) hw0 (fun hc => ?_) (fun hc => ?_)
    · replace h := h.1 hc
      refine r_bipush x_312_66 (x := (-2)) rfl ?_
      exact r_retI x_312_68 rfl (g_Rk rfl) h
    · replace h := h.2 hc
      refine r_iload x_312_46 rfl ?_
      refine r_aload_n x_312_48 rfl ?_
      refine r_aload_n x_312_49 rfl ?_
      obtain ⟨b2, hb3, h⟩ := h
      refine r_getR x_312_50 rfl (ci := 12) (k := 12) (ns := 0) (by decide +kernel) (by decide) rfl (kz := 12) rfl hO1 hb3 ?_
      refine r_aload_n x_312_53 rfl ?_
      refine r_getI x_312_54 rfl (ci := 12) (k := 13) (ns := 0) (by decide +kernel) (by decide) rfl (kz := 13) rfl hO1 ?_
      refine r_iconst x_312_57 ?_
      refine r_isub x_312_58 ?_
      obtain ⟨h4, h⟩ := h
      obtain ⟨n5, hA6, h⟩ := h
      obtain ⟨h7, h⟩ := h
      refine r_iald x_312_59 hA6 h4 h7.1 h7.2 ?_
      refine r_invV x_312_60 (z := 239) (ns := 0) (by decide +kernel) (as := [g_n (g_i M b2 ((g_i M a0 13) - 1))]) (r := [g_n w0]) rfl rfl rfl hO1 rfl rfl ?_
      refine r_callI h fun r11 M8 hx9 hok10 hr12 h => ?_
      replace h := h hx9 hok10 hr12
      replace hO1 := hO1.up hx9
      replace hA6 := hA6.up hx9
      refine r_ic_le x_312_63 (t := 69) (by decide +kernel) hw0 hr12 (fun hc => ?_) (fun hc => ?_)
      · replace h := h.2 hc
        exact h
      · replace h := h.1 hc
        refine r_bipush x_312_66 (x := (-2)) rfl ?_
        exact r_retI x_312_68 rfl (g_Rk rfl) h
theorem s_X12_make_69 {d : Nat} {M : g_M} {Q : Int → g_M → Prop} {a0 : Nat} {v1 : Int} (hv1 : g_InR v1) {v2 : Int} (hv2 : g_InR v2) {v3 : Int} (hv3 : g_InR v3) {v4 : Int} (hv4 : g_InR v4) {v5 : Int} (hv5 : g_InR v5) (h : g_ok M → g_O M a0 12 ∧ g_Call d 311 [.ref a0, g_n v3, g_n v4] M (g_qI fun r5 M2 => g_ext M M2 → g_ok M2 → g_InR r5 → (∀ M7, M7 = g_wi M2 a0 15 v3 → g_ok M7 → (∀ M11, M11 = g_wi M7 a0 16 v4 → g_ok M11 → ((v4 = v2 → Q r5 M11) ∧ (¬ v4 = v2 → ((r5 = (-1) → g_Call d 307 [.ref a0] M11 (g_qV fun M15 => g_ext M11 M15 → g_ok M15 → g_Call d 246 [.ref a0, g_n 3] M15 (g_qV fun M18 => g_ext M15 M18 → g_ok M18 → g_Call d 248 [.ref a0, g_n v3, g_n v4] M18 (g_qV fun M21 => g_ext M18 M21 → g_ok M21 → g_Call d 246 [.ref a0, g_n 0] M21 (g_qV fun M24 => g_ext M21 M24 → g_ok M24 → g_Call d 247 [.ref a0, g_n 5] M24 (g_qV fun M27 => g_ext M24 M27 → g_ok M27 → g_Call d 246 [.ref a0, g_n 0] M27 (g_qV fun M30 => g_ext M27 M30 → g_ok M30 → g_Call d 308 [.ref a0] M30 (g_qI fun r36 M33 => g_ext M30 M33 → g_ok M33 → g_InR r36 → g_Run d 312 141 [(0, .ref a0), (1, g_n v1), (2, g_n v2), (3, g_n v3), (4, g_n v4), (5, g_n v5), (6, g_n r36)] [] M33 (g_qI Q))))))))) ∧ (¬ r5 = (-1) → g_Run d 312 141 [(0, .ref a0), (1, g_n v1), (2, g_n v2), (3, g_n v3), (4, g_n v4), (5, g_n v5), (6, g_n r5)] [] M11 (g_qI Q))))))))) : g_Run d 312 69 [(0, .ref a0), (1, g_n v1), (2, g_n v2), (3, g_n v3), (4, g_n v4), (5, g_n v5)] [] M (g_qI Q) := by
  refine g_Run.ok fun hok => ?_
  replace h := h hok
  refine r_aload_n x_312_69 rfl ?_
  refine r_iload_n x_312_70 rfl ?_
  refine r_iload x_312_71 rfl ?_
  obtain ⟨hO1, h⟩ := h
  refine r_invV x_312_73 (z := 311) (ns := 0) (by decide +kernel) (as := [g_n v3, g_n v4]) (r := []) rfl rfl rfl hO1 rfl rfl ?_
  refine r_callI h fun r5 M2 hx3 hok4 hr6 h => ?_
  replace h := h hx3 hok4 hr6
  replace hO1 := hO1.up hx3
  refine r_istore x_312_76 (by decide +kernel) rfl (lv1 := [(0, .ref a0), (1, g_n v1), (2, g_n v2), (3, g_n v3), (4, g_n v4), (5, g_n v5), (6, g_n r5)]) rfl ?_
  refine r_aload_n x_312_78 rfl ?_
  refine r_iload_n x_312_79 rfl ?_
  refine r_putI x_312_80 (ci := 12) (k := 15) (ns := 0) (by decide +kernel) (by decide) (g_f0 (by decide +kernel)) rfl hv3 trivial (kz := 15) rfl hO1 ?_
  obtain ⟨M7, hM8⟩ : ∃ Mz, Mz = g_wi M2 a0 15 v3 := ⟨_, rfl⟩
  rw [← hM8]
  refine g_Run.ok fun hok9 => ?_
  replace h := h M7 hM8 hok9
  have hx10 := g_extW hM8
  replace hO1 := hO1.up hx10
  refine r_aload_n x_312_83 rfl ?_
  refine r_iload x_312_84 rfl ?_
  refine r_putI x_312_86 (ci := 12) (k := 16) (ns := 0) (by decide +kernel) (by decide) (g_f0 (by decide +kernel)) rfl hv4 trivial (kz := 16) rfl hO1 ?_
  obtain ⟨M11, hM12⟩ : ∃ Mz, Mz = g_wi M7 a0 16 v4 := ⟨_, rfl⟩
  rw [← hM12]
  refine g_Run.ok fun hok13 => ?_
  replace h := h M11 hM12 hok13
  have hx14 := g_extW hM12
  replace hO1 := hO1.up hx14
  refine r_iload x_312_89 rfl ?_
  refine r_iload_n x_312_91 rfl ?_
  refine r_ic_ne x_312_92 (t := 98) (by decide +kernel) hv4 hv2 (fun hc => ?_) (fun hc => ?_)
  · replace h := h.2 hc
    refine r_iload x_312_98 rfl ?_
    refine r_iconst x_312_100 ?_
    refine r_ic_ne x_312_101 (t := 141) (by decide +kernel) hr6 (g_Rk rfl) (fun hc => ?_) (fun hc => ?_)
    · replace h := h.2 hc
      exact h
    · replace h := h.1 hc
      refine r_aload_n x_312_104 rfl ?_
      refine r_invV x_312_105 (z := 307) (ns := 0) (by decide +kernel) (as := []) (r := []) rfl rfl rfl hO1 rfl rfl ?_
      refine r_callV h fun M15 hx16 hok17 h => ?_
      replace h := h hx16 hok17
      replace hO1 := hO1.up hx16
      refine r_aload_n x_312_108 rfl ?_
      refine r_iconst x_312_109 ?_
      refine r_invV x_312_110 (z := 246) (ns := 0) (by decide +kernel) (as := [g_n 3]) (r := []) rfl rfl rfl hO1 rfl rfl ?_
      refine r_callV h fun M18 hx19 hok20 h => ?_
      replace h := h hx19 hok20
      replace hO1 := hO1.up hx19
      refine r_aload_n x_312_113 rfl ?_
      refine r_iload_n x_312_114 rfl ?_
      refine r_iload x_312_115 rfl ?_
      refine r_invV x_312_117 (z := 248) (ns := 0) (by decide +kernel) (as := [g_n v3, g_n v4]) (r := []) rfl rfl rfl hO1 rfl rfl ?_
      refine r_callV h fun M21 hx22 hok23 h => ?_
      replace h := h hx22 hok23
      replace hO1 := hO1.up hx22
      refine r_aload_n x_312_120 rfl ?_
      refine r_iconst x_312_121 ?_
      refine r_invV x_312_122 (z := 246) (ns := 0) (by decide +kernel) (as := [g_n 0]) (r := []) rfl rfl rfl hO1 rfl rfl ?_
      refine r_callV h fun M24 hx25 hok26 h => ?_
      replace h := h hx25 hok26
      replace hO1 := hO1.up hx25
      refine r_aload_n x_312_125 rfl ?_
      refine r_iconst x_312_126 ?_
      refine r_invV x_312_127 (z := 247) (ns := 0) (by decide +kernel) (as := [g_n 5]) (r := []) rfl rfl rfl hO1 rfl rfl ?_
      refine r_callV h fun M27 hx28 hok29 h => ?_
      replace h := h hx28 hok29
      replace hO1 := hO1.up hx28
      refine r_aload_n x_312_130 rfl ?_
      refine r_iconst x_312_131 ?_
      refine r_invV x_312_132 (z := 246) (ns := 0) (by decide +kernel) (as := [g_n 0]) (r := []) rfl rfl rfl hO1 rfl rfl ?_
      refine r_callV h fun M30 hx31 hok32 h => ?_
      replace h := h hx31 hok32
      replace hO1 := hO1.up hx31
      refine r_aload_n x_312_135 rfl ?_
      refine r_invV x_312_136 (z := 308) (ns := 0) (by decide +kernel) (as := []) (r := []) rfl rfl rfl hO1 rfl rfl ?_
      refine r_callI h fun r36 M33 hx34 hok35 hr37 h => ?_
      replace h := h hx34 hok35 hr37
      replace hO1 := hO1.up hx34
      refine r_istore x_312_139 (by decide +kernel) rfl (lv1 := [(0, .ref a0), (1, g_n v1), (2, g_n v2), (3, g_n v3), (4, g_n v4), (5, g_n v5), (6, g_n r36)]) rfl ?_
      exact h
  · replace h := h.1 hc
    refine r_iload x_312_95 rfl ?_
    exact r_retI x_312_97 rfl hr6 h
theorem s_X12_make_141 {d : Nat} {M : g_M} {Q : Int → g_M → Prop} {a0 : Nat} {v1 : Int} (hv1 : g_InR v1) {v2 : Int} (hv2 : g_InR v2) {v3 : Int} (hv3 : g_InR v3) {v4 : Int} (hv4 : g_InR v4) {v5 : Int} (hv5 : g_InR v5) {v6 : Int} (hv6 : g_InR v6) (h : g_ok M → g_O M a0 12 ∧ ∃ b2, g_r M a0 0 = some b2 ∧ ∃ n4, g_A M b2 0 n4 ∧ ((0 : Int) ≤ v6 ∧ (v6 : Int) < n4) ∧ ((g_i M b2 v6 = 3 → g_Call d 309 [.ref a0, g_n v6] M (g_qV fun M7 => g_ext M M7 → g_ok M7 → g_InR (v4 + 1) ∧ g_Run d 312 6 [(0, .ref a0), (1, g_n v1), (2, g_n v2), (3, g_n (v4 + 1))] [] M7 (g_qI Q))) ∧ (¬ g_i M b2 v6 = 3 → ∃ b11, g_r M a0 0 = some b11 ∧ ∃ n13, g_A M b11 0 n13 ∧ ((0 : Int) ≤ v6 ∧ (v6 : Int) < n13) ∧ ((g_i M b11 v6 = 4 → g_Call d 309 [.ref a0, g_n v6] M (g_qV fun M16 => g_ext M M16 → g_ok M16 → g_InR (v4 + 1) ∧ g_Run d 312 6 [(0, .ref a0), (1, g_n v1), (2, g_n v2), (3, g_n (v4 + 1))] [] M16 (g_qI Q))) ∧ (¬ g_i M b11 v6 = 4 → Q ((-2)) M))))) : g_Run d 312 141 [(0, .ref a0), (1, g_n v1), (2, g_n v2), (3, g_n v3), (4, g_n v4), (5, g_n v5), (6, g_n v6)] [] M (g_qI Q) := by
  refine g_Run.ok fun hok => ?_
  replace h := h hok
  refine r_aload_n x_312_141 rfl ?_
  obtain ⟨hO1, h⟩ := h
  obtain ⟨b2, hb3, h⟩ := h
  refine r_getR x_312_142 rfl (ci := 12) (k := 0) (ns := 0) (by decide +kernel) (by decide) rfl (kz := 0) rfl hO1 hb3 ?_
  refine r_iload x_312_145 rfl ?_
  obtain ⟨n4, hA5, h⟩ := h
  obtain ⟨h6, h⟩ := h
  refine r_bald x_312_147 (Or.inl rfl) hA5 hv6 h6.1 h6.2 ?_
  refine r_iconst x_312_148 ?_
  refine r_ic_eq x_312_149 (t := 166) (by decide +kernel) (hok.1 _ _) (g_Rk rfl) (fun hc => ?_) (fun hc => ?_)
  · replace h := h.1 hc
    refine r_aload_n x_312_166 rfl ?_
    refine r_iload x_312_167 rfl ?_
    refine r_invV x_312_169 (z := 309) (ns := 0) (by decide +kernel) (as := [g_n v6]) (r := []) rfl rfl rfl hO1 rfl rfl ?_
    refine r_callV h fun M7 hx8 hok9 h => ?_
    replace h := h hx8 hok9
    replace hO1 := hO1.up hx8
    replace hA5 := hA5.up hx8
    refine r_iload x_312_172 rfl ?_
    refine r_iconst x_312_174 ?_
    refine r_iadd x_312_175 ?_
    obtain ⟨h10, h⟩ := h
    refine r_istore_n x_312_176 (by decide +kernel) rfl (lv1 := [(0, .ref a0), (1, g_n v1), (2, g_n v2), (3, g_n (v4 + 1)), (4, g_n v4), (5, g_n v5), (6, g_n v6)]) rfl ?_
    refine r_goto x_312_177 (t := 6) (by decide +kernel) ?_
    refine g_drop [0, 1, 2, 3] (lv1 := [(0, .ref a0), (1, g_n v1), (2, g_n v2), (3, g_n (v4 + 1))]) rfl ?_
    exact h
  · replace h := h.2 hc
    refine r_aload_n x_312_152 rfl ?_
    obtain ⟨b11, hb12, h⟩ := h
    refine r_getR x_312_153 rfl (ci := 12) (k := 0) (ns := 0) (by decide +kernel) (by decide) rfl (kz := 0) rfl hO1 hb12 ?_
    refine r_iload x_312_156 rfl ?_
    obtain ⟨n13, hA14, h⟩ := h
    obtain ⟨h15, h⟩ := h
    refine r_bald x_312_158 (Or.inl rfl) hA14 hv6 h15.1 h15.2 ?_
    refine r_iconst x_312_159 ?_
    refine r_ic_eq x_312_160 (t := 166) (by decide +kernel) (hok.1 _ _) (g_Rk rfl) (fun hc => ?_) (fun hc => ?_)
    · replace h := h.1 hc
      refine r_aload_n x_312_166 rfl ?_
      refine r_iload x_312_167 rfl ?_
      refine r_invV x_312_169 (z := 309) (ns := 0) (by decide +kernel) (as := [g_n v6]) (r := []) rfl rfl rfl hO1 rfl rfl ?_
      refine r_callV h fun M16 hx17 hok18 h => ?_
      replace h := h hx17 hok18
      replace hO1 := hO1.up hx17
      replace hA5 := hA5.up hx17
      replace hA14 := hA14.up hx17
      refine r_iload x_312_172 rfl ?_
      refine r_iconst x_312_174 ?_
      refine r_iadd x_312_175 ?_
      obtain ⟨h19, h⟩ := h
      refine r_istore_n x_312_176 (by decide +kernel) rfl (lv1 := [(0, .ref a0), (1, g_n v1), (2, g_n v2), (3, g_n (v4 + 1)), (4, g_n v4), (5, g_n v5), (6, g_n v6)]) rfl ?_
      refine r_goto x_312_177 (t := 6) (by decide +kernel) ?_
      refine g_drop [0, 1, 2, 3] (lv1 := [(0, .ref a0), (1, g_n v1), (2, g_n v2), (3, g_n (v4 + 1))]) rfl ?_
      exact h
    · replace h := h.2 hc
      refine r_bipush x_312_163 (x := (-2)) rfl ?_
      exact r_retI x_312_165 rfl (g_Rk rfl) h
theorem m_X12_reach {d : Nat} {M : g_M} {Q : Int → g_M → Prop} {a0 : Nat} {v1 : Int} (hv1 : g_InR v1) {v2 : Int} (hv2 : g_InR v2) (h : g_ok M → g_O M a0 12 ∧ g_Call d 310 [.ref a0] M (g_qV fun M2 => g_ext M M2 → g_ok M2 → g_Run d 313 6 [(0, .ref a0), (1, g_n v1), (2, g_n v2), (3, g_n v1)] [] M2 (g_qI Q))) : g_Call (d + 1) 313 [.ref a0, g_n v1, g_n v2] M (g_qI Q) := by
  refine g_Call.ok fun hok0 => ?_
  replace h := h hok0
  refine r_body rfl (lv := [(0, .ref a0), (1, g_n v1), (2, g_n v2)]) rfl ?_
  refine g_Run.ok fun hok => ?_
  refine r_aload_n x_313_0 rfl ?_
  obtain ⟨hO1, h⟩ := h
  refine r_invV x_313_1 (z := 310) (ns := 0) (by decide +kernel) (as := []) (r := []) rfl rfl rfl hO1 rfl rfl ?_
  refine r_callV h fun M2 hx3 hok4 h => ?_
  replace h := h hx3 hok4
  replace hO1 := hO1.up hx3
  refine r_iload_n x_313_4 rfl ?_
  refine r_istore_n x_313_5 (by decide +kernel) rfl (lv1 := [(0, .ref a0), (1, g_n v1), (2, g_n v2), (3, g_n v1)]) rfl ?_
  exact h
theorem s_X12_reach_6 {d : Nat} {M : g_M} {Q : Int → g_M → Prop} {a0 : Nat} {v1 : Int} (hv1 : g_InR v1) {v2 : Int} (hv2 : g_InR v2) {v3 : Int} (hv3 : g_InR v3) (h : g_ok M → g_O M a0 12 ∧ g_Call d 272 [.ref a0, g_n v3, g_n v2] M (g_qI fun r5 M2 => g_ext M M2 → g_ok M2 → g_InR r5 → g_Call d 311 [.ref a0, g_n v3, g_n r5] M2 (g_qI fun r10 M7 => g_ext M2 M7 → g_ok M7 → g_InR r10 → ((r10 = (-1) → Q r10 M7) ∧ (¬ r10 = (-1) → ((r5 = v2 → Q r10 M7) ∧ (¬ r5 = v2 → ∃ b12, g_r M7 a0 0 = some b12 ∧ ∃ n14, g_A M7 b12 0 n14 ∧ ((0 : Int) ≤ r10 ∧ (r10 : Int) < n14) ∧ ((g_i M7 b12 r10 = 3 → g_Call d 309 [.ref a0, g_n r10] M7 (g_qV fun M17 => g_ext M7 M17 → g_ok M17 → g_InR (r5 + 1) ∧ g_Run d 313 6 [(0, .ref a0), (1, g_n v1), (2, g_n v2), (3, g_n (r5 + 1))] [] M17 (g_qI Q))) ∧ (¬ g_i M7 b12 r10 = 3 → ∃ b21, g_r M7 a0 0 = some b21 ∧ ∃ n23, g_A M7 b21 0 n23 ∧ ((0 : Int) ≤ r10 ∧ (r10 : Int) < n23) ∧ ((g_i M7 b21 r10 = 4 → g_Call d 309 [.ref a0, g_n r10] M7 (g_qV fun M26 => g_ext M7 M26 → g_ok M26 → g_InR (r5 + 1) ∧ g_Run d 313 6 [(0, .ref a0), (1, g_n v1), (2, g_n v2), (3, g_n (r5 + 1))] [] M26 (g_qI Q))) ∧ (¬ g_i M7 b21 r10 = 4 → Q ((-1)) M7))))))))))) : g_Run d 313 6 [(0, .ref a0), (1, g_n v1), (2, g_n v2), (3, g_n v3)] [] M (g_qI Q) := by
  refine g_Run.ok fun hok => ?_
  replace h := h hok
  refine r_aload_n x_313_6 rfl ?_
  refine r_iload_n x_313_7 rfl ?_
  refine r_iload_n x_313_8 rfl ?_
  obtain ⟨hO1, h⟩ := h
  refine r_invV x_313_9 (z := 272) (ns := 0) (by decide +kernel) (as := [g_n v3, g_n v2]) (r := []) rfl rfl rfl hO1 rfl rfl ?_
  refine r_callI h fun r5 M2 hx3 hok4 hr6 h => ?_
  replace h := h hx3 hok4 hr6
  replace hO1 := hO1.up hx3
  refine r_istore x_313_12 (by decide +kernel) rfl (lv1 := [(0, .ref a0), (1, g_n v1), (2, g_n v2), (3, g_n v3), (4, g_n r5)]) rfl ?_
  refine r_aload_n x_313_14 rfl ?_
  refine r_iload_n x_313_15 rfl ?_
  refine r_iload x_313_16 rfl ?_
  refine r_invV x_313_18 (z := 311) (ns := 0) (by decide +kernel) (as := [g_n v3, g_n r5]) (r := []) rfl rfl rfl hO1 rfl rfl ?_
  refine r_callI h fun r10 M7 hx8 hok9 hr11 h => ?_
  replace h := h hx8 hok9 hr11
  replace hO1 := hO1.up hx8
  refine r_istore x_313_21 (by decide +kernel) rfl (lv1 := [(0, .ref a0), (1, g_n v1), (2, g_n v2), (3, g_n v3), (4, g_n r5), (5, g_n r10)]) rfl ?_
  refine r_iload x_313_23 rfl ?_
  refine r_iconst x_313_25 ?_
  refine r_ic_eq x_313_26 (t := 35) (by decide +kernel) hr11 (g_Rk rfl) (fun hc => ?_) (fun hc => ?_)
  · replace h := h.1 hc
    refine r_iload x_313_35 rfl ?_
    exact r_retI x_313_37 rfl hr11 h
  · replace h := h.2 hc
    refine r_iload x_313_29 rfl ?_
    refine r_iload_n x_313_31 rfl ?_
    refine r_ic_ne x_313_32 (t := 38) (by decide +kernel) hr6 hv2 (fun hc => ?_) (fun hc => ?_)
    · replace h := h.2 hc
      refine r_aload_n x_313_38 rfl ?_
      obtain ⟨b12, hb13, h⟩ := h
      refine r_getR x_313_39 rfl (ci := 12) (k := 0) (ns := 0) (by decide +kernel) (by decide) rfl (kz := 0) rfl hO1 hb13 ?_
      refine r_iload x_313_42 rfl ?_
      obtain ⟨n14, hA15, h⟩ := h
      obtain ⟨h16, h⟩ := h
      refine r_bald x_313_44 (Or.inl rfl) hA15 hr11 h16.1 h16.2 ?_
      refine r_iconst x_313_45 ?_
      refine r_ic_eq x_313_46 (t := 62) (by decide +kernel) (hok9.1 _ _) (g_Rk rfl) (fun hc => ?_) (fun hc => ?_)
      · replace h := h.1 hc
        refine r_aload_n x_313_62 rfl ?_
        refine r_iload x_313_63 rfl ?_
        refine r_invV x_313_65 (z := 309) (ns := 0) (by decide +kernel) (as := [g_n r10]) (r := []) rfl rfl rfl hO1 rfl rfl ?_
        refine r_callV h fun M17 hx18 hok19 h => ?_
        replace h := h hx18 hok19
        replace hO1 := hO1.up hx18
        replace hA15 := hA15.up hx18
        refine r_iload x_313_68 rfl ?_
        refine r_iconst x_313_70 ?_
        refine r_iadd x_313_71 ?_
        obtain ⟨h20, h⟩ := h
        refine r_istore_n x_313_72 (by decide +kernel) rfl (lv1 := [(0, .ref a0), (1, g_n v1), (2, g_n v2), (3, g_n (r5 + 1)), (4, g_n r5), (5, g_n r10)]) rfl ?_
        refine r_goto x_313_73 (t := 6) (by decide +kernel) ?_
        refine g_drop [0, 1, 2, 3] (lv1 := [(0, .ref a0), (1, g_n v1), (2, g_n v2), (3, g_n (r5 + 1))]) rfl ?_
        exact h
      · replace h := h.2 hc
        refine r_aload_n x_313_49 rfl ?_
        obtain ⟨b21, hb22, h⟩ := h
        refine r_getR x_313_50 rfl (ci := 12) (k := 0) (ns := 0) (by decide +kernel) (by decide) rfl (kz := 0) rfl hO1 hb22 ?_
        refine r_iload x_313_53 rfl ?_
        obtain ⟨n23, hA24, h⟩ := h
        obtain ⟨h25, h⟩ := h
        refine r_bald x_313_55 (Or.inl rfl) hA24 hr11 h25.1 h25.2 ?_
        refine r_iconst x_313_56 ?_
        refine r_ic_eq x_313_57 (t := 62) (by decide +kernel) (hok9.1 _ _) (g_Rk rfl) (fun hc => ?_) (fun hc => ?_)
        · replace h := h.1 hc
          refine r_aload_n x_313_62 rfl ?_
          refine r_iload x_313_63 rfl ?_
          refine r_invV x_313_65 (z := 309) (ns := 0) (by decide +kernel) (as := [g_n r10]) (r := []) rfl rfl rfl hO1 rfl rfl ?_
          refine r_callV h fun M26 hx27 hok28 h => ?_
          replace h := h hx27 hok28
          replace hO1 := hO1.up hx27
          replace hA15 := hA15.up hx27
          replace hA24 := hA24.up hx27
          refine r_iload x_313_68 rfl ?_
          refine r_iconst x_313_70 ?_
          refine r_iadd x_313_71 ?_
          obtain ⟨h29, h⟩ := h
          refine r_istore_n x_313_72 (by decide +kernel) rfl (lv1 := [(0, .ref a0), (1, g_n v1), (2, g_n v2), (3, g_n (r5 + 1)), (4, g_n r5), (5, g_n r10)]) rfl ?_
          refine r_goto x_313_73 (t := 6) (by decide +kernel) ?_
          refine g_drop [0, 1, 2, 3] (lv1 := [(0, .ref a0), (1, g_n v1), (2, g_n v2), (3, g_n (r5 + 1))]) rfl ?_
          exact h
        · replace h := h.2 hc
          refine r_iconst x_313_60 ?_
          exact r_retI x_313_61 rfl (g_Rk rfl) h
    · replace h := h.1 hc
      refine r_iload x_313_35 rfl ?_
      exact r_retI x_313_37 rfl hr11 h
theorem m_X12_come {d : Nat} {M : g_M} {Q : g_M → Prop} {a0 : Nat} {v1 : Int} (hv1 : g_InR v1) {v2 : Int} (hv2 : g_InR v2) (h : g_ok M → ((v1 = (-1) → g_O M a0 12 ∧ g_InR ((g_i M a0 4) - 2606200) ∧ g_InR ((g_i M a0 16) - (g_i M a0 15)) ∧ g_InR (((g_i M a0 16) - (g_i M a0 15)) + 2) ∧ g_InR (((g_i M a0 4) - 2606200) - 1) ∧ g_Run d 314 67 [(0, .ref a0), (1, g_n v1), (2, g_n v2), (3, g_n ((g_i M a0 4) - 2606200)), (4, g_n (((g_i M a0 16) - (g_i M a0 15)) + 2)), (5, g_n (((g_i M a0 4) - 2606200) - 1))] [] M (g_qV Q)) ∧ (¬ v1 = (-1) → g_O M a0 12 ∧ ∃ b7, g_r M a0 0 = some b7 ∧ ∃ n9, g_A M b7 0 n9 ∧ ((0 : Int) ≤ v1 ∧ (v1 : Int) < n9) ∧ g_Call d 233 [.ref a0, g_n v1] M (g_qI fun r15 M12 => g_ext M M12 → g_ok M12 → g_InR r15 → g_Call d 234 [.ref a0, g_n (g_i M b7 v1), g_n r15] M12 (g_qI fun r20 M17 => g_ext M12 M17 → g_ok M17 → g_InR r20 → ∃ b22, g_r M17 a0 0 = some b22 ∧ ∃ n24, g_A M17 b22 0 n24 ∧ ((0 : Int) ≤ v1 ∧ (v1 : Int) < n24) ∧ (∀ M27, M27 = g_wi M17 b22 v1 (g_w8 (g_w8 v2)) → g_ok M27 → g_Call d 233 [.ref a0, g_n v1] M27 (g_qI fun r34 M31 => g_ext M27 M31 → g_ok M31 → g_InR r34 → g_Call d 306 [.ref a0, g_n r34, g_n r20] M31 (g_qV fun M36 => g_ext M31 M36 → g_ok M36 → Q M36)))))))) : g_Call (d + 1) 314 [.ref a0, g_n v1, g_n v2] M (g_qV Q) := by
  refine g_Call.ok fun hok0 => ?_
  replace h := h hok0
  refine r_body rfl (lv := [(0, .ref a0), (1, g_n v1), (2, g_n v2)]) rfl ?_
  refine g_Run.ok fun hok => ?_
  refine r_iload_n x_314_0 rfl ?_
  refine r_iconst x_314_1 ?_
  refine r_ic_eq x_314_2 (t := 40) (by decide +kernel) hv1 (g_Rk rfl) (fun hc => ?_) (fun hc => ?_)
  · replace h := h.1 hc
    refine r_aload_n x_314_40 rfl ?_
    obtain ⟨hO1, h⟩ := h
    refine r_getI x_314_41 rfl (ci := 12) (k := 4) (ns := 0) (by decide +kernel) (by decide) rfl (kz := 4) rfl hO1 ?_
    refine r_ldcw x_314_44 (v := g_n 2606200) rfl ?_
    refine r_isub x_314_47 ?_
    obtain ⟨h2, h⟩ := h
    refine r_istore_n x_314_48 (by decide +kernel) rfl (lv1 := [(0, .ref a0), (1, g_n v1), (2, g_n v2), (3, g_n ((g_i M a0 4) - 2606200))]) rfl ?_
    refine r_aload_n x_314_49 rfl ?_
    refine r_getI x_314_50 rfl (ci := 12) (k := 16) (ns := 0) (by decide +kernel) (by decide) rfl (kz := 16) rfl hO1 ?_
    refine r_aload_n x_314_53 rfl ?_
    refine r_getI x_314_54 rfl (ci := 12) (k := 15) (ns := 0) (by decide +kernel) (by decide) rfl (kz := 15) rfl hO1 ?_
    refine r_isub x_314_57 ?_
    obtain ⟨h3, h⟩ := h
    refine r_iconst x_314_58 ?_
    refine r_iadd x_314_59 ?_
    obtain ⟨h4, h⟩ := h
    refine r_istore x_314_60 (by decide +kernel) rfl (lv1 := [(0, .ref a0), (1, g_n v1), (2, g_n v2), (3, g_n ((g_i M a0 4) - 2606200)), (4, g_n (((g_i M a0 16) - (g_i M a0 15)) + 2))]) rfl ?_
    refine r_iload_n x_314_62 rfl ?_
    refine r_iconst x_314_63 ?_
    refine r_isub x_314_64 ?_
    obtain ⟨h5, h⟩ := h
    refine r_istore x_314_65 (by decide +kernel) rfl (lv1 := [(0, .ref a0), (1, g_n v1), (2, g_n v2), (3, g_n ((g_i M a0 4) - 2606200)), (4, g_n (((g_i M a0 16) - (g_i M a0 15)) + 2)), (5, g_n (((g_i M a0 4) - 2606200) - 1))]) rfl ?_
    exact h
  · replace h := h.2 hc
    refine r_aload_n x_314_5 rfl ?_
    refine r_aload_n x_314_6 rfl ?_
    obtain ⟨hO6, h⟩ := h
    obtain ⟨b7, hb8, h⟩ := h
    refine r_getR x_314_7 rfl (ci := 12) (k := 0) (ns := 0) (by decide +kernel) (by decide) rfl (kz := 0) rfl hO6 hb8 ?_
    refine r_iload_n x_314_10 rfl ?_
    obtain ⟨n9, hA10, h⟩ := h
    obtain ⟨h11, h⟩ := h
    refine r_bald x_314_11 (Or.inl rfl) hA10 hv1 h11.1 h11.2 ?_
    refine r_aload_n x_314_12 rfl ?_
    refine r_iload_n x_314_13 rfl ?_
    refine r_invV x_314_14 (z := 233) (ns := 0) (by decide +kernel) (as := [g_n v1]) (r := [g_n (g_i M b7 v1), .ref a0]) rfl rfl rfl hO6 rfl rfl ?_
    refine r_callI h fun r15 M12 hx13 hok14 hr16 h => ?_
    replace h := h hx13 hok14 hr16
    replace hO6 := hO6.up hx13
    replace hA10 := hA10.up hx13
    refine r_invV x_314_17 (z := 234) (ns := 0) (by decide +kernel) (as := [g_n (g_i M b7 v1), g_n r15]) (r := []) rfl rfl rfl hO6 rfl rfl ?_
    refine r_callI h fun r20 M17 hx18 hok19 hr21 h => ?_
    replace h := h hx18 hok19 hr21
    replace hO6 := hO6.up hx18
    replace hA10 := hA10.up hx18
    refine r_istore_n x_314_20 (by decide +kernel) rfl (lv1 := [(0, .ref a0), (1, g_n v1), (2, g_n v2), (3, g_n r20)]) rfl ?_
    refine r_aload_n x_314_21 rfl ?_
    obtain ⟨b22, hb23, h⟩ := h
    refine r_getR x_314_22 rfl (ci := 12) (k := 0) (ns := 0) (by decide +kernel) (by decide) rfl (kz := 0) rfl hO6 hb23 ?_
    refine r_iload_n x_314_25 rfl ?_
    refine r_iload_n x_314_26 rfl ?_
    refine r_i2b x_314_27 ?_
    obtain ⟨n24, hA25, h⟩ := h
    obtain ⟨h26, h⟩ := h
    refine r_bast0 x_314_28 hA25 hv1 h26.1 h26.2 ?_
    obtain ⟨M27, hM28⟩ : ∃ Mz, Mz = g_wi M17 b22 v1 (g_w8 (g_w8 v2)) := ⟨_, rfl⟩
    rw [← hM28]
    refine g_Run.ok fun hok29 => ?_
    replace h := h M27 hM28 hok29
    have hx30 := g_extW hM28
    replace hO6 := hO6.up hx30
    replace hA10 := hA10.up hx30
    replace hA25 := hA25.up hx30
    refine r_aload_n x_314_29 rfl ?_
    refine r_aload_n x_314_30 rfl ?_
    refine r_iload_n x_314_31 rfl ?_
    refine r_invV x_314_32 (z := 233) (ns := 0) (by decide +kernel) (as := [g_n v1]) (r := [.ref a0]) rfl rfl rfl hO6 rfl rfl ?_
    refine r_callI h fun r34 M31 hx32 hok33 hr35 h => ?_
    replace h := h hx32 hok33 hr35
    replace hO6 := hO6.up hx32
    replace hA10 := hA10.up hx32
    replace hA25 := hA25.up hx32
    refine r_iload_n x_314_35 rfl ?_
    refine r_invV x_314_36 (z := 306) (ns := 0) (by decide +kernel) (as := [g_n r34, g_n r20]) (r := []) rfl rfl rfl hO6 rfl rfl ?_
    refine r_callV h fun M36 hx37 hok38 h => ?_
    replace h := h hx37 hok38
    replace hO6 := hO6.up hx37
    replace hA10 := hA10.up hx37
    replace hA25 := hA25.up hx37
    exact r_retV x_314_39 rfl h
theorem s_X12_come_67 {d : Nat} {M : g_M} {Q : g_M → Prop} {a0 : Nat} {v1 : Int} (hv1 : g_InR v1) {v2 : Int} (hv2 : g_InR v2) {v3 : Int} (hv3 : g_InR v3) {v4 : Int} (hv4 : g_InR v4) {v5 : Int} (hv5 : g_InR v5) (h : g_ok M → ((v5 < 0 → g_O M a0 12 ∧ g_Call d 245 [.ref a0, g_n 2606200, g_n 2666200] M (g_qV fun M2 => g_ext M M2 → g_ok M2 → g_Call d 246 [.ref a0, g_n v2] M2 (g_qV fun M5 => g_ext M2 M5 → g_ok M5 → g_Call d 248 [.ref a0, g_n (g_i M5 a0 15), g_n (g_i M5 a0 16)] M5 (g_qV fun M8 => g_ext M5 M8 → g_ok M8 → g_Call d 246 [.ref a0, g_n 0] M8 (g_qV fun M11 => g_ext M8 M11 → g_ok M11 → g_InR ((g_i M11 a0 4) + v3) ∧ (∀ M15, M15 = g_wi M11 a0 4 ((g_i M11 a0 4) + v3) → g_ok M15 → g_Call d 308 [.ref a0] M15 (g_qI fun r22 M19 => g_ext M15 M19 → g_ok M19 → g_InR r22 → Q M19))))))) ∧ (¬ v5 < 0 → g_O M a0 12 ∧ ∃ b25, g_r M a0 0 = some b25 ∧ g_InR (2606200 + v4) ∧ g_InR ((2606200 + v4) + v5) ∧ ∃ b29, g_r M a0 0 = some b29 ∧ g_InR (2606200 + v5) ∧ ∃ n32, g_A M b29 0 n32 ∧ ((0 : Int) ≤ 2606200 + v5 ∧ (2606200 + v5 : Int) < n32) ∧ ∃ n35, g_A M b25 0 n35 ∧ ((0 : Int) ≤ (2606200 + v4) + v5 ∧ ((2606200 + v4) + v5 : Int) < n35) ∧ (∀ M38, M38 = g_wi M b25 ((2606200 + v4) + v5) (g_w8 (g_i M b29 (2606200 + v5))) → g_ok M38 → g_InR (v5 + (-1)) ∧ g_Run d 314 67 [(0, .ref a0), (1, g_n v1), (2, g_n v2), (3, g_n v3), (4, g_n v4), (5, g_n (v5 + (-1)))] [] M38 (g_qV Q))))) : g_Run d 314 67 [(0, .ref a0), (1, g_n v1), (2, g_n v2), (3, g_n v3), (4, g_n v4), (5, g_n v5)] [] M (g_qV Q) := by
  refine g_Run.ok fun hok => ?_
  replace h := h hok
  refine r_iload x_314_67 rfl ?_
  refine r_if_lt x_314_69 (t := 103) (by decide +kernel) hv5 (fun hc => ?_) (fun hc => ?_)
  · replace h := h.1 hc
    refine r_aload_n x_314_103 rfl ?_
    refine r_ldcw x_314_104 (v := g_n 2606200) rfl ?_
    refine r_ldcw x_314_107 (v := g_n 2666200) rfl ?_
    obtain ⟨hO1, h⟩ := h
    refine r_invV x_314_110 (z := 245) (ns := 0) (by decide +kernel) (as := [g_n 2606200, g_n 2666200]) (r := []) rfl rfl rfl hO1 rfl rfl ?_
    refine r_callV h fun M2 hx3 hok4 h => ?_
    replace h := h hx3 hok4
    replace hO1 := hO1.up hx3
    refine r_aload_n x_314_113 rfl ?_
    refine r_iload_n x_314_114 rfl ?_
    refine r_invV x_314_115 (z := 246) (ns := 0) (by decide +kernel) (as := [g_n v2]) (r := []) rfl rfl rfl hO1 rfl rfl ?_
    refine r_callV h fun M5 hx6 hok7 h => ?_
    replace h := h hx6 hok7
    replace hO1 := hO1.up hx6
    refine r_aload_n x_314_118 rfl ?_
    refine r_aload_n x_314_119 rfl ?_
    refine r_getI x_314_120 rfl (ci := 12) (k := 15) (ns := 0) (by decide +kernel) (by decide) rfl (kz := 15) rfl hO1 ?_
    refine r_aload_n x_314_123 rfl ?_
    refine r_getI x_314_124 rfl (ci := 12) (k := 16) (ns := 0) (by decide +kernel) (by decide) rfl (kz := 16) rfl hO1 ?_
    refine r_invV x_314_127 (z := 248) (ns := 0) (by decide +kernel) (as := [g_n (g_i M5 a0 15), g_n (g_i M5 a0 16)]) (r := []) rfl rfl rfl hO1 rfl rfl ?_
    refine r_callV h fun M8 hx9 hok10 h => ?_
    replace h := h hx9 hok10
    replace hO1 := hO1.up hx9
    refine r_aload_n x_314_130 rfl ?_
    refine r_iconst x_314_131 ?_
    refine r_invV x_314_132 (z := 246) (ns := 0) (by decide +kernel) (as := [g_n 0]) (r := []) rfl rfl rfl hO1 rfl rfl ?_
    refine r_callV h fun M11 hx12 hok13 h => ?_
    replace h := h hx12 hok13
    replace hO1 := hO1.up hx12
    refine r_aload_n x_314_135 rfl ?_
    refine r_dup x_314_136 rfl ?_
    refine r_getI x_314_137 rfl (ci := 12) (k := 4) (ns := 0) (by decide +kernel) (by decide) rfl (kz := 4) rfl hO1 ?_
    refine r_iload_n x_314_140 rfl ?_
    refine r_iadd x_314_141 ?_
    obtain ⟨h14, h⟩ := h
    refine r_putI x_314_142 (ci := 12) (k := 4) (ns := 0) (by decide +kernel) (by decide) (g_f0 (by decide +kernel)) rfl h14 trivial (kz := 4) rfl hO1 ?_
    obtain ⟨M15, hM16⟩ : ∃ Mz, Mz = g_wi M11 a0 4 ((g_i M11 a0 4) + v3) := ⟨_, rfl⟩
    rw [← hM16]
    refine g_Run.ok fun hok17 => ?_
    replace h := h M15 hM16 hok17
    have hx18 := g_extW hM16
    replace hO1 := hO1.up hx18
    refine r_aload_n x_314_145 rfl ?_
    refine r_invV x_314_146 (z := 308) (ns := 0) (by decide +kernel) (as := []) (r := []) rfl rfl rfl hO1 rfl rfl ?_
    refine r_callI h fun r22 M19 hx20 hok21 hr23 h => ?_
    replace h := h hx20 hok21 hr23
    replace hO1 := hO1.up hx20
    refine r_pop x_314_149 rfl ?_
    exact r_retV x_314_150 rfl h
  · replace h := h.2 hc
    refine r_aload_n x_314_72 rfl ?_
    obtain ⟨hO24, h⟩ := h
    obtain ⟨b25, hb26, h⟩ := h
    refine r_getR x_314_73 rfl (ci := 12) (k := 0) (ns := 0) (by decide +kernel) (by decide) rfl (kz := 0) rfl hO24 hb26 ?_
    refine r_ldcw x_314_76 (v := g_n 2606200) rfl ?_
    refine r_iload x_314_79 rfl ?_
    refine r_iadd x_314_81 ?_
    obtain ⟨h27, h⟩ := h
    refine r_iload x_314_82 rfl ?_
    refine r_iadd x_314_84 ?_
    obtain ⟨h28, h⟩ := h
    refine r_aload_n x_314_85 rfl ?_
    obtain ⟨b29, hb30, h⟩ := h
    refine r_getR x_314_86 rfl (ci := 12) (k := 0) (ns := 0) (by decide +kernel) (by decide) rfl (kz := 0) rfl hO24 hb30 ?_
    refine r_ldcw x_314_89 (v := g_n 2606200) rfl ?_
    refine r_iload x_314_92 rfl ?_
    refine r_iadd x_314_94 ?_
    obtain ⟨h31, h⟩ := h
    obtain ⟨n32, hA33, h⟩ := h
    obtain ⟨h34, h⟩ := h
    refine r_bald x_314_95 (Or.inl rfl) hA33 h31 h34.1 h34.2 ?_
    obtain ⟨n35, hA36, h⟩ := h
    obtain ⟨h37, h⟩ := h
    refine r_bast0 x_314_96 hA36 h28 h37.1 h37.2 ?_
    obtain ⟨M38, hM39⟩ : ∃ Mz, Mz = g_wi M b25 ((2606200 + v4) + v5) (g_w8 (g_i M b29 (2606200 + v5))) := ⟨_, rfl⟩
    rw [← hM39]
    refine g_Run.ok fun hok40 => ?_
    replace h := h M38 hM39 hok40
    have hx41 := g_extW hM39
    replace hO24 := hO24.up hx41
    replace hA33 := hA33.up hx41
    replace hA36 := hA36.up hx41
    obtain ⟨h42, h⟩ := h
    refine r_iinc x_314_97 (by decide +kernel) rfl rfl (lv1 := [(0, .ref a0), (1, g_n v1), (2, g_n v2), (3, g_n v3), (4, g_n v4), (5, g_n (v5 + (-1)))]) rfl ?_
    refine r_goto x_314_100 (t := 67) (by decide +kernel) ?_
    exact h
theorem m_X12_doPath {d : Nat} {M : g_M} {Q : Int → g_M → Prop} {a0 : Nat} {v1 : Int} (hv1 : g_InR v1) {v2 : Int} (hv2 : g_InR v2) (h : g_ok M → g_InR (v2 + 1) ∧ g_O M a0 12 ∧ g_Call d 232 [.ref a0, g_n v2] M (g_qI fun r6 M3 => g_ext M M3 → g_ok M3 → g_InR r6 → g_Call d 236 [.ref a0, g_n v1, .ref (4 * 135 + 1)] M3 (g_qI fun r11 M8 => g_ext M3 M8 → g_ok M8 → g_InR r11 → ((r11 = 0 → g_Call d 236 [.ref a0, g_n v1, .ref (4 * 137 + 1)] M8 (g_qI fun r16 M13 => g_ext M8 M13 → g_ok M13 → g_InR r16 → ((r16 = 0 → g_Call d 312 [.ref a0, g_n (v2 + 1), g_n r6] M13 (g_qI fun r21 M18 => g_ext M13 M18 → g_ok M18 → g_InR r21 → ((r21 = (-2) → Q 6 M18) ∧ (¬ r21 = (-2) → g_Call d 236 [.ref a0, g_n v1, .ref (4 * 134 + 1)] M18 (g_qI fun r26 M23 => g_ext M18 M23 → g_ok M23 → g_InR r26 → ((r26 = 0 → ((r21 = (-1) → g_Call d 236 [.ref a0, g_n v1, .ref (4 * 136 + 1)] M23 (g_qI fun r31 M28 => g_ext M23 M28 → g_ok M28 → g_InR r31 → ((r31 = 0 → g_Run d 315 186 [(0, .ref a0), (1, g_n v1), (2, g_n v2), (3, g_n (v2 + 1)), (4, g_n r6), (5, g_n r21)] [] M28 (g_qI Q)) ∧ (¬ r31 = 0 → g_Run d 315 163 [(0, .ref a0), (1, g_n v1), (2, g_n v2), (3, g_n (v2 + 1)), (4, g_n r6), (5, g_n r21)] [] M28 (g_qI Q))))) ∧ (¬ r21 = (-1) → g_Run d 315 186 [(0, .ref a0), (1, g_n v1), (2, g_n v2), (3, g_n (v2 + 1)), (4, g_n r6), (5, g_n r21)] [] M23 (g_qI Q)))) ∧ (¬ r26 = 0 → g_Run d 315 163 [(0, .ref a0), (1, g_n v1), (2, g_n v2), (3, g_n (v2 + 1)), (4, g_n r6), (5, g_n r21)] [] M23 (g_qI Q)))))))) ∧ (¬ r16 = 0 → g_Call d 313 [.ref a0, g_n (v2 + 1), g_n r6] M13 (g_qI fun r36 M33 => g_ext M13 M33 → g_ok M33 → g_InR r36 → ((r36 = (-1) → Q 0 M33) ∧ (¬ r36 = (-1) → g_Call d 318 [.ref a0, g_n r36, g_n v2] M33 (g_qI fun r41 M38 => g_ext M33 M38 → g_ok M38 → g_InR r41 → Q r41 M38)))))))) ∧ (¬ r11 = 0 → g_Call d 313 [.ref a0, g_n (v2 + 1), g_n r6] M8 (g_qI fun r46 M43 => g_ext M8 M43 → g_ok M43 → g_InR r46 → ((r46 = (-1) → Q 0 M43) ∧ (¬ r46 = (-1) → g_Call d 307 [.ref a0] M43 (g_qV fun M48 => g_ext M43 M48 → g_ok M48 → ((g_i M48 a0 14 = 0 → g_Call d 235 [.ref a0, g_n r46] M48 (g_qI fun r54 M51 => g_ext M48 M51 → g_ok M51 → g_InR r54 → g_InR (r54 - r46) ∧ g_Call d 306 [.ref a0, g_n r46, g_n (r54 - r46)] M51 (g_qV fun M57 => g_ext M51 M57 → g_ok M57 → Q 0 M57))) ∧ (¬ g_i M48 a0 14 = 0 → g_Call d 314 [.ref a0, g_n r46, g_n 10] M48 (g_qV fun M60 => g_ext M48 M60 → g_ok M60 → Q 0 M60)))))))))))) : g_Call (d + 1) 315 [.ref a0, g_n v1, g_n v2] M (g_qI Q) := by
  refine g_Call.ok fun hok0 => ?_
  replace h := h hok0
  refine r_body rfl (lv := [(0, .ref a0), (1, g_n v1), (2, g_n v2)]) rfl ?_
  refine g_Run.ok fun hok => ?_
  refine r_iload_n x_315_0 rfl ?_
  refine r_iconst x_315_1 ?_
  refine r_iadd x_315_2 ?_
  obtain ⟨h1, h⟩ := h
  refine r_istore_n x_315_3 (by decide +kernel) rfl (lv1 := [(0, .ref a0), (1, g_n v1), (2, g_n v2), (3, g_n (v2 + 1))]) rfl ?_
  refine r_aload_n x_315_4 rfl ?_
  refine r_iload_n x_315_5 rfl ?_
  obtain ⟨hO2, h⟩ := h
  refine r_invV x_315_6 (z := 232) (ns := 0) (by decide +kernel) (as := [g_n v2]) (r := []) rfl rfl rfl hO2 rfl rfl ?_
  refine r_callI h fun r6 M3 hx4 hok5 hr7 h => ?_
  replace h := h hx4 hok5 hr7
  replace hO2 := hO2.up hx4
  refine r_istore x_315_9 (by decide +kernel) rfl (lv1 := [(0, .ref a0), (1, g_n v1), (2, g_n v2), (3, g_n (v2 + 1)), (4, g_n r6)]) rfl ?_
  refine r_aload_n x_315_11 rfl ?_
  refine r_iload_n x_315_12 rfl ?_
  refine r_ldcw x_315_13 (v := .ref (4 * 135 + 1)) rfl ?_
  refine r_invV x_315_16 (z := 236) (ns := 0) (by decide +kernel) (as := [g_n v1, .ref (4 * 135 + 1)]) (r := []) rfl rfl rfl hO2 rfl rfl ?_
  refine r_callI h fun r11 M8 hx9 hok10 hr12 h => ?_
  replace h := h hx9 hok10 hr12
  replace hO2 := hO2.up hx9
  refine r_if_eq x_315_19 (t := 78) (by decide +kernel) hr12 (fun hc => ?_) (fun hc => ?_)
  · replace h := h.1 hc
    refine r_aload_n x_315_78 rfl ?_
    refine r_iload_n x_315_79 rfl ?_
    refine r_ldcw x_315_80 (v := .ref (4 * 137 + 1)) rfl ?_
    refine r_invV x_315_83 (z := 236) (ns := 0) (by decide +kernel) (as := [g_n v1, .ref (4 * 137 + 1)]) (r := []) rfl rfl rfl hO2 rfl rfl ?_
    refine r_callI h fun r16 M13 hx14 hok15 hr17 h => ?_
    replace h := h hx14 hok15 hr17
    replace hO2 := hO2.up hx14
    refine r_if_eq x_315_86 (t := 116) (by decide +kernel) hr17 (fun hc => ?_) (fun hc => ?_)
    · replace h := h.1 hc
      refine r_aload_n x_315_116 rfl ?_
      refine r_iload_n x_315_117 rfl ?_
      refine r_iload x_315_118 rfl ?_
      refine r_invV x_315_120 (z := 312) (ns := 0) (by decide +kernel) (as := [g_n (v2 + 1), g_n r6]) (r := []) rfl rfl rfl hO2 rfl rfl ?_
      refine r_callI h fun r21 M18 hx19 hok20 hr22 h => ?_
      replace h := h hx19 hok20 hr22
      replace hO2 := hO2.up hx19
      refine r_istore x_315_123 (by decide +kernel) rfl (lv1 := [(0, .ref a0), (1, g_n v1), (2, g_n v2), (3, g_n (v2 + 1)), (4, g_n r6), (5, g_n r21)]) rfl ?_
      refine r_iload x_315_125 rfl ?_
      refine r_bipush x_315_127 (x := (-2)) rfl ?_
      refine r_ic_ne x_315_129 (t := 135) (by decide +kernel) hr22 (g_Rk rfl) (fun hc => ?_) (fun hc => ?_)
      · replace h := h.2 hc
        refine r_aload_n x_315_135 rfl ?_
        refine r_iload_n x_315_136 rfl ?_
        refine r_ldcw x_315_137 (v := .ref (4 * 134 + 1)) rfl ?_
        refine r_invV x_315_140 (z := 236) (ns := 0) (by decide +kernel) (as := [g_n v1, .ref (4 * 134 + 1)]) (r := []) rfl rfl rfl hO2 rfl rfl ?_
        refine r_callI h fun r26 M23 hx24 hok25 hr27 h => ?_
        replace h := h hx24 hok25 hr27
        replace hO2 := hO2.up hx24
        refine r_if_ne x_315_143 (t := 163) (by decide +kernel) hr27 (fun hc => ?_) (fun hc => ?_)
        · replace h := h.2 hc
          exact h
        · replace h := h.1 hc
          refine r_iload x_315_146 rfl ?_
          refine r_iconst x_315_148 ?_
          refine r_ic_ne x_315_149 (t := 186) (by decide +kernel) hr22 (g_Rk rfl) (fun hc => ?_) (fun hc => ?_)
          · replace h := h.2 hc
            exact h
          · replace h := h.1 hc
            refine r_aload_n x_315_152 rfl ?_
            refine r_iload_n x_315_153 rfl ?_
            refine r_ldcw x_315_154 (v := .ref (4 * 136 + 1)) rfl ?_
            refine r_invV x_315_157 (z := 236) (ns := 0) (by decide +kernel) (as := [g_n v1, .ref (4 * 136 + 1)]) (r := []) rfl rfl rfl hO2 rfl rfl ?_
            refine r_callI h fun r31 M28 hx29 hok30 hr32 h => ?_
            replace h := h hx29 hok30 hr32
            replace hO2 := hO2.up hx29
            refine r_if_eq x_315_160 (t := 186) (by decide +kernel) hr32 (fun hc => ?_) (fun hc => ?_)
            · replace h := h.1 hc
              exact h
            · replace h := h.2 hc
              exact h
      · replace h := h.1 hc
        refine r_bipush x_315_132 (x := 6) rfl ?_
        exact r_retI x_315_134 rfl (g_Rk rfl) h
    · replace h := h.2 hc
      refine r_aload_n x_315_89 rfl ?_
      refine r_iload_n x_315_90 rfl ?_
      refine r_iload x_315_91 rfl ?_
      refine r_invV x_315_93 (z := 313) (ns := 0) (by decide +kernel) (as := [g_n (v2 + 1), g_n r6]) (r := []) rfl rfl rfl hO2 rfl rfl ?_
      refine r_callI h fun r36 M33 hx34 hok35 hr37 h => ?_
      replace h := h hx34 hok35 hr37
      replace hO2 := hO2.up hx34
      refine r_istore x_315_96 (by decide +kernel) rfl (lv1 := [(0, .ref a0), (1, g_n v1), (2, g_n v2), (3, g_n (v2 + 1)), (4, g_n r6), (5, g_n r36)]) rfl ?_
      refine r_iload x_315_98 rfl ?_
      refine r_iconst x_315_100 ?_
      refine r_ic_ne x_315_101 (t := 108) (by decide +kernel) hr37 (g_Rk rfl) (fun hc => ?_) (fun hc => ?_)
      · replace h := h.2 hc
        refine r_aload_n x_315_108 rfl ?_
        refine r_iload x_315_109 rfl ?_
        refine r_iload_n x_315_111 rfl ?_
        refine r_invV x_315_112 (z := 318) (ns := 0) (by decide +kernel) (as := [g_n r36, g_n v2]) (r := []) rfl rfl rfl hO2 rfl rfl ?_
        refine r_callI h fun r41 M38 hx39 hok40 hr42 h => ?_
        replace h := h hx39 hok40 hr42
        replace hO2 := hO2.up hx39
        exact r_retI x_315_115 rfl hr42 h
      · replace h := h.1 hc
        refine r_iconst x_315_104 ?_
        refine r_goto x_315_105 (t := 115) (by decide +kernel) ?_
        exact r_retI x_315_115 rfl (g_Rk rfl) h
  · replace h := h.2 hc
    refine r_aload_n x_315_22 rfl ?_
    refine r_iload_n x_315_23 rfl ?_
    refine r_iload x_315_24 rfl ?_
    refine r_invV x_315_26 (z := 313) (ns := 0) (by decide +kernel) (as := [g_n (v2 + 1), g_n r6]) (r := []) rfl rfl rfl hO2 rfl rfl ?_
    refine r_callI h fun r46 M43 hx44 hok45 hr47 h => ?_
    replace h := h hx44 hok45 hr47
    replace hO2 := hO2.up hx44
    refine r_istore x_315_29 (by decide +kernel) rfl (lv1 := [(0, .ref a0), (1, g_n v1), (2, g_n v2), (3, g_n (v2 + 1)), (4, g_n r6), (5, g_n r46)]) rfl ?_
    refine r_iload x_315_31 rfl ?_
    refine r_iconst x_315_33 ?_
    refine r_ic_ne x_315_34 (t := 39) (by decide +kernel) hr47 (g_Rk rfl) (fun hc => ?_) (fun hc => ?_)
    · replace h := h.2 hc
      refine r_aload_n x_315_39 rfl ?_
      refine r_invV x_315_40 (z := 307) (ns := 0) (by decide +kernel) (as := []) (r := []) rfl rfl rfl hO2 rfl rfl ?_
      refine r_callV h fun M48 hx49 hok50 h => ?_
      replace h := h hx49 hok50
      replace hO2 := hO2.up hx49
      refine r_aload_n x_315_43 rfl ?_
      refine r_getI x_315_44 rfl (ci := 12) (k := 14) (ns := 0) (by decide +kernel) (by decide) rfl (kz := 14) rfl hO2 ?_
      refine r_if_eq x_315_47 (t := 61) (by decide +kernel) (hok50.1 _ _) (fun hc => ?_) (fun hc => ?_)
      · replace h := h.1 hc
        refine r_aload_n x_315_61 rfl ?_
        refine r_iload x_315_62 rfl ?_
        refine r_aload_n x_315_64 rfl ?_
        refine r_iload x_315_65 rfl ?_
        refine r_invV x_315_67 (z := 235) (ns := 0) (by decide +kernel) (as := [g_n r46]) (r := [g_n r46, .ref a0]) rfl rfl rfl hO2 rfl rfl ?_
        refine r_callI h fun r54 M51 hx52 hok53 hr55 h => ?_
        replace h := h hx52 hok53 hr55
        replace hO2 := hO2.up hx52
        refine r_iload x_315_70 rfl ?_
        refine r_isub x_315_72 ?_
        obtain ⟨h56, h⟩ := h
        refine r_invV x_315_73 (z := 306) (ns := 0) (by decide +kernel) (as := [g_n r46, g_n (r54 - r46)]) (r := []) rfl rfl rfl hO2 rfl rfl ?_
        refine r_callV h fun M57 hx58 hok59 h => ?_
        replace h := h hx58 hok59
        replace hO2 := hO2.up hx58
        refine r_iconst x_315_76 ?_
        exact r_retI x_315_77 rfl (g_Rk rfl) h
      · replace h := h.2 hc
        refine r_aload_n x_315_50 rfl ?_
        refine r_iload x_315_51 rfl ?_
        refine r_bipush x_315_53 (x := 10) rfl ?_
        refine r_invV x_315_55 (z := 314) (ns := 0) (by decide +kernel) (as := [g_n r46, g_n 10]) (r := []) rfl rfl rfl hO2 rfl rfl ?_
        refine r_callV h fun M60 hx61 hok62 h => ?_
        replace h := h hx61 hok62
        replace hO2 := hO2.up hx61
        refine r_goto x_315_58 (t := 76) (by decide +kernel) ?_
        refine r_iconst x_315_76 ?_
        exact r_retI x_315_77 rfl (g_Rk rfl) h
    · replace h := h.1 hc
      refine r_iconst x_315_37 ?_
      exact r_retI x_315_38 rfl (g_Rk rfl) h
theorem s_X12_doPath_163 {d : Nat} {M : g_M} {Q : Int → g_M → Prop} {a0 : Nat} {v1 : Int} (hv1 : g_InR v1) {v2 : Int} (hv2 : g_InR v2) {v3 : Int} (hv3 : g_InR v3) {v4 : Int} (hv4 : g_InR v4) {v5 : Int} (hv5 : g_InR v5) (h : g_ok M → g_O M a0 12 ∧ g_Call d 307 [.ref a0] M (g_qV fun M2 => g_ext M M2 → g_ok M2 → g_Call d 253 [.ref a0, g_n v2] M2 (g_qV fun M5 => g_ext M2 M5 → g_ok M5 → ∃ b8, g_r M5 a0 0 = some b8 ∧ ∃ n10, g_A M5 b8 0 n10 ∧ ((0 : Int) ≤ v2 ∧ (v2 : Int) < n10) ∧ g_Call d 314 [.ref a0, g_n v5, g_n (g_i M5 b8 v2)] M5 (g_qV fun M13 => g_ext M5 M13 → g_ok M13 → Q 0 M13)))) : g_Run d 315 163 [(0, .ref a0), (1, g_n v1), (2, g_n v2), (3, g_n v3), (4, g_n v4), (5, g_n v5)] [] M (g_qI Q) := by
  refine g_Run.ok fun hok => ?_
  replace h := h hok
  refine r_aload_n x_315_163 rfl ?_
  obtain ⟨hO1, h⟩ := h
  refine r_invV x_315_164 (z := 307) (ns := 0) (by decide +kernel) (as := []) (r := []) rfl rfl rfl hO1 rfl rfl ?_
  refine r_callV h fun M2 hx3 hok4 h => ?_
  replace h := h hx3 hok4
  replace hO1 := hO1.up hx3
  refine r_aload_n x_315_167 rfl ?_
  refine r_iload_n x_315_168 rfl ?_
  refine r_invV x_315_169 (z := 253) (ns := 0) (by decide +kernel) (as := [g_n v2]) (r := []) rfl rfl rfl hO1 rfl rfl ?_
  refine r_callV h fun M5 hx6 hok7 h => ?_
  replace h := h hx6 hok7
  replace hO1 := hO1.up hx6
  refine r_aload_n x_315_172 rfl ?_
  refine r_iload x_315_173 rfl ?_
  refine r_aload_n x_315_175 rfl ?_
  obtain ⟨b8, hb9, h⟩ := h
  refine r_getR x_315_176 rfl (ci := 12) (k := 0) (ns := 0) (by decide +kernel) (by decide) rfl (kz := 0) rfl hO1 hb9 ?_
  refine r_iload_n x_315_179 rfl ?_
  obtain ⟨n10, hA11, h⟩ := h
  obtain ⟨h12, h⟩ := h
  refine r_bald x_315_180 (Or.inl rfl) hA11 hv2 h12.1 h12.2 ?_
  refine r_invV x_315_181 (z := 314) (ns := 0) (by decide +kernel) (as := [g_n v5, g_n (g_i M5 b8 v2)]) (r := []) rfl rfl rfl hO1 rfl rfl ?_
  refine r_callV h fun M13 hx14 hok15 h => ?_
  replace h := h hx14 hok15
  replace hO1 := hO1.up hx14
  replace hA11 := hA11.up hx14
  refine r_iconst x_315_184 ?_
  exact r_retI x_315_185 rfl (g_Rk rfl) h
theorem s_X12_doPath_186 {d : Nat} {M : g_M} {Q : Int → g_M → Prop} {a0 : Nat} {v1 : Int} (hv1 : g_InR v1) {v2 : Int} (hv2 : g_InR v2) {v3 : Int} (hv3 : g_InR v3) {v4 : Int} (hv4 : g_InR v4) {v5 : Int} (hv5 : g_InR v5) (h : g_ok M → g_O M a0 12 ∧ g_Call d 236 [.ref a0, g_n v1, .ref (4 * 136 + 1)] M (g_qI fun r5 M2 => g_ext M M2 → g_ok M2 → g_InR r5 → ((r5 = 0 → g_Call d 236 [.ref a0, g_n v1, .ref (4 * 119 + 1)] M2 (g_qI fun r10 M7 => g_ext M2 M7 → g_ok M7 → g_InR r10 → g_Call d 317 [.ref a0, g_n v5, g_n v2, g_n r10] M7 (g_qI fun r15 M12 => g_ext M7 M12 → g_ok M12 → g_InR r15 → Q r15 M12))) ∧ (¬ r5 = 0 → g_Call d 316 [.ref a0, g_n v5, g_n v2] M2 (g_qI fun r20 M17 => g_ext M2 M17 → g_ok M17 → g_InR r20 → Q r20 M17))))) : g_Run d 315 186 [(0, .ref a0), (1, g_n v1), (2, g_n v2), (3, g_n v3), (4, g_n v4), (5, g_n v5)] [] M (g_qI Q) := by
  refine g_Run.ok fun hok => ?_
  replace h := h hok
  refine r_aload_n x_315_186 rfl ?_
  refine r_iload_n x_315_187 rfl ?_
  refine r_ldcw x_315_188 (v := .ref (4 * 136 + 1)) rfl ?_
  obtain ⟨hO1, h⟩ := h
  refine r_invV x_315_191 (z := 236) (ns := 0) (by decide +kernel) (as := [g_n v1, .ref (4 * 136 + 1)]) (r := []) rfl rfl rfl hO1 rfl rfl ?_
  refine r_callI h fun r5 M2 hx3 hok4 hr6 h => ?_
  replace h := h hx3 hok4 hr6
  replace hO1 := hO1.up hx3
  refine r_if_eq x_315_194 (t := 207) (by decide +kernel) hr6 (fun hc => ?_) (fun hc => ?_)
  · replace h := h.1 hc
    refine r_aload_n x_315_207 rfl ?_
    refine r_iload x_315_208 rfl ?_
    refine r_iload_n x_315_210 rfl ?_
    refine r_aload_n x_315_211 rfl ?_
    refine r_iload_n x_315_212 rfl ?_
    refine r_ldcw x_315_213 (v := .ref (4 * 119 + 1)) rfl ?_
    refine r_invV x_315_216 (z := 236) (ns := 0) (by decide +kernel) (as := [g_n v1, .ref (4 * 119 + 1)]) (r := [g_n v2, g_n v5, .ref a0]) rfl rfl rfl hO1 rfl rfl ?_
    refine r_callI h fun r10 M7 hx8 hok9 hr11 h => ?_
    replace h := h hx8 hok9 hr11
    replace hO1 := hO1.up hx8
    refine r_invV x_315_219 (z := 317) (ns := 0) (by decide +kernel) (as := [g_n v5, g_n v2, g_n r10]) (r := []) rfl rfl rfl hO1 rfl rfl ?_
    refine r_callI h fun r15 M12 hx13 hok14 hr16 h => ?_
    replace h := h hx13 hok14 hr16
    replace hO1 := hO1.up hx13
    exact r_retI x_315_222 rfl hr16 h
  · replace h := h.2 hc
    refine r_aload_n x_315_197 rfl ?_
    refine r_iload x_315_198 rfl ?_
    refine r_iload_n x_315_200 rfl ?_
    refine r_invV x_315_201 (z := 316) (ns := 0) (by decide +kernel) (as := [g_n v5, g_n v2]) (r := []) rfl rfl rfl hO1 rfl rfl ?_
    refine r_callI h fun r20 M17 hx18 hok19 hr21 h => ?_
    replace h := h hx18 hok19 hr21
    replace hO1 := hO1.up hx18
    refine r_goto x_315_204 (t := 222) (by decide +kernel) ?_
    exact r_retI x_315_222 rfl hr21 h
theorem m_X12_add {d : Nat} {M : g_M} {Q : Int → g_M → Prop} {a0 : Nat} {v1 : Int} (hv1 : g_InR v1) {v2 : Int} (hv2 : g_InR v2) (h : g_ok M → g_O M a0 12 ∧ g_Call d 242 [.ref a0, g_n v1] M (g_qI fun r5 M2 => g_ext M M2 → g_ok M2 → g_InR r5 → ((r5 = 0 → Q 7 M2) ∧ (¬ r5 = 0 → g_Call d 243 [.ref a0, g_n v1] M2 (g_qL fun R10 M7 => g_ext M2 M7 → g_ok M7 → g_Call d 243 [.ref a0, g_n v2] M7 (g_qL fun R14 M11 => g_ext M7 M11 → g_ok M11 → ((g_lc ((R10 ^^^ (R10 + R14)) &&& (R14 ^^^ (R10 + R14))) 0 < 0 → Q 8 M11) ∧ (¬ g_lc ((R10 ^^^ (R10 + R14)) &&& (R14 ^^^ (R10 + R14))) 0 < 0 → ∃ b15, g_r M11 a0 0 = some b15 ∧ ∃ n17, g_A M11 b15 0 n17 ∧ ((0 : Int) ≤ v1 ∧ (v1 : Int) < n17) ∧ ((g_i M11 b15 v1 = 16 → ∃ b20, g_r M11 a0 0 = some b20 ∧ ∃ n22, g_A M11 b20 0 n22 ∧ ((0 : Int) ≤ v2 ∧ (v2 : Int) < n22) ∧ ((g_i M11 b20 v2 = 16 → ((g_lc (R10 + R14) ((-2147483648)) < 0 → g_Run d 316 93 [(0, .ref a0), (1, g_n v1), (2, g_n v2), (3, .long R10), (5, .long R14), (7, .long (R10 + R14))] [g_n 0] M11 (g_qI Q)) ∧ (¬ g_lc (R10 + R14) ((-2147483648)) < 0 → ((0 < g_lc (R10 + R14) 2147483647 → g_Run d 316 93 [(0, .ref a0), (1, g_n v1), (2, g_n v2), (3, .long R10), (5, .long R14), (7, .long (R10 + R14))] [g_n 0] M11 (g_qI Q)) ∧ (¬ 0 < g_lc (R10 + R14) 2147483647 → g_Run d 316 93 [(0, .ref a0), (1, g_n v1), (2, g_n v2), (3, .long R10), (5, .long R14), (7, .long (R10 + R14))] [g_n 1] M11 (g_qI Q)))))) ∧ (¬ g_i M11 b20 v2 = 16 → g_Run d 316 93 [(0, .ref a0), (1, g_n v1), (2, g_n v2), (3, .long R10), (5, .long R14), (7, .long (R10 + R14))] [g_n 0] M11 (g_qI Q)))) ∧ (¬ g_i M11 b15 v1 = 16 → g_Run d 316 93 [(0, .ref a0), (1, g_n v1), (2, g_n v2), (3, .long R10), (5, .long R14), (7, .long (R10 + R14))] [g_n 0] M11 (g_qI Q))))))))))) : g_Call (d + 1) 316 [.ref a0, g_n v1, g_n v2] M (g_qI Q) := by
  refine g_Call.ok fun hok0 => ?_
  replace h := h hok0
  refine r_body rfl (lv := [(0, .ref a0), (1, g_n v1), (2, g_n v2)]) rfl ?_
  refine g_Run.ok fun hok => ?_
  refine r_aload_n x_316_0 rfl ?_
  refine r_iload_n x_316_1 rfl ?_
  obtain ⟨hO1, h⟩ := h
  refine r_invV x_316_2 (z := 242) (ns := 0) (by decide +kernel) (as := [g_n v1]) (r := []) rfl rfl rfl hO1 rfl rfl ?_
  refine r_callI h fun r5 M2 hx3 hok4 hr6 h => ?_
  replace h := h hx3 hok4 hr6
  replace hO1 := hO1.up hx3
  refine r_if_ne x_316_5 (t := 11) (by decide +kernel) hr6 (fun hc => ?_) (fun hc => ?_)
  · replace h := h.2 hc
    refine r_aload_n x_316_11 rfl ?_
    refine r_iload_n x_316_12 rfl ?_
    refine r_invV x_316_13 (z := 243) (ns := 0) (by decide +kernel) (as := [g_n v1]) (r := []) rfl rfl rfl hO1 rfl rfl ?_
    refine r_callL h fun R10 M7 hx8 hok9 h => ?_
    replace h := h hx8 hok9
    replace hO1 := hO1.up hx8
    refine r_lstore_n x_316_16 (by decide +kernel) rfl (lv1 := [(0, .ref a0), (1, g_n v1), (2, g_n v2), (3, .long R10)]) rfl ?_
    refine r_aload_n x_316_17 rfl ?_
    refine r_iload_n x_316_18 rfl ?_
    refine r_invV x_316_19 (z := 243) (ns := 0) (by decide +kernel) (as := [g_n v2]) (r := []) rfl rfl rfl hO1 rfl rfl ?_
    refine r_callL h fun R14 M11 hx12 hok13 h => ?_
    replace h := h hx12 hok13
    replace hO1 := hO1.up hx12
    refine r_lstore x_316_22 (by decide +kernel) rfl (lv1 := [(0, .ref a0), (1, g_n v1), (2, g_n v2), (3, .long R10), (5, .long R14)]) rfl ?_
    refine r_lload_n x_316_24 rfl ?_
    refine r_lload x_316_25 rfl ?_
    refine r_ladd x_316_27 ?_
    refine r_lstore x_316_28 (by decide +kernel) rfl (lv1 := [(0, .ref a0), (1, g_n v1), (2, g_n v2), (3, .long R10), (5, .long R14), (7, .long (R10 + R14))]) rfl ?_
    refine r_lload_n x_316_30 rfl ?_
    refine r_lload x_316_31 rfl ?_
    refine r_lxor x_316_33 ?_
    refine r_lload x_316_34 rfl ?_
    refine r_lload x_316_36 rfl ?_
    refine r_lxor x_316_38 ?_
    refine r_land x_316_39 ?_
    refine r_lconst x_316_40 ?_
    show g_Run d 316 41 [(0, .ref a0), (1, g_n v1), (2, g_n v2), (3, .long R10), (5, .long R14), (7, .long (R10 + R14))] [.long 0, .long ((R10 ^^^ (R10 + R14)) &&& (R14 ^^^ (R10 + R14)))] M11 _
    refine r_lcmp x_316_41 ?_
    refine r_if_ge x_316_42 (t := 48) (by decide +kernel) (g_InR_toInt _) (fun hc => ?_) (fun hc => ?_)
    · replace h := h.2 hc
      refine r_aload_n x_316_48 rfl ?_
      obtain ⟨b15, hb16, h⟩ := h
      refine r_getR x_316_49 rfl (ci := 12) (k := 0) (ns := 0) (by decide +kernel) (by decide) rfl (kz := 0) rfl hO1 hb16 ?_
      refine r_iload_n x_316_52 rfl ?_
      obtain ⟨n17, hA18, h⟩ := h
      obtain ⟨h19, h⟩ := h
      refine r_bald x_316_53 (Or.inl rfl) hA18 hv1 h19.1 h19.2 ?_
      refine r_bipush x_316_54 (x := 16) rfl ?_
      refine r_ic_ne x_316_56 (t := 92) (by decide +kernel) (hok13.1 _ _) (g_Rk rfl) (fun hc => ?_) (fun hc => ?_)
      · replace h := h.2 hc
        refine r_iconst x_316_92 ?_
        exact h
      · replace h := h.1 hc
        refine r_aload_n x_316_59 rfl ?_
        obtain ⟨b20, hb21, h⟩ := h
        refine r_getR x_316_60 rfl (ci := 12) (k := 0) (ns := 0) (by decide +kernel) (by decide) rfl (kz := 0) rfl hO1 hb21 ?_
        refine r_iload_n x_316_63 rfl ?_
        obtain ⟨n22, hA23, h⟩ := h
        obtain ⟨h24, h⟩ := h
        refine r_bald x_316_64 (Or.inl rfl) hA23 hv2 h24.1 h24.2 ?_
        refine r_bipush x_316_65 (x := 16) rfl ?_
        refine r_ic_ne x_316_67 (t := 92) (by decide +kernel) (hok13.1 _ _) (g_Rk rfl) (fun hc => ?_) (fun hc => ?_)
        · replace h := h.2 hc
          refine r_iconst x_316_92 ?_
          exact h
        · replace h := h.1 hc
          refine r_lload x_316_70 rfl ?_
          refine r_ldc2 x_316_72 (X := (-2147483648)) rfl ?_
          refine r_lcmp x_316_75 ?_
          refine r_if_lt x_316_76 (t := 92) (by decide +kernel) (g_InR_toInt _) (fun hc => ?_) (fun hc => ?_)
          · replace h := h.1 hc
            refine r_iconst x_316_92 ?_
            exact h
          · replace h := h.2 hc
            refine r_lload x_316_79 rfl ?_
            refine r_ldc2 x_316_81 (X := 2147483647) rfl ?_
            refine r_lcmp x_316_84 ?_
            refine r_if_gt x_316_85 (t := 92) (by decide +kernel) (g_InR_toInt _) (fun hc => ?_) (fun hc => ?_)
            · replace h := h.1 hc
              refine r_iconst x_316_92 ?_
              exact h
            · replace h := h.2 hc
              refine r_iconst x_316_88 ?_
              refine r_goto x_316_89 (t := 93) (by decide +kernel) ?_
              exact h
    · replace h := h.1 hc
      refine r_bipush x_316_45 (x := 8) rfl ?_
      exact r_retI x_316_47 rfl (g_Rk rfl) h
  · replace h := h.1 hc
    refine r_bipush x_316_8 (x := 7) rfl ?_
    exact r_retI x_316_10 rfl (g_Rk rfl) h
theorem s_X12_add_93 {d : Nat} {M : g_M} {Q : Int → g_M → Prop} {a0 : Nat} {v1 : Int} (hv1 : g_InR v1) {v2 : Int} (hv2 : g_InR v2) {V3 : Int64} {V5 : Int64} {V7 : Int64} {w0 : Int} (hw0 : g_InR w0) (h : g_ok M → g_O M a0 12 ∧ g_Call d 307 [.ref a0] M (g_qV fun M2 => g_ext M M2 → g_ok M2 → g_Call d 247 [.ref a0, g_n V7.toInt32.toInt] M2 (g_qV fun M5 => g_ext M2 M5 → g_ok M5 → ((w0 = 0 → g_Call d 247 [.ref a0, g_n ((V7 >>> ((Int32.ofInt 32).toInt64 &&& 63)).toInt32.toInt)] M5 (g_qV fun M8 => g_ext M5 M8 → g_ok M8 → g_Run d 316 121 [(0, .ref a0), (1, g_n v1), (2, g_n v2), (3, .long V3), (5, .long V5), (7, .long V7), (9, g_n w0)] [] M8 (g_qI Q))) ∧ (¬ w0 = 0 → g_Run d 316 121 [(0, .ref a0), (1, g_n v1), (2, g_n v2), (3, .long V3), (5, .long V5), (7, .long V7), (9, g_n w0)] [] M5 (g_qI Q)))))) : g_Run d 316 93 [(0, .ref a0), (1, g_n v1), (2, g_n v2), (3, .long V3), (5, .long V5), (7, .long V7)] [g_n w0] M (g_qI Q) := by
  refine g_Run.ok fun hok => ?_
  replace h := h hok
  refine r_istore x_316_93 (by decide +kernel) rfl (lv1 := [(0, .ref a0), (1, g_n v1), (2, g_n v2), (3, .long V3), (5, .long V5), (7, .long V7), (9, g_n w0)]) rfl ?_
  refine r_aload_n x_316_95 rfl ?_
  obtain ⟨hO1, h⟩ := h
  refine r_invV x_316_96 (z := 307) (ns := 0) (by decide +kernel) (as := []) (r := []) rfl rfl rfl hO1 rfl rfl ?_
  refine r_callV h fun M2 hx3 hok4 h => ?_
  replace h := h hx3 hok4
  replace hO1 := hO1.up hx3
  refine r_aload_n x_316_99 rfl ?_
  refine r_lload x_316_100 rfl ?_
  refine r_l2i x_316_102 ?_
  refine r_invV x_316_103 (z := 247) (ns := 0) (by decide +kernel) (as := [g_n V7.toInt32.toInt]) (r := []) rfl rfl rfl hO1 rfl rfl ?_
  refine r_callV h fun M5 hx6 hok7 h => ?_
  replace h := h hx6 hok7
  replace hO1 := hO1.up hx6
  refine r_iload x_316_106 rfl ?_
  refine r_if_ne x_316_108 (t := 121) (by decide +kernel) hw0 (fun hc => ?_) (fun hc => ?_)
  · replace h := h.2 hc
    exact h
  · replace h := h.1 hc
    refine r_aload_n x_316_111 rfl ?_
    refine r_lload x_316_112 rfl ?_
    refine r_bipush x_316_114 (x := 32) rfl ?_
    refine r_lshr x_316_116 ?_
    refine r_l2i x_316_117 ?_
    refine r_invV x_316_118 (z := 247) (ns := 0) (by decide +kernel) (as := [g_n ((V7 >>> ((Int32.ofInt 32).toInt64 &&& 63)).toInt32.toInt)]) (r := []) rfl rfl rfl hO1 rfl rfl ?_
    refine r_callV h fun M8 hx9 hok10 h => ?_
    replace h := h hx9 hok10
    replace hO1 := hO1.up hx9
    exact h
theorem s_X12_add_121 {d : Nat} {M : g_M} {Q : Int → g_M → Prop} {a0 : Nat} {v1 : Int} (hv1 : g_InR v1) {v2 : Int} (hv2 : g_InR v2) {V3 : Int64} {V5 : Int64} {V7 : Int64} {v9 : Int} (hv9 : g_InR v9) (h : g_ok M → ((v9 = 0 → g_O M a0 12 ∧ g_Call d 314 [.ref a0, g_n v1, g_n 18] M (g_qV fun M2 => g_ext M M2 → g_ok M2 → Q 0 M2)) ∧ (¬ v9 = 0 → g_O M a0 12 ∧ g_Call d 314 [.ref a0, g_n v1, g_n 16] M (g_qV fun M6 => g_ext M M6 → g_ok M6 → Q 0 M6)))) : g_Run d 316 121 [(0, .ref a0), (1, g_n v1), (2, g_n v2), (3, .long V3), (5, .long V5), (7, .long V7), (9, g_n v9)] [] M (g_qI Q) := by
  refine g_Run.ok fun hok => ?_
  replace h := h hok
  refine r_aload_n x_316_121 rfl ?_
  refine r_iload_n x_316_122 rfl ?_
  refine r_iload x_316_123 rfl ?_
  refine r_if_eq x_316_125 (t := 133) (by decide +kernel) hv9 (fun hc => ?_) (fun hc => ?_)
  · replace h := h.1 hc
    refine r_bipush x_316_133 (x := 18) rfl ?_
    obtain ⟨hO1, h⟩ := h
    refine r_invV x_316_135 (z := 314) (ns := 0) (by decide +kernel) (as := [g_n v1, g_n 18]) (r := []) rfl rfl rfl hO1 rfl rfl ?_
    refine r_callV h fun M2 hx3 hok4 h => ?_
    replace h := h hx3 hok4
    replace hO1 := hO1.up hx3
    refine r_iconst x_316_138 ?_
    exact r_retI x_316_139 rfl (g_Rk rfl) h
  · replace h := h.2 hc
    refine r_bipush x_316_128 (x := 16) rfl ?_
    refine r_goto x_316_130 (t := 135) (by decide +kernel) ?_
    obtain ⟨hO5, h⟩ := h
    refine r_invV x_316_135 (z := 314) (ns := 0) (by decide +kernel) (as := [g_n v1, g_n 16]) (r := []) rfl rfl rfl hO5 rfl rfl ?_
    refine r_callV h fun M6 hx7 hok8 h => ?_
    replace h := h hx7 hok8
    replace hO5 := hO5.up hx7
    refine r_iconst x_316_138 ?_
    exact r_retI x_316_139 rfl (g_Rk rfl) h
theorem m_X12_push {d : Nat} {M : g_M} {Q : Int → g_M → Prop} {a0 : Nat} {v1 : Int} (hv1 : g_InR v1) {v2 : Int} (hv2 : g_InR v2) {v3 : Int} (hv3 : g_InR v3) (h : g_ok M → ((v1 = (-1) → g_O M a0 12 ∧ g_Call d 307 [.ref a0] M (g_qV fun M18 => g_ext M M18 → g_ok M18 → g_Call d 251 [.ref a0] M18 (g_qI fun r24 M21 => g_ext M18 M21 → g_ok M21 → g_InR r24 → ∃ b26, g_r M21 a0 0 = some b26 ∧ ∃ n28, g_A M21 b26 0 n28 ∧ ((0 : Int) ≤ v2 ∧ (v2 : Int) < n28) ∧ g_Call d 246 [.ref a0, g_n (g_i M21 b26 v2)] M21 (g_qV fun M31 => g_ext M21 M31 → g_ok M31 → g_Call d 250 [.ref a0, g_n 0] M31 (g_qV fun M34 => g_ext M31 M34 → g_ok M34 → g_Call d 253 [.ref a0, g_n v2] M34 (g_qV fun M37 => g_ext M34 M37 → g_ok M37 → g_Call d 252 [.ref a0, g_n r24] M37 (g_qV fun M40 => g_ext M37 M40 → g_ok M40 → g_Call d 314 [.ref a0, g_n v1, g_n 4] M40 (g_qV fun M43 => g_ext M40 M43 → g_ok M43 → Q 0 M43)))))))) ∧ (¬ v1 = (-1) → g_O M a0 12 ∧ ∃ b2, g_r M a0 0 = some b2 ∧ ∃ n4, g_A M b2 0 n4 ∧ ((0 : Int) ≤ v1 ∧ (v1 : Int) < n4) ∧ ((g_i M b2 v1 = 4 → g_Call d 233 [.ref a0, g_n v1] M (g_qI fun r10 M7 => g_ext M M7 → g_ok M7 → g_InR r10 → g_Call d 237 [g_n r10] M7 (g_qI fun r15 M12 => g_ext M7 M12 → g_ok M12 → g_InR r15 → g_Run d 317 72 [(0, .ref a0), (1, g_n v1), (2, g_n v2), (3, g_n v3), (4, g_n r15)] [] M12 (g_qI Q)))) ∧ (¬ g_i M b2 v1 = 4 → Q 7 M))))) : g_Call (d + 1) 317 [.ref a0, g_n v1, g_n v2, g_n v3] M (g_qI Q) := by
  refine g_Call.ok fun hok0 => ?_
  replace h := h hok0
  refine r_body rfl (lv := [(0, .ref a0), (1, g_n v1), (2, g_n v2), (3, g_n v3)]) rfl ?_
  refine g_Run.ok fun hok => ?_
  refine r_iload_n x_317_0 rfl ?_
  refine r_iconst x_317_1 ?_
  refine r_ic_ne x_317_2 (t := 49) (by decide +kernel) hv1 (g_Rk rfl) (fun hc => ?_) (fun hc => ?_)
  · replace h := h.2 hc
    refine r_aload_n x_317_49 rfl ?_
    obtain ⟨hO1, h⟩ := h
    obtain ⟨b2, hb3, h⟩ := h
    refine r_getR x_317_50 rfl (ci := 12) (k := 0) (ns := 0) (by decide +kernel) (by decide) rfl (kz := 0) rfl hO1 hb3 ?_
    refine r_iload_n x_317_53 rfl ?_
    obtain ⟨n4, hA5, h⟩ := h
    obtain ⟨h6, h⟩ := h
    refine r_bald x_317_54 (Or.inl rfl) hA5 hv1 h6.1 h6.2 ?_
    refine r_iconst x_317_55 ?_
    refine r_ic_eq x_317_56 (t := 62) (by decide +kernel) (hok.1 _ _) (g_Rk rfl) (fun hc => ?_) (fun hc => ?_)
    · replace h := h.1 hc
      refine r_aload_n x_317_62 rfl ?_
      refine r_iload_n x_317_63 rfl ?_
      refine r_invV x_317_64 (z := 233) (ns := 0) (by decide +kernel) (as := [g_n v1]) (r := []) rfl rfl rfl hO1 rfl rfl ?_
      refine r_callI h fun r10 M7 hx8 hok9 hr11 h => ?_
      replace h := h hx8 hok9 hr11
      replace hO1 := hO1.up hx8
      replace hA5 := hA5.up hx8
      refine r_invS x_317_67 (z := 237) (ns := 0) (by decide +kernel) (as := [g_n r10]) (r := []) rfl rfl rfl ?_
      refine r_callI h fun r15 M12 hx13 hok14 hr16 h => ?_
      replace h := h hx13 hok14 hr16
      replace hO1 := hO1.up hx13
      replace hA5 := hA5.up hx13
      refine r_istore x_317_70 (by decide +kernel) rfl (lv1 := [(0, .ref a0), (1, g_n v1), (2, g_n v2), (3, g_n v3), (4, g_n r15)]) rfl ?_
      exact h
    · replace h := h.2 hc
      refine r_bipush x_317_59 (x := 7) rfl ?_
      exact r_retI x_317_61 rfl (g_Rk rfl) h
  · replace h := h.1 hc
    refine r_aload_n x_317_5 rfl ?_
    obtain ⟨hO17, h⟩ := h
    refine r_invV x_317_6 (z := 307) (ns := 0) (by decide +kernel) (as := []) (r := []) rfl rfl rfl hO17 rfl rfl ?_
    refine r_callV h fun M18 hx19 hok20 h => ?_
    replace h := h hx19 hok20
    replace hO17 := hO17.up hx19
    refine r_aload_n x_317_9 rfl ?_
    refine r_invV x_317_10 (z := 251) (ns := 0) (by decide +kernel) (as := []) (r := []) rfl rfl rfl hO17 rfl rfl ?_
    refine r_callI h fun r24 M21 hx22 hok23 hr25 h => ?_
    replace h := h hx22 hok23 hr25
    replace hO17 := hO17.up hx22
    refine r_istore x_317_13 (by decide +kernel) rfl (lv1 := [(0, .ref a0), (1, g_n v1), (2, g_n v2), (3, g_n v3), (4, g_n r24)]) rfl ?_
    refine r_aload_n x_317_15 rfl ?_
    refine r_aload_n x_317_16 rfl ?_
    obtain ⟨b26, hb27, h⟩ := h
    refine r_getR x_317_17 rfl (ci := 12) (k := 0) (ns := 0) (by decide +kernel) (by decide) rfl (kz := 0) rfl hO17 hb27 ?_
    refine r_iload_n x_317_20 rfl ?_
    obtain ⟨n28, hA29, h⟩ := h
    obtain ⟨h30, h⟩ := h
    refine r_bald x_317_21 (Or.inl rfl) hA29 hv2 h30.1 h30.2 ?_
    refine r_invV x_317_22 (z := 246) (ns := 0) (by decide +kernel) (as := [g_n (g_i M21 b26 v2)]) (r := []) rfl rfl rfl hO17 rfl rfl ?_
    refine r_callV h fun M31 hx32 hok33 h => ?_
    replace h := h hx32 hok33
    replace hO17 := hO17.up hx32
    replace hA29 := hA29.up hx32
    refine r_aload_n x_317_25 rfl ?_
    refine r_iconst x_317_26 ?_
    refine r_invV x_317_27 (z := 250) (ns := 0) (by decide +kernel) (as := [g_n 0]) (r := []) rfl rfl rfl hO17 rfl rfl ?_
    refine r_callV h fun M34 hx35 hok36 h => ?_
    replace h := h hx35 hok36
    replace hO17 := hO17.up hx35
    replace hA29 := hA29.up hx35
    refine r_aload_n x_317_30 rfl ?_
    refine r_iload_n x_317_31 rfl ?_
    refine r_invV x_317_32 (z := 253) (ns := 0) (by decide +kernel) (as := [g_n v2]) (r := []) rfl rfl rfl hO17 rfl rfl ?_
    refine r_callV h fun M37 hx38 hok39 h => ?_
    replace h := h hx38 hok39
    replace hO17 := hO17.up hx38
    replace hA29 := hA29.up hx38
    refine r_aload_n x_317_35 rfl ?_
    refine r_iload x_317_36 rfl ?_
    refine r_invV x_317_38 (z := 252) (ns := 0) (by decide +kernel) (as := [g_n r24]) (r := []) rfl rfl rfl hO17 rfl rfl ?_
    refine r_callV h fun M40 hx41 hok42 h => ?_
    replace h := h hx41 hok42
    replace hO17 := hO17.up hx41
    replace hA29 := hA29.up hx41
    refine r_aload_n x_317_41 rfl ?_
    refine r_iload_n x_317_42 rfl ?_
    refine r_iconst x_317_43 ?_
    refine r_invV x_317_44 (z := 314) (ns := 0) (by decide +kernel) (as := [g_n v1, g_n 4]) (r := []) rfl rfl rfl hO17 rfl rfl ?_
    refine r_callV h fun M43 hx44 hok45 h => ?_
    replace h := h hx44 hok45
    replace hO17 := hO17.up hx44
    replace hA29 := hA29.up hx44
    refine r_iconst x_317_47 ?_
    exact r_retI x_317_48 rfl (g_Rk rfl) h
theorem s_X12_push_72 {d : Nat} {M : g_M} {Q : Int → g_M → Prop} {a0 : Nat} {v1 : Int} (hv1 : g_InR v1) {v2 : Int} (hv2 : g_InR v2) {v3 : Int} (hv3 : g_InR v3) {v4 : Int} (hv4 : g_InR v4) (h : g_ok M → g_O M a0 12 ∧ g_Call d 233 [.ref a0, g_n v1] M (g_qI fun r5 M2 => g_ext M M2 → g_ok M2 → g_InR r5 → g_Call d 238 [.ref a0, g_n r5] M2 (g_qI fun r10 M7 => g_ext M2 M7 → g_ok M7 → g_InR r10 → ((v4 < r10 → ((v3 = 0 → g_Run d 317 113 [(0, .ref a0), (1, g_n v1), (2, g_n v2), (3, g_n v3), (4, g_n v4)] [] M7 (g_qI Q)) ∧ (¬ v3 = 0 → g_Call d 271 [.ref a0, g_n v4, g_n v2] M7 (g_qI fun r15 M12 => g_ext M7 M12 → g_ok M12 → g_InR r15 → ((r15 = 0 → g_Call d 235 [.ref a0, g_n v4] M12 (g_qI fun r20 M17 => g_ext M12 M17 → g_ok M17 → g_InR r20 → g_Run d 317 72 [(0, .ref a0), (1, g_n v1), (2, g_n v2), (3, g_n v3), (4, g_n r20)] [] M17 (g_qI Q))) ∧ (¬ r15 = 0 → Q 0 M12)))))) ∧ (¬ v4 < r10 → g_Run d 317 113 [(0, .ref a0), (1, g_n v1), (2, g_n v2), (3, g_n v3), (4, g_n v4)] [] M7 (g_qI Q)))))) : g_Run d 317 72 [(0, .ref a0), (1, g_n v1), (2, g_n v2), (3, g_n v3), (4, g_n v4)] [] M (g_qI Q) := by
  refine g_Run.ok fun hok => ?_
  replace h := h hok
  refine r_iload x_317_72 rfl ?_
  refine r_aload_n x_317_74 rfl ?_
  refine r_aload_n x_317_75 rfl ?_
  refine r_iload_n x_317_76 rfl ?_
  obtain ⟨hO1, h⟩ := h
  refine r_invV x_317_77 (z := 233) (ns := 0) (by decide +kernel) (as := [g_n v1]) (r := [.ref a0, g_n v4]) rfl rfl rfl hO1 rfl rfl ?_
  refine r_callI h fun r5 M2 hx3 hok4 hr6 h => ?_
  replace h := h hx3 hok4 hr6
  replace hO1 := hO1.up hx3
  refine r_invV x_317_80 (z := 238) (ns := 0) (by decide +kernel) (as := [g_n r5]) (r := [g_n v4]) rfl rfl rfl hO1 rfl rfl ?_
  refine r_callI h fun r10 M7 hx8 hok9 hr11 h => ?_
  replace h := h hx8 hok9 hr11
  replace hO1 := hO1.up hx8
  refine r_ic_ge x_317_83 (t := 113) (by decide +kernel) hv4 hr11 (fun hc => ?_) (fun hc => ?_)
  · replace h := h.2 hc
    exact h
  · replace h := h.1 hc
    refine r_iload_n x_317_86 rfl ?_
    refine r_if_eq x_317_87 (t := 113) (by decide +kernel) hv3 (fun hc => ?_) (fun hc => ?_)
    · replace h := h.1 hc
      exact h
    · replace h := h.2 hc
      refine r_aload_n x_317_90 rfl ?_
      refine r_iload x_317_91 rfl ?_
      refine r_iload_n x_317_93 rfl ?_
      refine r_invV x_317_94 (z := 271) (ns := 0) (by decide +kernel) (as := [g_n v4, g_n v2]) (r := []) rfl rfl rfl hO1 rfl rfl ?_
      refine r_callI h fun r15 M12 hx13 hok14 hr16 h => ?_
      replace h := h hx13 hok14 hr16
      replace hO1 := hO1.up hx13
      refine r_if_eq x_317_97 (t := 102) (by decide +kernel) hr16 (fun hc => ?_) (fun hc => ?_)
      · replace h := h.1 hc
        refine r_aload_n x_317_102 rfl ?_
        refine r_iload x_317_103 rfl ?_
        refine r_invV x_317_105 (z := 235) (ns := 0) (by decide +kernel) (as := [g_n v4]) (r := []) rfl rfl rfl hO1 rfl rfl ?_
        refine r_callI h fun r20 M17 hx18 hok19 hr21 h => ?_
        replace h := h hx18 hok19 hr21
        replace hO1 := hO1.up hx18
        refine r_istore x_317_108 (by decide +kernel) rfl (lv1 := [(0, .ref a0), (1, g_n v1), (2, g_n v2), (3, g_n v3), (4, g_n r20)]) rfl ?_
        refine r_goto x_317_110 (t := 72) (by decide +kernel) ?_
        exact h
      · replace h := h.2 hc
        refine r_iconst x_317_100 ?_
        exact r_retI x_317_101 rfl (g_Rk rfl) h
theorem s_X12_push_113 {d : Nat} {M : g_M} {Q : Int → g_M → Prop} {a0 : Nat} {v1 : Int} (hv1 : g_InR v1) {v2 : Int} (hv2 : g_InR v2) {v3 : Int} (hv3 : g_InR v3) {v4 : Int} (hv4 : g_InR v4) (h : g_ok M → g_O M a0 12 ∧ g_Call d 233 [.ref a0, g_n v1] M (g_qI fun r5 M2 => g_ext M M2 → g_ok M2 → g_InR r5 → g_Call d 239 [.ref a0, g_n r5] M2 (g_qI fun r10 M7 => g_ext M2 M7 → g_ok M7 → g_InR r10 → g_Call d 309 [.ref a0, g_n v1] M7 (g_qV fun M12 => g_ext M7 M12 → g_ok M12 → g_Call d 307 [.ref a0] M12 (g_qV fun M15 => g_ext M12 M15 → g_ok M15 → ∃ b18, g_r M15 a0 0 = some b18 ∧ ∃ n20, g_A M15 b18 0 n20 ∧ ((0 : Int) ≤ v2 ∧ (v2 : Int) < n20) ∧ g_Call d 246 [.ref a0, g_n (g_i M15 b18 v2)] M15 (g_qV fun M23 => g_ext M15 M23 → g_ok M23 → g_Call d 250 [.ref a0, g_n r10] M23 (g_qV fun M26 => g_ext M23 M26 → g_ok M26 → g_Call d 253 [.ref a0, g_n v2] M26 (g_qV fun M29 => g_ext M26 M29 → g_ok M29 → g_Call d 308 [.ref a0] M29 (g_qI fun r35 M32 => g_ext M29 M32 → g_ok M32 → g_InR r35 → Q 0 M32))))))))) : g_Run d 317 113 [(0, .ref a0), (1, g_n v1), (2, g_n v2), (3, g_n v3), (4, g_n v4)] [] M (g_qI Q) := by
  refine g_Run.ok fun hok => ?_
  replace h := h hok
  refine r_aload_n x_317_113 rfl ?_
  refine r_aload_n x_317_114 rfl ?_
  refine r_iload_n x_317_115 rfl ?_
  obtain ⟨hO1, h⟩ := h
  refine r_invV x_317_116 (z := 233) (ns := 0) (by decide +kernel) (as := [g_n v1]) (r := [.ref a0]) rfl rfl rfl hO1 rfl rfl ?_
  refine r_callI h fun r5 M2 hx3 hok4 hr6 h => ?_
  replace h := h hx3 hok4 hr6
  replace hO1 := hO1.up hx3
  refine r_invV x_317_119 (z := 239) (ns := 0) (by decide +kernel) (as := [g_n r5]) (r := []) rfl rfl rfl hO1 rfl rfl ?_
  refine r_callI h fun r10 M7 hx8 hok9 hr11 h => ?_
  replace h := h hx8 hok9 hr11
  replace hO1 := hO1.up hx8
  refine r_istore x_317_122 (by decide +kernel) rfl (lv1 := [(0, .ref a0), (1, g_n v1), (2, g_n v2), (3, g_n v3), (4, g_n r10)]) rfl ?_
  refine r_aload_n x_317_124 rfl ?_
  refine r_iload_n x_317_125 rfl ?_
  refine r_invV x_317_126 (z := 309) (ns := 0) (by decide +kernel) (as := [g_n v1]) (r := []) rfl rfl rfl hO1 rfl rfl ?_
  refine r_callV h fun M12 hx13 hok14 h => ?_
  replace h := h hx13 hok14
  replace hO1 := hO1.up hx13
  refine r_aload_n x_317_129 rfl ?_
  refine r_invV x_317_130 (z := 307) (ns := 0) (by decide +kernel) (as := []) (r := []) rfl rfl rfl hO1 rfl rfl ?_
  refine r_callV h fun M15 hx16 hok17 h => ?_
  replace h := h hx16 hok17
  replace hO1 := hO1.up hx16
  refine r_aload_n x_317_133 rfl ?_
  refine r_aload_n x_317_134 rfl ?_
  obtain ⟨b18, hb19, h⟩ := h
  refine r_getR x_317_135 rfl (ci := 12) (k := 0) (ns := 0) (by decide +kernel) (by decide) rfl (kz := 0) rfl hO1 hb19 ?_
  refine r_iload_n x_317_138 rfl ?_
  obtain ⟨n20, hA21, h⟩ := h
  obtain ⟨h22, h⟩ := h
  refine r_bald x_317_139 (Or.inl rfl) hA21 hv2 h22.1 h22.2 ?_
  refine r_invV x_317_140 (z := 246) (ns := 0) (by decide +kernel) (as := [g_n (g_i M15 b18 v2)]) (r := []) rfl rfl rfl hO1 rfl rfl ?_
  refine r_callV h fun M23 hx24 hok25 h => ?_
  replace h := h hx24 hok25
  replace hO1 := hO1.up hx24
  replace hA21 := hA21.up hx24
  refine r_aload_n x_317_143 rfl ?_
  refine r_iload x_317_144 rfl ?_
  refine r_invV x_317_146 (z := 250) (ns := 0) (by decide +kernel) (as := [g_n r10]) (r := []) rfl rfl rfl hO1 rfl rfl ?_
  refine r_callV h fun M26 hx27 hok28 h => ?_
  replace h := h hx27 hok28
  replace hO1 := hO1.up hx27
  replace hA21 := hA21.up hx27
  refine r_aload_n x_317_149 rfl ?_
  refine r_iload_n x_317_150 rfl ?_
  refine r_invV x_317_151 (z := 253) (ns := 0) (by decide +kernel) (as := [g_n v2]) (r := []) rfl rfl rfl hO1 rfl rfl ?_
  refine r_callV h fun M29 hx30 hok31 h => ?_
  replace h := h hx30 hok31
  replace hO1 := hO1.up hx30
  replace hA21 := hA21.up hx30
  refine r_aload_n x_317_154 rfl ?_
  refine r_invV x_317_155 (z := 308) (ns := 0) (by decide +kernel) (as := []) (r := []) rfl rfl rfl hO1 rfl rfl ?_
  refine r_callI h fun r35 M32 hx33 hok34 hr36 h => ?_
  replace h := h hx33 hok34 hr36
  replace hO1 := hO1.up hx33
  replace hA21 := hA21.up hx33
  refine r_pop x_317_158 rfl ?_
  refine r_iconst x_317_159 ?_
  exact r_retI x_317_160 rfl (g_Rk rfl) h
theorem m_X12_pull {d : Nat} {M : g_M} {Q : Int → g_M → Prop} {a0 : Nat} {v1 : Int} (hv1 : g_InR v1) {v2 : Int} (hv2 : g_InR v2) (h : g_ok M → g_O M a0 12 ∧ ∃ b2, g_r M a0 0 = some b2 ∧ ∃ n4, g_A M b2 0 n4 ∧ ((0 : Int) ≤ v1 ∧ (v1 : Int) < n4) ∧ ((g_i M b2 v1 = 4 → g_Call d 307 [.ref a0] M (g_qV fun M7 => g_ext M M7 → g_ok M7 → g_Call d 251 [.ref a0] M7 (g_qI fun r13 M10 => g_ext M7 M10 → g_ok M10 → g_InR r13 → g_Call d 233 [.ref a0, g_n v1] M10 (g_qI fun r18 M15 => g_ext M10 M15 → g_ok M15 → g_InR r18 → g_Call d 237 [g_n r18] M15 (g_qI fun r23 M20 => g_ext M15 M20 → g_ok M20 → g_InR r23 → g_Run d 318 35 [(0, .ref a0), (1, g_n v1), (2, g_n v2), (3, g_n r13), (4, g_n 0), (5, g_n r23)] [] M20 (g_qI Q)))))) ∧ (¬ g_i M b2 v1 = 4 → Q 7 M))) : g_Call (d + 1) 318 [.ref a0, g_n v1, g_n v2] M (g_qI Q) := by
  refine g_Call.ok fun hok0 => ?_
  replace h := h hok0
  refine r_body rfl (lv := [(0, .ref a0), (1, g_n v1), (2, g_n v2)]) rfl ?_
  refine g_Run.ok fun hok => ?_
  refine r_aload_n x_318_0 rfl ?_
  obtain ⟨hO1, h⟩ := h
  obtain ⟨b2, hb3, h⟩ := h
  refine r_getR x_318_1 rfl (ci := 12) (k := 0) (ns := 0) (by decide +kernel) (by decide) rfl (kz := 0) rfl hO1 hb3 ?_
  refine r_iload_n x_318_4 rfl ?_
  obtain ⟨n4, hA5, h⟩ := h
  obtain ⟨h6, h⟩ := h
  refine r_bald x_318_5 (Or.inl rfl) hA5 hv1 h6.1 h6.2 ?_
  refine r_iconst x_318_6 ?_
  refine r_ic_eq x_318_7 (t := 13) (by decide +kernel) (hok.1 _ _) (g_Rk rfl) (fun hc => ?_) (fun hc => ?_)
  · replace h := h.1 hc
    refine r_aload_n x_318_13 rfl ?_
    refine r_invV x_318_14 (z := 307) (ns := 0) (by decide +kernel) (as := []) (r := []) rfl rfl rfl hO1 rfl rfl ?_
    refine r_callV h fun M7 hx8 hok9 h => ?_
    replace h := h hx8 hok9
    replace hO1 := hO1.up hx8
    replace hA5 := hA5.up hx8
    refine r_aload_n x_318_17 rfl ?_
    refine r_invV x_318_18 (z := 251) (ns := 0) (by decide +kernel) (as := []) (r := []) rfl rfl rfl hO1 rfl rfl ?_
    refine r_callI h fun r13 M10 hx11 hok12 hr14 h => ?_
    replace h := h hx11 hok12 hr14
    replace hO1 := hO1.up hx11
    replace hA5 := hA5.up hx11
    refine r_istore_n x_318_21 (by decide +kernel) rfl (lv1 := [(0, .ref a0), (1, g_n v1), (2, g_n v2), (3, g_n r13)]) rfl ?_
    refine r_iconst x_318_22 ?_
    refine r_istore x_318_23 (by decide +kernel) rfl (lv1 := [(0, .ref a0), (1, g_n v1), (2, g_n v2), (3, g_n r13), (4, g_n 0)]) rfl ?_
    refine r_aload_n x_318_25 rfl ?_
    refine r_iload_n x_318_26 rfl ?_
    refine r_invV x_318_27 (z := 233) (ns := 0) (by decide +kernel) (as := [g_n v1]) (r := []) rfl rfl rfl hO1 rfl rfl ?_
    refine r_callI h fun r18 M15 hx16 hok17 hr19 h => ?_
    replace h := h hx16 hok17 hr19
    replace hO1 := hO1.up hx16
    replace hA5 := hA5.up hx16
    refine r_invS x_318_30 (z := 237) (ns := 0) (by decide +kernel) (as := [g_n r18]) (r := []) rfl rfl rfl ?_
    refine r_callI h fun r23 M20 hx21 hok22 hr24 h => ?_
    replace h := h hx21 hok22 hr24
    replace hO1 := hO1.up hx21
    replace hA5 := hA5.up hx21
    refine r_istore x_318_33 (by decide +kernel) rfl (lv1 := [(0, .ref a0), (1, g_n v1), (2, g_n v2), (3, g_n r13), (4, g_n 0), (5, g_n r23)]) rfl ?_
    exact h
  · replace h := h.2 hc
    refine r_bipush x_318_10 (x := 7) rfl ?_
    exact r_retI x_318_12 rfl (g_Rk rfl) h
theorem s_X12_pull_35 {d : Nat} {M : g_M} {Q : Int → g_M → Prop} {a0 : Nat} {v1 : Int} (hv1 : g_InR v1) {v2 : Int} (hv2 : g_InR v2) {v3 : Int} (hv3 : g_InR v3) {v4 : Int} (hv4 : g_InR v4) {v5 : Int} (hv5 : g_InR v5) (h : g_ok M → g_O M a0 12 ∧ g_Call d 233 [.ref a0, g_n v1] M (g_qI fun r5 M2 => g_ext M M2 → g_ok M2 → g_InR r5 → g_Call d 238 [.ref a0, g_n r5] M2 (g_qI fun r10 M7 => g_ext M2 M7 → g_ok M7 → g_InR r10 → ((v5 < r10 → g_Call d 271 [.ref a0, g_n v5, g_n v2] M7 (g_qI fun r36 M33 => g_ext M7 M33 → g_ok M33 → g_InR r36 → ((r36 = 0 → ∃ b38, g_r M33 a0 0 = some b38 ∧ ∃ n40, g_A M33 b38 0 n40 ∧ ((0 : Int) ≤ v5 ∧ (v5 : Int) < n40) ∧ g_Call d 246 [.ref a0, g_n (g_i M33 b38 v5)] M33 (g_qV fun M43 => g_ext M33 M43 → g_ok M43 → g_Call d 250 [.ref a0, g_n v4] M43 (g_qV fun M46 => g_ext M43 M46 → g_ok M46 → g_Call d 253 [.ref a0, g_n v5] M46 (g_qV fun M49 => g_ext M46 M49 → g_ok M49 → g_InR (v4 + 1) ∧ g_Call d 235 [.ref a0, g_n v5] M49 (g_qI fun r56 M53 => g_ext M49 M53 → g_ok M53 → g_InR r56 → g_Run d 318 35 [(0, .ref a0), (1, g_n v1), (2, g_n v2), (3, g_n v3), (4, g_n (v4 + 1)), (5, g_n r56)] [] M53 (g_qI Q)))))) ∧ (¬ r36 = 0 → g_Call d 235 [.ref a0, g_n v5] M33 (g_qI fun r61 M58 => g_ext M33 M58 → g_ok M58 → g_InR r61 → g_Run d 318 35 [(0, .ref a0), (1, g_n v1), (2, g_n v2), (3, g_n v3), (4, g_n v4), (5, g_n r61)] [] M58 (g_qI Q)))))) ∧ (¬ v5 < r10 → g_Call d 252 [.ref a0, g_n v3] M7 (g_qV fun M12 => g_ext M7 M12 → g_ok M12 → g_Call d 233 [.ref a0, g_n v1] M12 (g_qI fun r18 M15 => g_ext M12 M15 → g_ok M15 → g_InR r18 → g_Call d 233 [.ref a0, g_n v1] M15 (g_qI fun r23 M20 => g_ext M15 M20 → g_ok M20 → g_InR r23 → g_Call d 227 [.ref a0, g_n r23] M20 (g_qI fun r28 M25 => g_ext M20 M25 → g_ok M25 → g_InR r28 → g_Call d 306 [.ref a0, g_n r18, g_n r28] M25 (g_qV fun M30 => g_ext M25 M30 → g_ok M30 → Q 0 M30)))))))))) : g_Run d 318 35 [(0, .ref a0), (1, g_n v1), (2, g_n v2), (3, g_n v3), (4, g_n v4), (5, g_n v5)] [] M (g_qI Q) := by
  refine g_Run.ok fun hok => ?_
  replace h := h hok
  refine r_iload x_318_35 rfl ?_
  refine r_aload_n x_318_37 rfl ?_
  refine r_aload_n x_318_38 rfl ?_
  refine r_iload_n x_318_39 rfl ?_
  obtain ⟨hO1, h⟩ := h
  refine r_invV x_318_40 (z := 233) (ns := 0) (by decide +kernel) (as := [g_n v1]) (r := [.ref a0, g_n v5]) rfl rfl rfl hO1 rfl rfl ?_
  refine r_callI h fun r5 M2 hx3 hok4 hr6 h => ?_
  replace h := h hx3 hok4 hr6
  replace hO1 := hO1.up hx3
  refine r_invV x_318_43 (z := 238) (ns := 0) (by decide +kernel) (as := [g_n r5]) (r := [g_n v5]) rfl rfl rfl hO1 rfl rfl ?_
  refine r_callI h fun r10 M7 hx8 hok9 hr11 h => ?_
  replace h := h hx8 hok9 hr11
  replace hO1 := hO1.up hx8
  refine r_ic_ge x_318_46 (t := 99) (by decide +kernel) hv5 hr11 (fun hc => ?_) (fun hc => ?_)
  · replace h := h.2 hc
    refine r_aload_n x_318_99 rfl ?_
    refine r_iload_n x_318_100 rfl ?_
    refine r_invV x_318_101 (z := 252) (ns := 0) (by decide +kernel) (as := [g_n v3]) (r := []) rfl rfl rfl hO1 rfl rfl ?_
    refine r_callV h fun M12 hx13 hok14 h => ?_
    replace h := h hx13 hok14
    replace hO1 := hO1.up hx13
    refine r_aload_n x_318_104 rfl ?_
    refine r_aload_n x_318_105 rfl ?_
    refine r_iload_n x_318_106 rfl ?_
    refine r_invV x_318_107 (z := 233) (ns := 0) (by decide +kernel) (as := [g_n v1]) (r := [.ref a0]) rfl rfl rfl hO1 rfl rfl ?_
    refine r_callI h fun r18 M15 hx16 hok17 hr19 h => ?_
    replace h := h hx16 hok17 hr19
    replace hO1 := hO1.up hx16
    refine r_aload_n x_318_110 rfl ?_
    refine r_aload_n x_318_111 rfl ?_
    refine r_iload_n x_318_112 rfl ?_
    refine r_invV x_318_113 (z := 233) (ns := 0) (by decide +kernel) (as := [g_n v1]) (r := [.ref a0, g_n r18, .ref a0]) rfl rfl rfl hO1 rfl rfl ?_
    refine r_callI h fun r23 M20 hx21 hok22 hr24 h => ?_
    replace h := h hx21 hok22 hr24
    replace hO1 := hO1.up hx21
    refine r_invV x_318_116 (z := 227) (ns := 0) (by decide +kernel) (as := [g_n r23]) (r := [g_n r18, .ref a0]) rfl rfl rfl hO1 rfl rfl ?_
    refine r_callI h fun r28 M25 hx26 hok27 hr29 h => ?_
    replace h := h hx26 hok27 hr29
    replace hO1 := hO1.up hx26
    refine r_invV x_318_119 (z := 306) (ns := 0) (by decide +kernel) (as := [g_n r18, g_n r28]) (r := []) rfl rfl rfl hO1 rfl rfl ?_
    refine r_callV h fun M30 hx31 hok32 h => ?_
    replace h := h hx31 hok32
    replace hO1 := hO1.up hx31
    refine r_iconst x_318_122 ?_
    exact r_retI x_318_123 rfl (g_Rk rfl) h
  · replace h := h.1 hc
    refine r_aload_n x_318_49 rfl ?_
    refine r_iload x_318_50 rfl ?_
    refine r_iload_n x_318_52 rfl ?_
    refine r_invV x_318_53 (z := 271) (ns := 0) (by decide +kernel) (as := [g_n v5, g_n v2]) (r := []) rfl rfl rfl hO1 rfl rfl ?_
    refine r_callI h fun r36 M33 hx34 hok35 hr37 h => ?_
    replace h := h hx34 hok35 hr37
    replace hO1 := hO1.up hx34
    refine r_if_eq x_318_56 (t := 62) (by decide +kernel) hr37 (fun hc => ?_) (fun hc => ?_)
    · replace h := h.1 hc
      refine r_aload_n x_318_62 rfl ?_
      refine r_aload_n x_318_63 rfl ?_
      obtain ⟨b38, hb39, h⟩ := h
      refine r_getR x_318_64 rfl (ci := 12) (k := 0) (ns := 0) (by decide +kernel) (by decide) rfl (kz := 0) rfl hO1 hb39 ?_
      refine r_iload x_318_67 rfl ?_
      obtain ⟨n40, hA41, h⟩ := h
      obtain ⟨h42, h⟩ := h
      refine r_bald x_318_69 (Or.inl rfl) hA41 hv5 h42.1 h42.2 ?_
      refine r_invV x_318_70 (z := 246) (ns := 0) (by decide +kernel) (as := [g_n (g_i M33 b38 v5)]) (r := []) rfl rfl rfl hO1 rfl rfl ?_
      refine r_callV h fun M43 hx44 hok45 h => ?_
      replace h := h hx44 hok45
      replace hO1 := hO1.up hx44
      replace hA41 := hA41.up hx44
      refine r_aload_n x_318_73 rfl ?_
      refine r_iload x_318_74 rfl ?_
      refine r_invV x_318_76 (z := 250) (ns := 0) (by decide +kernel) (as := [g_n v4]) (r := []) rfl rfl rfl hO1 rfl rfl ?_
      refine r_callV h fun M46 hx47 hok48 h => ?_
      replace h := h hx47 hok48
      replace hO1 := hO1.up hx47
      replace hA41 := hA41.up hx47
      refine r_aload_n x_318_79 rfl ?_
      refine r_iload x_318_80 rfl ?_
      refine r_invV x_318_82 (z := 253) (ns := 0) (by decide +kernel) (as := [g_n v5]) (r := []) rfl rfl rfl hO1 rfl rfl ?_
      refine r_callV h fun M49 hx50 hok51 h => ?_
      replace h := h hx50 hok51
      replace hO1 := hO1.up hx50
      replace hA41 := hA41.up hx50
      obtain ⟨h52, h⟩ := h
      refine r_iinc x_318_85 (by decide +kernel) rfl rfl (lv1 := [(0, .ref a0), (1, g_n v1), (2, g_n v2), (3, g_n v3), (4, g_n (v4 + 1)), (5, g_n v5)]) rfl ?_
      refine r_aload_n x_318_88 rfl ?_
      refine r_iload x_318_89 rfl ?_
      refine r_invV x_318_91 (z := 235) (ns := 0) (by decide +kernel) (as := [g_n v5]) (r := []) rfl rfl rfl hO1 rfl rfl ?_
      refine r_callI h fun r56 M53 hx54 hok55 hr57 h => ?_
      replace h := h hx54 hok55 hr57
      replace hO1 := hO1.up hx54
      replace hA41 := hA41.up hx54
      refine r_istore x_318_94 (by decide +kernel) rfl (lv1 := [(0, .ref a0), (1, g_n v1), (2, g_n v2), (3, g_n v3), (4, g_n (v4 + 1)), (5, g_n r56)]) rfl ?_
      refine r_goto x_318_96 (t := 35) (by decide +kernel) ?_
      exact h
    · replace h := h.2 hc
      refine r_goto x_318_59 (t := 88) (by decide +kernel) ?_
      refine r_aload_n x_318_88 rfl ?_
      refine r_iload x_318_89 rfl ?_
      refine r_invV x_318_91 (z := 235) (ns := 0) (by decide +kernel) (as := [g_n v5]) (r := []) rfl rfl rfl hO1 rfl rfl ?_
      refine r_callI h fun r61 M58 hx59 hok60 hr62 h => ?_
      replace h := h hx59 hok60 hr62
      replace hO1 := hO1.up hx59
      refine r_istore x_318_94 (by decide +kernel) rfl (lv1 := [(0, .ref a0), (1, g_n v1), (2, g_n v2), (3, g_n v3), (4, g_n v4), (5, g_n r61)]) rfl ?_
      refine r_goto x_318_96 (t := 35) (by decide +kernel) ?_
      exact h
theorem m_X12_copy {d : Nat} {M : g_M} {Q : g_M → Prop} {a0 : Nat} {v1 : Int} (hv1 : g_InR v1) {v2 : Int} (hv2 : g_InR v2) {v3 : Int} (hv3 : g_InR v3) (h : g_ok M → g_Run d 319 3 [(0, .ref a0), (1, g_n v1), (2, g_n v2), (3, g_n v3), (4, g_n 0)] [] M (g_qV Q)) : g_Call (d + 1) 319 [.ref a0, g_n v1, g_n v2, g_n v3] M (g_qV Q) := by
  refine g_Call.ok fun hok0 => ?_
  replace h := h hok0
  refine r_body rfl (lv := [(0, .ref a0), (1, g_n v1), (2, g_n v2), (3, g_n v3)]) rfl ?_
  refine g_Run.ok fun hok => ?_
  refine r_iconst x_319_0 ?_
  refine r_istore x_319_1 (by decide +kernel) rfl (lv1 := [(0, .ref a0), (1, g_n v1), (2, g_n v2), (3, g_n v3), (4, g_n 0)]) rfl ?_
  exact h
theorem s_X12_copy_3 {d : Nat} {M : g_M} {Q : g_M → Prop} {a0 : Nat} {v1 : Int} (hv1 : g_InR v1) {v2 : Int} (hv2 : g_InR v2) {v3 : Int} (hv3 : g_InR v3) {v4 : Int} (hv4 : g_InR v4) (h : g_ok M → ((v4 < v3 → g_O M a0 12 ∧ ∃ b2, g_r M a0 0 = some b2 ∧ g_InR (v2 + v4) ∧ ∃ b5, g_r M a0 0 = some b5 ∧ g_InR (v1 + v4) ∧ ∃ n8, g_A M b5 0 n8 ∧ ((0 : Int) ≤ v1 + v4 ∧ (v1 + v4 : Int) < n8) ∧ ∃ n11, g_A M b2 0 n11 ∧ ((0 : Int) ≤ v2 + v4 ∧ (v2 + v4 : Int) < n11) ∧ (∀ M14, M14 = g_wi M b2 (v2 + v4) (g_w8 (g_i M b5 (v1 + v4))) → g_ok M14 → g_InR (v4 + 1) ∧ g_Run d 319 3 [(0, .ref a0), (1, g_n v1), (2, g_n v2), (3, g_n v3), (4, g_n (v4 + 1))] [] M14 (g_qV Q))) ∧ (¬ v4 < v3 → Q M))) : g_Run d 319 3 [(0, .ref a0), (1, g_n v1), (2, g_n v2), (3, g_n v3), (4, g_n v4)] [] M (g_qV Q) := by
  refine g_Run.ok fun hok => ?_
  replace h := h hok
  refine r_iload x_319_3 rfl ?_
  refine r_iload_n x_319_5 rfl ?_
  refine r_ic_ge x_319_6 (t := 33) (by decide +kernel) hv4 hv3 (fun hc => ?_) (fun hc => ?_)
  · replace h := h.2 hc
    exact r_retV x_319_33 rfl h
  · replace h := h.1 hc
    refine r_aload_n x_319_9 rfl ?_
    obtain ⟨hO1, h⟩ := h
    obtain ⟨b2, hb3, h⟩ := h
    refine r_getR x_319_10 rfl (ci := 12) (k := 0) (ns := 0) (by decide +kernel) (by decide) rfl (kz := 0) rfl hO1 hb3 ?_
    refine r_iload_n x_319_13 rfl ?_
    refine r_iload x_319_14 rfl ?_
    refine r_iadd x_319_16 ?_
    obtain ⟨h4, h⟩ := h
    refine r_aload_n x_319_17 rfl ?_
    obtain ⟨b5, hb6, h⟩ := h
    refine r_getR x_319_18 rfl (ci := 12) (k := 0) (ns := 0) (by decide +kernel) (by decide) rfl (kz := 0) rfl hO1 hb6 ?_
    refine r_iload_n x_319_21 rfl ?_
    refine r_iload x_319_22 rfl ?_
    refine r_iadd x_319_24 ?_
    obtain ⟨h7, h⟩ := h
    obtain ⟨n8, hA9, h⟩ := h
    obtain ⟨h10, h⟩ := h
    refine r_bald x_319_25 (Or.inl rfl) hA9 h7 h10.1 h10.2 ?_
    obtain ⟨n11, hA12, h⟩ := h
    obtain ⟨h13, h⟩ := h
    refine r_bast0 x_319_26 hA12 h4 h13.1 h13.2 ?_
    obtain ⟨M14, hM15⟩ : ∃ Mz, Mz = g_wi M b2 (v2 + v4) (g_w8 (g_i M b5 (v1 + v4))) := ⟨_, rfl⟩
    rw [← hM15]
    refine g_Run.ok fun hok16 => ?_
    replace h := h M14 hM15 hok16
    have hx17 := g_extW hM15
    replace hO1 := hO1.up hx17
    replace hA9 := hA9.up hx17
    replace hA12 := hA12.up hx17
    obtain ⟨h18, h⟩ := h
    refine r_iinc x_319_27 (by decide +kernel) rfl rfl (lv1 := [(0, .ref a0), (1, g_n v1), (2, g_n v2), (3, g_n v3), (4, g_n (v4 + 1))]) rfl ?_
    refine r_goto x_319_30 (t := 3) (by decide +kernel) ?_
    exact h
theorem m_X12_change {d : Nat} {M : g_M} {Q : Int → g_M → Prop} {a0 : Nat} {v1 : Int} (hv1 : g_InR v1) {v2 : Int} (hv2 : g_InR v2) (h : g_ok M → g_O M a0 12 ∧ g_Call d 227 [.ref a0, g_n v2] M (g_qI fun r5 M2 => g_ext M M2 → g_ok M2 → g_InR r5 → g_Call d 319 [.ref a0, g_n v2, g_n 922000, g_n r5] M2 (g_qV fun M7 => g_ext M2 M7 → g_ok M7 → (∀ M10, M10 = g_wi M7 a0 17 0 → g_ok M10 → g_Call d 237 [g_n v1] M10 (g_qI fun r17 M14 => g_ext M10 M14 → g_ok M14 → g_InR r17 → g_Run d 320 23 [(0, .ref a0), (1, g_n v1), (2, g_n v2), (3, g_n r17)] [] M14 (g_qI Q)))))) : g_Call (d + 1) 320 [.ref a0, g_n v1, g_n v2] M (g_qI Q) := by
  refine g_Call.ok fun hok0 => ?_
  replace h := h hok0
  refine r_body rfl (lv := [(0, .ref a0), (1, g_n v1), (2, g_n v2)]) rfl ?_
  refine g_Run.ok fun hok => ?_
  refine r_aload_n x_320_0 rfl ?_
  refine r_iload_n x_320_1 rfl ?_
  refine r_ldcw x_320_2 (v := g_n 922000) rfl ?_
  refine r_aload_n x_320_5 rfl ?_
  refine r_iload_n x_320_6 rfl ?_
  obtain ⟨hO1, h⟩ := h
  refine r_invV x_320_7 (z := 227) (ns := 0) (by decide +kernel) (as := [g_n v2]) (r := [g_n 922000, g_n v2, .ref a0]) rfl rfl rfl hO1 rfl rfl ?_
  refine r_callI h fun r5 M2 hx3 hok4 hr6 h => ?_
  replace h := h hx3 hok4 hr6
  replace hO1 := hO1.up hx3
  refine r_invV x_320_10 (z := 319) (ns := 0) (by decide +kernel) (as := [g_n v2, g_n 922000, g_n r5]) (r := []) rfl rfl rfl hO1 rfl rfl ?_
  refine r_callV h fun M7 hx8 hok9 h => ?_
  replace h := h hx8 hok9
  replace hO1 := hO1.up hx8
  refine r_aload_n x_320_13 rfl ?_
  refine r_iconst x_320_14 ?_
  refine r_putI x_320_15 (ci := 12) (k := 17) (ns := 0) (by decide +kernel) (by decide) (g_fZ (Or.inl rfl) (by decide +kernel)) rfl (g_Rk rfl) (g_zx (Or.inl rfl) rfl).2 (kz := 17) rfl hO1 ?_
  obtain ⟨M10, hM11⟩ : ∃ Mz, Mz = g_wi M7 a0 17 0 := ⟨_, rfl⟩
  rw [← hM11]
  refine g_Run.ok fun hok12 => ?_
  replace h := h M10 hM11 hok12
  have hx13 := g_extW hM11
  replace hO1 := hO1.up hx13
  refine r_iload_n x_320_18 rfl ?_
  refine r_invS x_320_19 (z := 237) (ns := 0) (by decide +kernel) (as := [g_n v1]) (r := []) rfl rfl rfl ?_
  refine r_callI h fun r17 M14 hx15 hok16 hr18 h => ?_
  replace h := h hx15 hok16 hr18
  replace hO1 := hO1.up hx15
  refine r_istore_n x_320_22 (by decide +kernel) rfl (lv1 := [(0, .ref a0), (1, g_n v1), (2, g_n v2), (3, g_n r17)]) rfl ?_
  exact h
theorem s_X12_change_23 {d : Nat} {M : g_M} {Q : Int → g_M → Prop} {a0 : Nat} {v1 : Int} (hv1 : g_InR v1) {v2 : Int} (hv2 : g_InR v2) {v3 : Int} (hv3 : g_InR v3) (h : g_ok M → g_O M a0 12 ∧ g_Call d 238 [.ref a0, g_n v1] M (g_qI fun r5 M2 => g_ext M M2 → g_ok M2 → g_InR r5 → ((v3 < r5 → g_Call d 233 [.ref a0, g_n v3] M2 (g_qI fun r30 M27 => g_ext M2 M27 → g_ok M27 → g_InR r30 → g_Call d 237 [g_n r30] M27 (g_qI fun r35 M32 => g_ext M27 M32 → g_ok M32 → g_InR r35 → g_Run d 320 42 [(0, .ref a0), (1, g_n v1), (2, g_n v2), (3, g_n v3), (4, g_n r35)] [] M32 (g_qI Q)))) ∧ (¬ v3 < r5 → g_Call d 227 [.ref a0, g_n 922000] M2 (g_qI fun r10 M7 => g_ext M2 M7 → g_ok M7 → g_InR r10 → ((2000 < r10 → g_Call d 257 [.ref a0, g_n 9, g_n ((-1))] M7 (g_qI fun r15 M12 => g_ext M7 M12 → g_ok M12 → g_InR r15 → ((r15 = 0 → Q 0 M12) ∧ (¬ r15 = 0 → Q 1 M12)))) ∧ (¬ 2000 < r10 → g_Call d 244 [.ref a0, g_n 922000] M7 (g_qI fun r20 M17 => g_ext M7 M17 → g_ok M17 → g_InR r20 → ((16 < r20 → g_Call d 257 [.ref a0, g_n 9, g_n ((-1))] M17 (g_qI fun r25 M22 => g_ext M17 M22 → g_ok M22 → g_InR r25 → ((r25 = 0 → Q 0 M22) ∧ (¬ r25 = 0 → Q 1 M22)))) ∧ (¬ 16 < r20 → Q 1 M17)))))))))) : g_Run d 320 23 [(0, .ref a0), (1, g_n v1), (2, g_n v2), (3, g_n v3)] [] M (g_qI Q) := by
  refine g_Run.ok fun hok => ?_
  replace h := h hok
  refine r_iload_n x_320_23 rfl ?_
  refine r_aload_n x_320_24 rfl ?_
  refine r_iload_n x_320_25 rfl ?_
  obtain ⟨hO1, h⟩ := h
  refine r_invV x_320_26 (z := 238) (ns := 0) (by decide +kernel) (as := [g_n v1]) (r := [g_n v3]) rfl rfl rfl hO1 rfl rfl ?_
  refine r_callI h fun r5 M2 hx3 hok4 hr6 h => ?_
  replace h := h hx3 hok4 hr6
  replace hO1 := hO1.up hx3
  refine r_ic_ge x_320_29 (t := 165) (by decide +kernel) hv3 hr6 (fun hc => ?_) (fun hc => ?_)
  · replace h := h.2 hc
    refine r_aload_n x_320_165 rfl ?_
    refine r_ldcw x_320_166 (v := g_n 922000) rfl ?_
    refine r_invV x_320_169 (z := 227) (ns := 0) (by decide +kernel) (as := [g_n 922000]) (r := []) rfl rfl rfl hO1 rfl rfl ?_
    refine r_callI h fun r10 M7 hx8 hok9 hr11 h => ?_
    replace h := h hx8 hok9 hr11
    replace hO1 := hO1.up hx8
    refine r_sipush x_320_172 (x := 2000) rfl ?_
    refine r_ic_gt x_320_175 (t := 190) (by decide +kernel) hr11 (g_Rk rfl) (fun hc => ?_) (fun hc => ?_)
    · replace h := h.1 hc
      refine r_aload_n x_320_190 rfl ?_
      refine r_bipush x_320_191 (x := 9) rfl ?_
      refine r_iconst x_320_193 ?_
      refine r_invV x_320_194 (z := 257) (ns := 0) (by decide +kernel) (as := [g_n 9, g_n ((-1))]) (r := []) rfl rfl rfl hO1 rfl rfl ?_
      refine r_callI h fun r15 M12 hx13 hok14 hr16 h => ?_
      replace h := h hx13 hok14 hr16
      replace hO1 := hO1.up hx13
      refine r_if_eq x_320_197 (t := 204) (by decide +kernel) hr16 (fun hc => ?_) (fun hc => ?_)
      · replace h := h.1 hc
        refine r_iconst x_320_204 ?_
        exact r_retZ x_320_205 rfl (Or.inl rfl) h
      · replace h := h.2 hc
        refine r_iconst x_320_200 ?_
        refine r_goto x_320_201 (t := 205) (by decide +kernel) ?_
        exact r_retZ x_320_205 rfl (Or.inr rfl) h
    · replace h := h.2 hc
      refine r_aload_n x_320_178 rfl ?_
      refine r_ldcw x_320_179 (v := g_n 922000) rfl ?_
      refine r_invV x_320_182 (z := 244) (ns := 0) (by decide +kernel) (as := [g_n 922000]) (r := []) rfl rfl rfl hO1 rfl rfl ?_
      refine r_callI h fun r20 M17 hx18 hok19 hr21 h => ?_
      replace h := h hx18 hok19 hr21
      replace hO1 := hO1.up hx18
      refine r_bipush x_320_185 (x := 16) rfl ?_
      refine r_ic_le x_320_187 (t := 200) (by decide +kernel) hr21 (g_Rk rfl) (fun hc => ?_) (fun hc => ?_)
      · replace h := h.2 hc
        refine r_iconst x_320_200 ?_
        refine r_goto x_320_201 (t := 205) (by decide +kernel) ?_
        exact r_retZ x_320_205 rfl (Or.inr rfl) h
      · replace h := h.1 hc
        refine r_aload_n x_320_190 rfl ?_
        refine r_bipush x_320_191 (x := 9) rfl ?_
        refine r_iconst x_320_193 ?_
        refine r_invV x_320_194 (z := 257) (ns := 0) (by decide +kernel) (as := [g_n 9, g_n ((-1))]) (r := []) rfl rfl rfl hO1 rfl rfl ?_
        refine r_callI h fun r25 M22 hx23 hok24 hr26 h => ?_
        replace h := h hx23 hok24 hr26
        replace hO1 := hO1.up hx23
        refine r_if_eq x_320_197 (t := 204) (by decide +kernel) hr26 (fun hc => ?_) (fun hc => ?_)
        · replace h := h.1 hc
          refine r_iconst x_320_204 ?_
          exact r_retZ x_320_205 rfl (Or.inl rfl) h
        · replace h := h.2 hc
          refine r_iconst x_320_200 ?_
          refine r_goto x_320_201 (t := 205) (by decide +kernel) ?_
          exact r_retZ x_320_205 rfl (Or.inr rfl) h
  · replace h := h.1 hc
    refine r_aload_n x_320_32 rfl ?_
    refine r_iload_n x_320_33 rfl ?_
    refine r_invV x_320_34 (z := 233) (ns := 0) (by decide +kernel) (as := [g_n v3]) (r := []) rfl rfl rfl hO1 rfl rfl ?_
    refine r_callI h fun r30 M27 hx28 hok29 hr31 h => ?_
    replace h := h hx28 hok29 hr31
    replace hO1 := hO1.up hx28
    refine r_invS x_320_37 (z := 237) (ns := 0) (by decide +kernel) (as := [g_n r30]) (r := []) rfl rfl rfl ?_
    refine r_callI h fun r35 M32 hx33 hok34 hr36 h => ?_
    replace h := h hx33 hok34 hr36
    replace hO1 := hO1.up hx33
    refine r_istore x_320_40 (by decide +kernel) rfl (lv1 := [(0, .ref a0), (1, g_n v1), (2, g_n v2), (3, g_n v3), (4, g_n r35)]) rfl ?_
    exact h
theorem s_X12_change_42 {d : Nat} {M : g_M} {Q : Int → g_M → Prop} {a0 : Nat} {v1 : Int} (hv1 : g_InR v1) {v2 : Int} (hv2 : g_InR v2) {v3 : Int} (hv3 : g_InR v3) {v4 : Int} (hv4 : g_InR v4) (h : g_ok M → g_O M a0 12 ∧ g_Call d 233 [.ref a0, g_n v3] M (g_qI fun r5 M2 => g_ext M M2 → g_ok M2 → g_InR r5 → g_Call d 238 [.ref a0, g_n r5] M2 (g_qI fun r10 M7 => g_ext M2 M7 → g_ok M7 → g_InR r10 → ((v4 < r10 → g_Call d 227 [.ref a0, g_n 922000] M7 (g_qI fun r20 M17 => g_ext M7 M17 → g_ok M17 → g_InR r20 → g_Call d 319 [.ref a0, g_n 922000, g_n 952000, g_n r20] M17 (g_qV fun M22 => g_ext M17 M22 → g_ok M22 → g_Call d 315 [.ref a0, g_n v3, g_n v4] M22 (g_qI fun r28 M25 => g_ext M22 M25 → g_ok M25 → g_InR r28 → ((0 < r28 → g_Call d 257 [.ref a0, g_n r28, g_n v4] M25 (g_qI fun r70 M67 => g_ext M25 M67 → g_ok M67 → g_InR r70 → (r70 = 0 ∨ r70 = 1) ∧ Q r70 M67)) ∧ (¬ 0 < r28 → g_Call d 227 [.ref a0, g_n 922000] M25 (g_qI fun r33 M30 => g_ext M25 M30 → g_ok M30 → g_InR r33 → g_InR (922000 + r33) ∧ g_Call d 227 [.ref a0, g_n 952000] M30 (g_qI fun r39 M36 => g_ext M30 M36 → g_ok M36 → g_InR r39 → g_InR (952000 + r39) ∧ g_Call d 230 [.ref a0, g_n 922000, g_n (922000 + r33), g_n 952000, g_n (952000 + r39)] M36 (g_qI fun r45 M42 => g_ext M36 M42 → g_ok M42 → g_InR r45 → ((r45 = 0 → (g_or (g_i M25 a0 17) 1 = 0 ∨ g_or (g_i M25 a0 17) 1 = 1) ∧ (∀ M58, M58 = g_wi M42 a0 17 (g_or (g_i M25 a0 17) 1) → g_ok M58 → g_Call d 235 [.ref a0, g_n v4] M58 (g_qI fun r65 M62 => g_ext M58 M62 → g_ok M62 → g_InR r65 → g_Run d 320 42 [(0, .ref a0), (1, g_n v1), (2, g_n v2), (3, g_n v3), (4, g_n r65)] [] M62 (g_qI Q)))) ∧ (¬ r45 = 0 → (g_or (g_i M25 a0 17) 0 = 0 ∨ g_or (g_i M25 a0 17) 0 = 1) ∧ (∀ M48, M48 = g_wi M42 a0 17 (g_or (g_i M25 a0 17) 0) → g_ok M48 → g_Call d 235 [.ref a0, g_n v4] M48 (g_qI fun r55 M52 => g_ext M48 M52 → g_ok M52 → g_InR r55 → g_Run d 320 42 [(0, .ref a0), (1, g_n v1), (2, g_n v2), (3, g_n v3), (4, g_n r55)] [] M52 (g_qI Q)))))))))))))) ∧ (¬ v4 < r10 → g_Call d 235 [.ref a0, g_n v3] M7 (g_qI fun r15 M12 => g_ext M7 M12 → g_ok M12 → g_InR r15 → g_Run d 320 23 [(0, .ref a0), (1, g_n v1), (2, g_n v2), (3, g_n r15)] [] M12 (g_qI Q))))))) : g_Run d 320 42 [(0, .ref a0), (1, g_n v1), (2, g_n v2), (3, g_n v3), (4, g_n v4)] [] M (g_qI Q) := by
  refine g_Run.ok fun hok => ?_
  replace h := h hok
  refine r_iload x_320_42 rfl ?_
  refine r_aload_n x_320_44 rfl ?_
  refine r_aload_n x_320_45 rfl ?_
  refine r_iload_n x_320_46 rfl ?_
  obtain ⟨hO1, h⟩ := h
  refine r_invV x_320_47 (z := 233) (ns := 0) (by decide +kernel) (as := [g_n v3]) (r := [.ref a0, g_n v4]) rfl rfl rfl hO1 rfl rfl ?_
  refine r_callI h fun r5 M2 hx3 hok4 hr6 h => ?_
  replace h := h hx3 hok4 hr6
  replace hO1 := hO1.up hx3
  refine r_invV x_320_50 (z := 238) (ns := 0) (by decide +kernel) (as := [g_n r5]) (r := [g_n v4]) rfl rfl rfl hO1 rfl rfl ?_
  refine r_callI h fun r10 M7 hx8 hok9 hr11 h => ?_
  replace h := h hx8 hok9 hr11
  replace hO1 := hO1.up hx8
  refine r_ic_ge x_320_53 (t := 156) (by decide +kernel) hv4 hr11 (fun hc => ?_) (fun hc => ?_)
  · replace h := h.2 hc
    refine r_aload_n x_320_156 rfl ?_
    refine r_iload_n x_320_157 rfl ?_
    refine r_invV x_320_158 (z := 235) (ns := 0) (by decide +kernel) (as := [g_n v3]) (r := []) rfl rfl rfl hO1 rfl rfl ?_
    refine r_callI h fun r15 M12 hx13 hok14 hr16 h => ?_
    replace h := h hx13 hok14 hr16
    replace hO1 := hO1.up hx13
    refine r_istore_n x_320_161 (by decide +kernel) rfl (lv1 := [(0, .ref a0), (1, g_n v1), (2, g_n v2), (3, g_n r15), (4, g_n v4)]) rfl ?_
    refine r_goto x_320_162 (t := 23) (by decide +kernel) ?_
    refine g_drop [0, 1, 2, 3] (lv1 := [(0, .ref a0), (1, g_n v1), (2, g_n v2), (3, g_n r15)]) rfl ?_
    exact h
  · replace h := h.1 hc
    refine r_aload_n x_320_56 rfl ?_
    refine r_ldcw x_320_57 (v := g_n 922000) rfl ?_
    refine r_ldcw x_320_60 (v := g_n 952000) rfl ?_
    refine r_aload_n x_320_63 rfl ?_
    refine r_ldcw x_320_64 (v := g_n 922000) rfl ?_
    refine r_invV x_320_67 (z := 227) (ns := 0) (by decide +kernel) (as := [g_n 922000]) (r := [g_n 952000, g_n 922000, .ref a0]) rfl rfl rfl hO1 rfl rfl ?_
    refine r_callI h fun r20 M17 hx18 hok19 hr21 h => ?_
    replace h := h hx18 hok19 hr21
    replace hO1 := hO1.up hx18
    refine r_invV x_320_70 (z := 319) (ns := 0) (by decide +kernel) (as := [g_n 922000, g_n 952000, g_n r20]) (r := []) rfl rfl rfl hO1 rfl rfl ?_
    refine r_callV h fun M22 hx23 hok24 h => ?_
    replace h := h hx23 hok24
    replace hO1 := hO1.up hx23
    refine r_aload_n x_320_73 rfl ?_
    refine r_iload_n x_320_74 rfl ?_
    refine r_iload x_320_75 rfl ?_
    refine r_invV x_320_77 (z := 315) (ns := 0) (by decide +kernel) (as := [g_n v3, g_n v4]) (r := []) rfl rfl rfl hO1 rfl rfl ?_
    refine r_callI h fun r28 M25 hx26 hok27 hr29 h => ?_
    replace h := h hx26 hok27 hr29
    replace hO1 := hO1.up hx26
    refine r_istore x_320_80 (by decide +kernel) rfl (lv1 := [(0, .ref a0), (1, g_n v1), (2, g_n v2), (3, g_n v3), (4, g_n v4), (5, g_n r28)]) rfl ?_
    refine r_iload x_320_82 rfl ?_
    refine r_if_le x_320_84 (t := 96) (by decide +kernel) hr29 (fun hc => ?_) (fun hc => ?_)
    · replace h := h.2 hc
      refine r_aload_n x_320_96 rfl ?_
      refine r_dup x_320_97 rfl ?_
      refine r_getI x_320_98 rfl (ci := 12) (k := 17) (ns := 0) (by decide +kernel) (by decide) rfl (kz := 17) rfl hO1 ?_
      refine r_aload_n x_320_101 rfl ?_
      refine r_ldcw x_320_102 (v := g_n 922000) rfl ?_
      refine r_ldcw x_320_105 (v := g_n 922000) rfl ?_
      refine r_aload_n x_320_108 rfl ?_
      refine r_ldcw x_320_109 (v := g_n 922000) rfl ?_
      refine r_invV x_320_112 (z := 227) (ns := 0) (by decide +kernel) (as := [g_n 922000]) (r := [g_n 922000, g_n 922000, .ref a0, g_n (g_i M25 a0 17), .ref a0]) rfl rfl rfl hO1 rfl rfl ?_
      refine r_callI h fun r33 M30 hx31 hok32 hr34 h => ?_
      replace h := h hx31 hok32 hr34
      replace hO1 := hO1.up hx31
      refine r_iadd x_320_115 ?_
      obtain ⟨h35, h⟩ := h
      refine r_ldcw x_320_116 (v := g_n 952000) rfl ?_
      refine r_ldcw x_320_119 (v := g_n 952000) rfl ?_
      refine r_aload_n x_320_122 rfl ?_
      refine r_ldcw x_320_123 (v := g_n 952000) rfl ?_
      refine r_invV x_320_126 (z := 227) (ns := 0) (by decide +kernel) (as := [g_n 952000]) (r := [g_n 952000, g_n 952000, g_n (922000 + r33), g_n 922000, .ref a0, g_n (g_i M25 a0 17), .ref a0]) rfl rfl rfl hO1 rfl rfl ?_
      refine r_callI h fun r39 M36 hx37 hok38 hr40 h => ?_
      replace h := h hx37 hok38 hr40
      replace hO1 := hO1.up hx37
      refine r_iadd x_320_129 ?_
      obtain ⟨h41, h⟩ := h
      refine r_invV x_320_130 (z := 230) (ns := 0) (by decide +kernel) (as := [g_n 922000, g_n (922000 + r33), g_n 952000, g_n (952000 + r39)]) (r := [g_n (g_i M25 a0 17), .ref a0]) rfl rfl rfl hO1 rfl rfl ?_
      refine r_callI h fun r45 M42 hx43 hok44 hr46 h => ?_
      replace h := h hx43 hok44 hr46
      replace hO1 := hO1.up hx43
      refine r_if_ne x_320_133 (t := 140) (by decide +kernel) hr46 (fun hc => ?_) (fun hc => ?_)
      · replace h := h.2 hc
        refine r_iconst x_320_140 ?_
        refine r_ior x_320_141 ?_
        obtain ⟨h47, h⟩ := h
        refine r_putI x_320_142 (ci := 12) (k := 17) (ns := 0) (by decide +kernel) (by decide) (g_fZ h47 (by decide +kernel)) rfl (g_InR_toInt _) (g_zx h47 rfl).2 (kz := 17) rfl hO1 ?_
        obtain ⟨M48, hM49⟩ : ∃ Mz, Mz = g_wi M42 a0 17 (g_or (g_i M25 a0 17) 0) := ⟨_, rfl⟩
        rw [← hM49]
        refine g_Run.ok fun hok50 => ?_
        replace h := h M48 hM49 hok50
        have hx51 := g_extW hM49
        replace hO1 := hO1.up hx51
        refine r_aload_n x_320_145 rfl ?_
        refine r_iload x_320_146 rfl ?_
        refine r_invV x_320_148 (z := 235) (ns := 0) (by decide +kernel) (as := [g_n v4]) (r := []) rfl rfl rfl hO1 rfl rfl ?_
        refine r_callI h fun r55 M52 hx53 hok54 hr56 h => ?_
        replace h := h hx53 hok54 hr56
        replace hO1 := hO1.up hx53
        refine r_istore x_320_151 (by decide +kernel) rfl (lv1 := [(0, .ref a0), (1, g_n v1), (2, g_n v2), (3, g_n v3), (4, g_n r55), (5, g_n r28)]) rfl ?_
        refine r_goto x_320_153 (t := 42) (by decide +kernel) ?_
        refine g_drop [0, 1, 2, 3, 4] (lv1 := [(0, .ref a0), (1, g_n v1), (2, g_n v2), (3, g_n v3), (4, g_n r55)]) rfl ?_
        exact h
      · replace h := h.1 hc
        refine r_iconst x_320_136 ?_
        refine r_goto x_320_137 (t := 141) (by decide +kernel) ?_
        refine r_ior x_320_141 ?_
        obtain ⟨h57, h⟩ := h
        refine r_putI x_320_142 (ci := 12) (k := 17) (ns := 0) (by decide +kernel) (by decide) (g_fZ h57 (by decide +kernel)) rfl (g_InR_toInt _) (g_zx h57 rfl).2 (kz := 17) rfl hO1 ?_
        obtain ⟨M58, hM59⟩ : ∃ Mz, Mz = g_wi M42 a0 17 (g_or (g_i M25 a0 17) 1) := ⟨_, rfl⟩
        rw [← hM59]
        refine g_Run.ok fun hok60 => ?_
        replace h := h M58 hM59 hok60
        have hx61 := g_extW hM59
        replace hO1 := hO1.up hx61
        refine r_aload_n x_320_145 rfl ?_
        refine r_iload x_320_146 rfl ?_
        refine r_invV x_320_148 (z := 235) (ns := 0) (by decide +kernel) (as := [g_n v4]) (r := []) rfl rfl rfl hO1 rfl rfl ?_
        refine r_callI h fun r65 M62 hx63 hok64 hr66 h => ?_
        replace h := h hx63 hok64 hr66
        replace hO1 := hO1.up hx63
        refine r_istore x_320_151 (by decide +kernel) rfl (lv1 := [(0, .ref a0), (1, g_n v1), (2, g_n v2), (3, g_n v3), (4, g_n r65), (5, g_n r28)]) rfl ?_
        refine r_goto x_320_153 (t := 42) (by decide +kernel) ?_
        refine g_drop [0, 1, 2, 3, 4] (lv1 := [(0, .ref a0), (1, g_n v1), (2, g_n v2), (3, g_n v3), (4, g_n r65)]) rfl ?_
        exact h
    · replace h := h.1 hc
      refine r_aload_n x_320_87 rfl ?_
      refine r_iload x_320_88 rfl ?_
      refine r_iload x_320_90 rfl ?_
      refine r_invV x_320_92 (z := 257) (ns := 0) (by decide +kernel) (as := [g_n r28, g_n v4]) (r := []) rfl rfl rfl hO1 rfl rfl ?_
      refine r_callI h fun r70 M67 hx68 hok69 hr71 h => ?_
      replace h := h hx68 hok69 hr71
      replace hO1 := hO1.up hx68
      obtain ⟨hz, h⟩ := h
      exact r_retZ x_320_95 rfl hz h
theorem m_X12_isPlain {d : Nat} {M : g_M} {Q : Int → g_M → Prop} {a0 : Nat} {v1 : Int} (hv1 : g_InR v1) {v2 : Int} (hv2 : g_InR v2) (h : g_ok M → ((v1 = v2 → Q 0 M) ∧ (¬ v1 = v2 → g_O M a0 12 ∧ g_Call d 226 [.ref a0, g_n v1] M (g_qI fun r5 M2 => g_ext M M2 → g_ok M2 → g_InR r5 → ((r5 = 36 → Q 0 M2) ∧ (¬ r5 = 36 → g_Run d 321 19 [(0, .ref a0), (1, g_n v1), (2, g_n v2), (3, g_n v1)] [] M2 (g_qI Q))))))) : g_Call (d + 1) 321 [.ref a0, g_n v1, g_n v2] M (g_qI Q) := by
  refine g_Call.ok fun hok0 => ?_
  replace h := h hok0
  refine r_body rfl (lv := [(0, .ref a0), (1, g_n v1), (2, g_n v2)]) rfl ?_
  refine g_Run.ok fun hok => ?_
  refine r_iload_n x_321_0 rfl ?_
  refine r_iload_n x_321_1 rfl ?_
  refine r_ic_eq x_321_2 (t := 15) (by decide +kernel) hv1 hv2 (fun hc => ?_) (fun hc => ?_)
  · replace h := h.1 hc
    refine r_iconst x_321_15 ?_
    exact r_retZ x_321_16 rfl (Or.inl rfl) h
  · replace h := h.2 hc
    refine r_aload_n x_321_5 rfl ?_
    refine r_iload_n x_321_6 rfl ?_
    obtain ⟨hO1, h⟩ := h
    refine r_invV x_321_7 (z := 226) (ns := 0) (by decide +kernel) (as := [g_n v1]) (r := []) rfl rfl rfl hO1 rfl rfl ?_
    refine r_callI h fun r5 M2 hx3 hok4 hr6 h => ?_
    replace h := h hx3 hok4 hr6
    replace hO1 := hO1.up hx3
    refine r_bipush x_321_10 (x := 36) rfl ?_
    refine r_ic_ne x_321_12 (t := 17) (by decide +kernel) hr6 (g_Rk rfl) (fun hc => ?_) (fun hc => ?_)
    · replace h := h.2 hc
      refine r_iload_n x_321_17 rfl ?_
      refine r_istore_n x_321_18 (by decide +kernel) rfl (lv1 := [(0, .ref a0), (1, g_n v1), (2, g_n v2), (3, g_n v1)]) rfl ?_
      exact h
    · replace h := h.1 hc
      refine r_iconst x_321_15 ?_
      exact r_retZ x_321_16 rfl (Or.inl rfl) h
theorem s_X12_isPlain_19 {d : Nat} {M : g_M} {Q : Int → g_M → Prop} {a0 : Nat} {v1 : Int} (hv1 : g_InR v1) {v2 : Int} (hv2 : g_InR v2) {v3 : Int} (hv3 : g_InR v3) (h : g_ok M → ((v3 < v2 → g_O M a0 12 ∧ g_Call d 226 [.ref a0, g_n v3] M (g_qI fun r5 M2 => g_ext M M2 → g_ok M2 → g_InR r5 → ((r5 = 46 → Q 0 M2) ∧ (¬ r5 = 46 → ∃ b7, g_r M2 a0 0 = some b7 ∧ ∃ n9, g_A M2 b7 0 n9 ∧ ((0 : Int) ≤ v3 ∧ (v3 : Int) < n9) ∧ ((g_i M2 b7 v3 = 0 → Q 0 M2) ∧ (¬ g_i M2 b7 v3 = 0 → g_InR (v3 + 1) ∧ g_Run d 321 19 [(0, .ref a0), (1, g_n v1), (2, g_n v2), (3, g_n (v3 + 1))] [] M2 (g_qI Q))))))) ∧ (¬ v3 < v2 → Q 1 M))) : g_Run d 321 19 [(0, .ref a0), (1, g_n v1), (2, g_n v2), (3, g_n v3)] [] M (g_qI Q) := by
  refine g_Run.ok fun hok => ?_
  replace h := h hok
  refine r_iload_n x_321_19 rfl ?_
  refine r_iload_n x_321_20 rfl ?_
  refine r_ic_ge x_321_21 (t := 51) (by decide +kernel) hv3 hv2 (fun hc => ?_) (fun hc => ?_)
  · replace h := h.2 hc
    refine r_iconst x_321_51 ?_
    exact r_retZ x_321_52 rfl (Or.inr rfl) h
  · replace h := h.1 hc
    refine r_aload_n x_321_24 rfl ?_
    refine r_iload_n x_321_25 rfl ?_
    obtain ⟨hO1, h⟩ := h
    refine r_invV x_321_26 (z := 226) (ns := 0) (by decide +kernel) (as := [g_n v3]) (r := []) rfl rfl rfl hO1 rfl rfl ?_
    refine r_callI h fun r5 M2 hx3 hok4 hr6 h => ?_
    replace h := h hx3 hok4 hr6
    replace hO1 := hO1.up hx3
    refine r_bipush x_321_29 (x := 46) rfl ?_
    refine r_ic_eq x_321_31 (t := 43) (by decide +kernel) hr6 (g_Rk rfl) (fun hc => ?_) (fun hc => ?_)
    · replace h := h.1 hc
      refine r_iconst x_321_43 ?_
      exact r_retZ x_321_44 rfl (Or.inl rfl) h
    · replace h := h.2 hc
      refine r_aload_n x_321_34 rfl ?_
      obtain ⟨b7, hb8, h⟩ := h
      refine r_getR x_321_35 rfl (ci := 12) (k := 0) (ns := 0) (by decide +kernel) (by decide) rfl (kz := 0) rfl hO1 hb8 ?_
      refine r_iload_n x_321_38 rfl ?_
      obtain ⟨n9, hA10, h⟩ := h
      obtain ⟨h11, h⟩ := h
      refine r_bald x_321_39 (Or.inl rfl) hA10 hv3 h11.1 h11.2 ?_
      refine r_if_ne x_321_40 (t := 45) (by decide +kernel) (hok4.1 _ _) (fun hc => ?_) (fun hc => ?_)
      · replace h := h.2 hc
        obtain ⟨h12, h⟩ := h
        refine r_iinc x_321_45 (by decide +kernel) rfl rfl (lv1 := [(0, .ref a0), (1, g_n v1), (2, g_n v2), (3, g_n (v3 + 1))]) rfl ?_
        refine r_goto x_321_48 (t := 19) (by decide +kernel) ?_
        exact h
      · replace h := h.1 hc
        refine r_iconst x_321_43 ?_
        exact r_retZ x_321_44 rfl (Or.inl rfl) h
theorem m_X12_textEnd {d : Nat} {M : g_M} {Q : Int → g_M → Prop} {a0 : Nat} {v1 : Int} (hv1 : g_InR v1) (h : g_ok M → g_O M a0 12 ∧ g_Call d 233 [.ref a0, g_n v1] M (g_qI fun r5 M2 => g_ext M M2 → g_ok M2 → g_InR r5 → g_InR (r5 + 3) ∧ g_Call d 233 [.ref a0, g_n v1] M2 (g_qI fun r11 M8 => g_ext M2 M8 → g_ok M8 → g_InR r11 → g_Call d 227 [.ref a0, g_n r11] M8 (g_qI fun r16 M13 => g_ext M8 M13 → g_ok M13 → g_InR r16 → g_InR ((r5 + 3) + r16) ∧ Q ((r5 + 3) + r16) M13)))) : g_Call (d + 1) 322 [.ref a0, g_n v1] M (g_qI Q) := by
  refine g_Call.ok fun hok0 => ?_
  replace h := h hok0
  refine r_body rfl (lv := [(0, .ref a0), (1, g_n v1)]) rfl ?_
  refine g_Run.ok fun hok => ?_
  refine r_aload_n x_322_0 rfl ?_
  refine r_iload_n x_322_1 rfl ?_
  obtain ⟨hO1, h⟩ := h
  refine r_invV x_322_2 (z := 233) (ns := 0) (by decide +kernel) (as := [g_n v1]) (r := []) rfl rfl rfl hO1 rfl rfl ?_
  refine r_callI h fun r5 M2 hx3 hok4 hr6 h => ?_
  replace h := h hx3 hok4 hr6
  replace hO1 := hO1.up hx3
  refine r_iconst x_322_5 ?_
  refine r_iadd x_322_6 ?_
  obtain ⟨h7, h⟩ := h
  refine r_aload_n x_322_7 rfl ?_
  refine r_aload_n x_322_8 rfl ?_
  refine r_iload_n x_322_9 rfl ?_
  refine r_invV x_322_10 (z := 233) (ns := 0) (by decide +kernel) (as := [g_n v1]) (r := [.ref a0, g_n (r5 + 3)]) rfl rfl rfl hO1 rfl rfl ?_
  refine r_callI h fun r11 M8 hx9 hok10 hr12 h => ?_
  replace h := h hx9 hok10 hr12
  replace hO1 := hO1.up hx9
  refine r_invV x_322_13 (z := 227) (ns := 0) (by decide +kernel) (as := [g_n r11]) (r := [g_n (r5 + 3)]) rfl rfl rfl hO1 rfl rfl ?_
  refine r_callI h fun r16 M13 hx14 hok15 hr17 h => ?_
  replace h := h hx14 hok15 hr17
  replace hO1 := hO1.up hx14
  refine r_iadd x_322_16 ?_
  obtain ⟨h18, h⟩ := h
  exact r_retI x_322_17 rfl h18 h
theorem m_X12_isReference {d : Nat} {M : g_M} {Q : Int → g_M → Prop} {a0 : Nat} {v1 : Int} (hv1 : g_InR v1) (h : g_ok M → g_O M a0 12 ∧ ∃ b2, g_r M a0 0 = some b2 ∧ ∃ n4, g_A M b2 0 n4 ∧ ((0 : Int) ≤ v1 ∧ (v1 : Int) < n4) ∧ ((g_i M b2 v1 = 2 → g_Call d 322 [.ref a0, g_n v1] M (g_qI fun r10 M7 => g_ext M M7 → g_ok M7 → g_InR r10 → g_Call d 233 [.ref a0, g_n v1] M7 (g_qI fun r15 M12 => g_ext M7 M12 → g_ok M12 → g_InR r15 → g_InR (r15 + 4) ∧ ((r15 + 4 < r10 → g_Call d 233 [.ref a0, g_n v1] M12 (g_qI fun r21 M18 => g_ext M12 M18 → g_ok M18 → g_InR r21 → g_InR (r21 + 4) ∧ g_Call d 226 [.ref a0, g_n (r21 + 4)] M18 (g_qI fun r27 M24 => g_ext M18 M24 → g_ok M24 → g_InR r27 → ((r27 = 36 → Q 1 M24) ∧ (¬ r27 = 36 → Q 0 M24))))) ∧ (¬ r15 + 4 < r10 → Q 0 M12))))) ∧ (¬ g_i M b2 v1 = 2 → Q 0 M))) : g_Call (d + 1) 323 [.ref a0, g_n v1] M (g_qI Q) := by
  refine g_Call.ok fun hok0 => ?_
  replace h := h hok0
  refine r_body rfl (lv := [(0, .ref a0), (1, g_n v1)]) rfl ?_
  refine g_Run.ok fun hok => ?_
  refine r_aload_n x_323_0 rfl ?_
  obtain ⟨hO1, h⟩ := h
  obtain ⟨b2, hb3, h⟩ := h
  refine r_getR x_323_1 rfl (ci := 12) (k := 0) (ns := 0) (by decide +kernel) (by decide) rfl (kz := 0) rfl hO1 hb3 ?_
  refine r_iload_n x_323_4 rfl ?_
  obtain ⟨n4, hA5, h⟩ := h
  obtain ⟨h6, h⟩ := h
  refine r_bald x_323_5 (Or.inl rfl) hA5 hv1 h6.1 h6.2 ?_
  refine r_iconst x_323_6 ?_
  refine r_ic_ne x_323_7 (t := 45) (by decide +kernel) (hok.1 _ _) (g_Rk rfl) (fun hc => ?_) (fun hc => ?_)
  · replace h := h.2 hc
    refine r_iconst x_323_45 ?_
    exact r_retZ x_323_46 rfl (Or.inl rfl) h
  · replace h := h.1 hc
    refine r_aload_n x_323_10 rfl ?_
    refine r_iload_n x_323_11 rfl ?_
    refine r_invV x_323_12 (z := 322) (ns := 0) (by decide +kernel) (as := [g_n v1]) (r := []) rfl rfl rfl hO1 rfl rfl ?_
    refine r_callI h fun r10 M7 hx8 hok9 hr11 h => ?_
    replace h := h hx8 hok9 hr11
    replace hO1 := hO1.up hx8
    replace hA5 := hA5.up hx8
    refine r_aload_n x_323_15 rfl ?_
    refine r_iload_n x_323_16 rfl ?_
    refine r_invV x_323_17 (z := 233) (ns := 0) (by decide +kernel) (as := [g_n v1]) (r := [g_n r10]) rfl rfl rfl hO1 rfl rfl ?_
    refine r_callI h fun r15 M12 hx13 hok14 hr16 h => ?_
    replace h := h hx13 hok14 hr16
    replace hO1 := hO1.up hx13
    replace hA5 := hA5.up hx13
    refine r_iconst x_323_20 ?_
    refine r_iadd x_323_21 ?_
    obtain ⟨h17, h⟩ := h
    refine r_ic_le x_323_22 (t := 45) (by decide +kernel) hr11 h17 (fun hc => ?_) (fun hc => ?_)
    · replace h := h.2 hc
      refine r_iconst x_323_45 ?_
      exact r_retZ x_323_46 rfl (Or.inl rfl) h
    · replace h := h.1 hc
      refine r_aload_n x_323_25 rfl ?_
      refine r_aload_n x_323_26 rfl ?_
      refine r_iload_n x_323_27 rfl ?_
      refine r_invV x_323_28 (z := 233) (ns := 0) (by decide +kernel) (as := [g_n v1]) (r := [.ref a0]) rfl rfl rfl hO1 rfl rfl ?_
      refine r_callI h fun r21 M18 hx19 hok20 hr22 h => ?_
      replace h := h hx19 hok20 hr22
      replace hO1 := hO1.up hx19
      replace hA5 := hA5.up hx19
      refine r_iconst x_323_31 ?_
      refine r_iadd x_323_32 ?_
      obtain ⟨h23, h⟩ := h
      refine r_invV x_323_33 (z := 226) (ns := 0) (by decide +kernel) (as := [g_n (r21 + 4)]) (r := []) rfl rfl rfl hO1 rfl rfl ?_
      refine r_callI h fun r27 M24 hx25 hok26 hr28 h => ?_
      replace h := h hx25 hok26 hr28
      replace hO1 := hO1.up hx25
      replace hA5 := hA5.up hx25
      refine r_bipush x_323_36 (x := 36) rfl ?_
      refine r_ic_ne x_323_38 (t := 45) (by decide +kernel) hr28 (g_Rk rfl) (fun hc => ?_) (fun hc => ?_)
      · replace h := h.2 hc
        refine r_iconst x_323_45 ?_
        exact r_retZ x_323_46 rfl (Or.inl rfl) h
      · replace h := h.1 hc
        refine r_iconst x_323_41 ?_
        refine r_goto x_323_42 (t := 46) (by decide +kernel) ?_
        exact r_retZ x_323_46 rfl (Or.inr rfl) h
theorem m_X12_expressionFault {d : Nat} {M : g_M} {Q : Int → g_M → Prop} {a0 : Nat} {v1 : Int} (hv1 : g_InR v1) (h : g_ok M → g_O M a0 12 ∧ g_Call d 323 [.ref a0, g_n v1] M (g_qI fun r5 M2 => g_ext M M2 → g_ok M2 → g_InR r5 → ((r5 = 0 → Q 0 M2) ∧ (¬ r5 = 0 → g_Call d 233 [.ref a0, g_n v1] M2 (g_qI fun r10 M7 => g_ext M2 M7 → g_ok M7 → g_InR r10 → g_InR (r10 + 5) ∧ g_Call d 322 [.ref a0, g_n v1] M7 (g_qI fun r16 M13 => g_ext M7 M13 → g_ok M13 → g_InR r16 → g_Call d 275 [.ref a0, g_n (r10 + 5), g_n r16] M13 (g_qI fun r21 M18 => g_ext M13 M18 → g_ok M18 → g_InR r21 → ((r21 = 0 → Q 3 M18) ∧ (¬ r21 = 0 → Q 0 M18))))))))) : g_Call (d + 1) 324 [.ref a0, g_n v1] M (g_qI Q) := by
  refine g_Call.ok fun hok0 => ?_
  replace h := h hok0
  refine r_body rfl (lv := [(0, .ref a0), (1, g_n v1)]) rfl ?_
  refine g_Run.ok fun hok => ?_
  refine r_aload_n x_324_0 rfl ?_
  refine r_iload_n x_324_1 rfl ?_
  obtain ⟨hO1, h⟩ := h
  refine r_invV x_324_2 (z := 323) (ns := 0) (by decide +kernel) (as := [g_n v1]) (r := []) rfl rfl rfl hO1 rfl rfl ?_
  refine r_callI h fun r5 M2 hx3 hok4 hr6 h => ?_
  replace h := h hx3 hok4 hr6
  replace hO1 := hO1.up hx3
  refine r_if_eq x_324_5 (t := 27) (by decide +kernel) hr6 (fun hc => ?_) (fun hc => ?_)
  · replace h := h.1 hc
    refine r_iconst x_324_27 ?_
    refine r_goto x_324_28 (t := 32) (by decide +kernel) ?_
    exact r_retI x_324_32 rfl (g_Rk rfl) h
  · replace h := h.2 hc
    refine r_aload_n x_324_8 rfl ?_
    refine r_aload_n x_324_9 rfl ?_
    refine r_iload_n x_324_10 rfl ?_
    refine r_invV x_324_11 (z := 233) (ns := 0) (by decide +kernel) (as := [g_n v1]) (r := [.ref a0]) rfl rfl rfl hO1 rfl rfl ?_
    refine r_callI h fun r10 M7 hx8 hok9 hr11 h => ?_
    replace h := h hx8 hok9 hr11
    replace hO1 := hO1.up hx8
    refine r_iconst x_324_14 ?_
    refine r_iadd x_324_15 ?_
    obtain ⟨h12, h⟩ := h
    refine r_aload_n x_324_16 rfl ?_
    refine r_iload_n x_324_17 rfl ?_
    refine r_invV x_324_18 (z := 322) (ns := 0) (by decide +kernel) (as := [g_n v1]) (r := [g_n (r10 + 5), .ref a0]) rfl rfl rfl hO1 rfl rfl ?_
    refine r_callI h fun r16 M13 hx14 hok15 hr17 h => ?_
    replace h := h hx14 hok15 hr17
    replace hO1 := hO1.up hx14
    refine r_invV x_324_21 (z := 275) (ns := 0) (by decide +kernel) (as := [g_n (r10 + 5), g_n r16]) (r := []) rfl rfl rfl hO1 rfl rfl ?_
    refine r_callI h fun r21 M18 hx19 hok20 hr22 h => ?_
    replace h := h hx19 hok20 hr22
    replace hO1 := hO1.up hx19
    refine r_if_eq x_324_24 (t := 31) (by decide +kernel) hr22 (fun hc => ?_) (fun hc => ?_)
    · replace h := h.1 hc
      refine r_iconst x_324_31 ?_
      exact r_retI x_324_32 rfl (g_Rk rfl) h
    · replace h := h.2 hc
      refine r_iconst x_324_27 ?_
      refine r_goto x_324_28 (t := 32) (by decide +kernel) ?_
      exact r_retI x_324_32 rfl (g_Rk rfl) h
theorem m_X12_resolve {d : Nat} {M : g_M} {Q : g_M → Prop} {a0 : Nat} {v1 : Int} (hv1 : g_InR v1) {v2 : Int} (hv2 : g_InR v2) {v3 : Int} (hv3 : g_InR v3) (h : g_ok M → g_O M a0 12 ∧ (∀ M2, M2 = g_wi M a0 27 0 → g_ok M2 → g_Run d 325 11 [(0, .ref a0), (1, g_n v1), (2, g_n v2), (3, g_n v3), (4, g_n v1), (5, g_n v2)] [] M2 (g_qV Q))) : g_Call (d + 1) 325 [.ref a0, g_n v1, g_n v2, g_n v3] M (g_qV Q) := by
  refine g_Call.ok fun hok0 => ?_
  replace h := h hok0
  refine r_body rfl (lv := [(0, .ref a0), (1, g_n v1), (2, g_n v2), (3, g_n v3)]) rfl ?_
  refine g_Run.ok fun hok => ?_
  refine r_iload_n x_325_0 rfl ?_
  refine r_istore x_325_1 (by decide +kernel) rfl (lv1 := [(0, .ref a0), (1, g_n v1), (2, g_n v2), (3, g_n v3), (4, g_n v1)]) rfl ?_
  refine r_iload_n x_325_3 rfl ?_
  refine r_istore x_325_4 (by decide +kernel) rfl (lv1 := [(0, .ref a0), (1, g_n v1), (2, g_n v2), (3, g_n v3), (4, g_n v1), (5, g_n v2)]) rfl ?_
  refine r_aload_n x_325_6 rfl ?_
  refine r_iconst x_325_7 ?_
  obtain ⟨hO1, h⟩ := h
  refine r_putI x_325_8 (ci := 12) (k := 27) (ns := 0) (by decide +kernel) (by decide) (g_f0 (by decide +kernel)) rfl (g_Rk rfl) trivial (kz := 27) rfl hO1 ?_
  obtain ⟨M2, hM3⟩ : ∃ Mz, Mz = g_wi M a0 27 0 := ⟨_, rfl⟩
  rw [← hM3]
  refine g_Run.ok fun hok4 => ?_
  replace h := h M2 hM3 hok4
  have hx5 := g_extW hM3
  replace hO1 := hO1.up hx5
  exact h
theorem s_X12_resolve_11 {d : Nat} {M : g_M} {Q : g_M → Prop} {a0 : Nat} {v1 : Int} (hv1 : g_InR v1) {v2 : Int} (hv2 : g_InR v2) {v3 : Int} (hv3 : g_InR v3) {v4 : Int} (hv4 : g_InR v4) {v5 : Int} (hv5 : g_InR v5) (h : g_ok M → g_O M a0 12 ∧ g_Call d 272 [.ref a0, g_n v5, g_n v3] M (g_qI fun r5 M2 => g_ext M M2 → g_ok M2 → g_InR r5 → g_Call d 240 [.ref a0, g_n v4, g_n v5, g_n r5] M2 (g_qI fun r10 M7 => g_ext M2 M7 → g_ok M7 → g_InR r10 → ((r10 = (-1) → Q M7) ∧ (¬ r10 = (-1) → ((r5 = v3 → (∀ M45, M45 = g_wi M7 a0 27 1 → g_ok M45 → (∀ M49, M49 = g_wi M45 a0 28 r10 → g_ok M49 → Q M49))) ∧ (¬ r5 = v3 → g_InR (r5 + 1) ∧ ∃ b13, g_r M7 a0 0 = some b13 ∧ ∃ n15, g_A M7 b13 0 n15 ∧ ((0 : Int) ≤ r10 ∧ (r10 : Int) < n15) ∧ ((g_i M7 b13 r10 = 4 → (∀ M28, M28 = g_wi M7 a0 27 2 → g_ok M28 → g_Call d 233 [.ref a0, g_n r10] M28 (g_qI fun r35 M32 => g_ext M28 M32 → g_ok M32 → g_InR r35 → (∀ M37, M37 = g_wi M32 a0 28 r35 → g_ok M37 → (∀ M41, M41 = g_wi M37 a0 29 (r5 + 1) → g_ok M41 → Q M41))))) ∧ (¬ g_i M7 b13 r10 = 4 → ∃ b18, g_r M7 a0 0 = some b18 ∧ ∃ n20, g_A M7 b18 0 n20 ∧ ((0 : Int) ≤ r10 ∧ (r10 : Int) < n20) ∧ ((g_i M7 b18 r10 = 3 → g_Call d 233 [.ref a0, g_n r10] M7 (g_qI fun r26 M23 => g_ext M7 M23 → g_ok M23 → g_InR r26 → g_Run d 325 11 [(0, .ref a0), (1, g_n v1), (2, g_n v2), (3, g_n v3), (4, g_n r26), (5, g_n (r5 + 1))] [] M23 (g_qV Q))) ∧ (¬ g_i M7 b18 r10 = 3 → Q M7))))))))))) : g_Run d 325 11 [(0, .ref a0), (1, g_n v1), (2, g_n v2), (3, g_n v3), (4, g_n v4), (5, g_n v5)] [] M (g_qV Q) := by
  refine g_Run.ok fun hok => ?_
  replace h := h hok
  refine r_aload_n x_325_11 rfl ?_
  refine r_iload x_325_12 rfl ?_
  refine r_iload_n x_325_14 rfl ?_
  obtain ⟨hO1, h⟩ := h
  refine r_invV x_325_15 (z := 272) (ns := 0) (by decide +kernel) (as := [g_n v5, g_n v3]) (r := []) rfl rfl rfl hO1 rfl rfl ?_
  refine r_callI h fun r5 M2 hx3 hok4 hr6 h => ?_
  replace h := h hx3 hok4 hr6
  replace hO1 := hO1.up hx3
  refine r_istore x_325_18 (by decide +kernel) rfl (lv1 := [(0, .ref a0), (1, g_n v1), (2, g_n v2), (3, g_n v3), (4, g_n v4), (5, g_n v5), (6, g_n r5)]) rfl ?_
  refine r_aload_n x_325_20 rfl ?_
  refine r_iload x_325_21 rfl ?_
  refine r_iload x_325_23 rfl ?_
  refine r_iload x_325_25 rfl ?_
  refine r_invV x_325_27 (z := 240) (ns := 0) (by decide +kernel) (as := [g_n v4, g_n v5, g_n r5]) (r := []) rfl rfl rfl hO1 rfl rfl ?_
  refine r_callI h fun r10 M7 hx8 hok9 hr11 h => ?_
  replace h := h hx8 hok9 hr11
  replace hO1 := hO1.up hx8
  refine r_istore x_325_30 (by decide +kernel) rfl (lv1 := [(0, .ref a0), (1, g_n v1), (2, g_n v2), (3, g_n v3), (4, g_n v4), (5, g_n v5), (6, g_n r5), (7, g_n r10)]) rfl ?_
  refine r_iload x_325_32 rfl ?_
  refine r_iconst x_325_34 ?_
  refine r_ic_ne x_325_35 (t := 39) (by decide +kernel) hr11 (g_Rk rfl) (fun hc => ?_) (fun hc => ?_)
  · replace h := h.2 hc
    refine r_iload x_325_39 rfl ?_
    refine r_iload_n x_325_41 rfl ?_
    refine r_ic_ne x_325_42 (t := 57) (by decide +kernel) hr6 hv3 (fun hc => ?_) (fun hc => ?_)
    · replace h := h.2 hc
      refine r_iload x_325_57 rfl ?_
      refine r_iconst x_325_59 ?_
      refine r_iadd x_325_60 ?_
      obtain ⟨h12, h⟩ := h
      refine r_istore x_325_61 (by decide +kernel) rfl (lv1 := [(0, .ref a0), (1, g_n v1), (2, g_n v2), (3, g_n v3), (4, g_n v4), (5, g_n (r5 + 1)), (6, g_n r5), (7, g_n r10)]) rfl ?_
      refine r_aload_n x_325_63 rfl ?_
      obtain ⟨b13, hb14, h⟩ := h
      refine r_getR x_325_64 rfl (ci := 12) (k := 0) (ns := 0) (by decide +kernel) (by decide) rfl (kz := 0) rfl hO1 hb14 ?_
      refine r_iload x_325_67 rfl ?_
      obtain ⟨n15, hA16, h⟩ := h
      obtain ⟨h17, h⟩ := h
      refine r_bald x_325_69 (Or.inl rfl) hA16 hr11 h17.1 h17.2 ?_
      refine r_iconst x_325_70 ?_
      refine r_ic_ne x_325_71 (t := 96) (by decide +kernel) (hok9.1 _ _) (g_Rk rfl) (fun hc => ?_) (fun hc => ?_)
      · replace h := h.2 hc
        refine r_aload_n x_325_96 rfl ?_
        obtain ⟨b18, hb19, h⟩ := h
        refine r_getR x_325_97 rfl (ci := 12) (k := 0) (ns := 0) (by decide +kernel) (by decide) rfl (kz := 0) rfl hO1 hb19 ?_
        refine r_iload x_325_100 rfl ?_
        obtain ⟨n20, hA21, h⟩ := h
        obtain ⟨h22, h⟩ := h
        refine r_bald x_325_102 (Or.inl rfl) hA21 hr11 h22.1 h22.2 ?_
        refine r_iconst x_325_103 ?_
        refine r_ic_eq x_325_104 (t := 108) (by decide +kernel) (hok9.1 _ _) (g_Rk rfl) (fun hc => ?_) (fun hc => ?_)
        · replace h := h.1 hc
          refine r_aload_n x_325_108 rfl ?_
          refine r_iload x_325_109 rfl ?_
          refine r_invV x_325_111 (z := 233) (ns := 0) (by decide +kernel) (as := [g_n r10]) (r := []) rfl rfl rfl hO1 rfl rfl ?_
          refine r_callI h fun r26 M23 hx24 hok25 hr27 h => ?_
          replace h := h hx24 hok25 hr27
          replace hO1 := hO1.up hx24
          replace hA16 := hA16.up hx24
          replace hA21 := hA21.up hx24
          refine r_istore x_325_114 (by decide +kernel) rfl (lv1 := [(0, .ref a0), (1, g_n v1), (2, g_n v2), (3, g_n v3), (4, g_n r26), (5, g_n (r5 + 1)), (6, g_n r5), (7, g_n r10)]) rfl ?_
          refine r_goto x_325_116 (t := 11) (by decide +kernel) ?_
          refine g_drop [0, 1, 2, 3, 4, 5] (lv1 := [(0, .ref a0), (1, g_n v1), (2, g_n v2), (3, g_n v3), (4, g_n r26), (5, g_n (r5 + 1))]) rfl ?_
          exact h
        · replace h := h.2 hc
          exact r_retV x_325_107 rfl h
      · replace h := h.1 hc
        refine r_aload_n x_325_74 rfl ?_
        refine r_iconst x_325_75 ?_
        refine r_putI x_325_76 (ci := 12) (k := 27) (ns := 0) (by decide +kernel) (by decide) (g_f0 (by decide +kernel)) rfl (g_Rk rfl) trivial (kz := 27) rfl hO1 ?_
        obtain ⟨M28, hM29⟩ : ∃ Mz, Mz = g_wi M7 a0 27 2 := ⟨_, rfl⟩
        rw [← hM29]
        refine g_Run.ok fun hok30 => ?_
        replace h := h M28 hM29 hok30
        have hx31 := g_extW hM29
        replace hO1 := hO1.up hx31
        replace hA16 := hA16.up hx31
        refine r_aload_n x_325_79 rfl ?_
        refine r_aload_n x_325_80 rfl ?_
        refine r_iload x_325_81 rfl ?_
        refine r_invV x_325_83 (z := 233) (ns := 0) (by decide +kernel) (as := [g_n r10]) (r := [.ref a0]) rfl rfl rfl hO1 rfl rfl ?_
        refine r_callI h fun r35 M32 hx33 hok34 hr36 h => ?_
        replace h := h hx33 hok34 hr36
        replace hO1 := hO1.up hx33
        replace hA16 := hA16.up hx33
        refine r_putI x_325_86 (ci := 12) (k := 28) (ns := 0) (by decide +kernel) (by decide) (g_f0 (by decide +kernel)) rfl hr36 trivial (kz := 28) rfl hO1 ?_
        obtain ⟨M37, hM38⟩ : ∃ Mz, Mz = g_wi M32 a0 28 r35 := ⟨_, rfl⟩
        rw [← hM38]
        refine g_Run.ok fun hok39 => ?_
        replace h := h M37 hM38 hok39
        have hx40 := g_extW hM38
        replace hO1 := hO1.up hx40
        replace hA16 := hA16.up hx40
        refine r_aload_n x_325_89 rfl ?_
        refine r_iload x_325_90 rfl ?_
        refine r_putI x_325_92 (ci := 12) (k := 29) (ns := 0) (by decide +kernel) (by decide) (g_f0 (by decide +kernel)) rfl h12 trivial (kz := 29) rfl hO1 ?_
        obtain ⟨M41, hM42⟩ : ∃ Mz, Mz = g_wi M37 a0 29 (r5 + 1) := ⟨_, rfl⟩
        rw [← hM42]
        refine g_Run.ok fun hok43 => ?_
        replace h := h M41 hM42 hok43
        have hx44 := g_extW hM42
        replace hO1 := hO1.up hx44
        replace hA16 := hA16.up hx44
        exact r_retV x_325_95 rfl h
    · replace h := h.1 hc
      refine r_aload_n x_325_45 rfl ?_
      refine r_iconst x_325_46 ?_
      refine r_putI x_325_47 (ci := 12) (k := 27) (ns := 0) (by decide +kernel) (by decide) (g_f0 (by decide +kernel)) rfl (g_Rk rfl) trivial (kz := 27) rfl hO1 ?_
      obtain ⟨M45, hM46⟩ : ∃ Mz, Mz = g_wi M7 a0 27 1 := ⟨_, rfl⟩
      rw [← hM46]
      refine g_Run.ok fun hok47 => ?_
      replace h := h M45 hM46 hok47
      have hx48 := g_extW hM46
      replace hO1 := hO1.up hx48
      refine r_aload_n x_325_50 rfl ?_
      refine r_iload x_325_51 rfl ?_
      refine r_putI x_325_53 (ci := 12) (k := 28) (ns := 0) (by decide +kernel) (by decide) (g_f0 (by decide +kernel)) rfl hr11 trivial (kz := 28) rfl hO1 ?_
      obtain ⟨M49, hM50⟩ : ∃ Mz, Mz = g_wi M45 a0 28 r10 := ⟨_, rfl⟩
      rw [← hM50]
      refine g_Run.ok fun hok51 => ?_
      replace h := h M49 hM50 hok51
      have hx52 := g_extW hM50
      replace hO1 := hO1.up hx52
      exact r_retV x_325_56 rfl h
  · replace h := h.1 hc
    exact r_retV x_325_38 rfl h
theorem m_X12_putValues {d : Nat} {M : g_M} {Q : g_M → Prop} {a0 : Nat} {v1 : Int} (hv1 : g_InR v1) {v2 : Int} (hv2 : g_InR v2) {v3 : Int} (hv3 : g_InR v3) (h : g_ok M → g_O M a0 12 ∧ g_Call d 251 [.ref a0] M (g_qI fun r5 M2 => g_ext M M2 → g_ok M2 → g_InR r5 → g_Call d 237 [g_n v1] M2 (g_qI fun r10 M7 => g_ext M2 M7 → g_ok M7 → g_InR r10 → g_Run d 326 15 [(0, .ref a0), (1, g_n v1), (2, g_n v2), (3, g_n v3), (4, g_n r5), (5, g_n 0), (6, g_n r10)] [] M7 (g_qV Q)))) : g_Call (d + 1) 326 [.ref a0, g_n v1, g_n v2, g_n v3] M (g_qV Q) := by
  refine g_Call.ok fun hok0 => ?_
  replace h := h hok0
  refine r_body rfl (lv := [(0, .ref a0), (1, g_n v1), (2, g_n v2), (3, g_n v3)]) rfl ?_
  refine g_Run.ok fun hok => ?_
  refine r_aload_n x_326_0 rfl ?_
  obtain ⟨hO1, h⟩ := h
  refine r_invV x_326_1 (z := 251) (ns := 0) (by decide +kernel) (as := []) (r := []) rfl rfl rfl hO1 rfl rfl ?_
  refine r_callI h fun r5 M2 hx3 hok4 hr6 h => ?_
  replace h := h hx3 hok4 hr6
  replace hO1 := hO1.up hx3
  refine r_istore x_326_4 (by decide +kernel) rfl (lv1 := [(0, .ref a0), (1, g_n v1), (2, g_n v2), (3, g_n v3), (4, g_n r5)]) rfl ?_
  refine r_iconst x_326_6 ?_
  refine r_istore x_326_7 (by decide +kernel) rfl (lv1 := [(0, .ref a0), (1, g_n v1), (2, g_n v2), (3, g_n v3), (4, g_n r5), (5, g_n 0)]) rfl ?_
  refine r_iload_n x_326_9 rfl ?_
  refine r_invS x_326_10 (z := 237) (ns := 0) (by decide +kernel) (as := [g_n v1]) (r := []) rfl rfl rfl ?_
  refine r_callI h fun r10 M7 hx8 hok9 hr11 h => ?_
  replace h := h hx8 hok9 hr11
  replace hO1 := hO1.up hx8
  refine r_istore x_326_13 (by decide +kernel) rfl (lv1 := [(0, .ref a0), (1, g_n v1), (2, g_n v2), (3, g_n v3), (4, g_n r5), (5, g_n 0), (6, g_n r10)]) rfl ?_
  exact h
theorem s_X12_putValues_15 {d : Nat} {M : g_M} {Q : g_M → Prop} {a0 : Nat} {v1 : Int} (hv1 : g_InR v1) {v2 : Int} (hv2 : g_InR v2) {v3 : Int} (hv3 : g_InR v3) {v4 : Int} (hv4 : g_InR v4) {v5 : Int} (hv5 : g_InR v5) {v6 : Int} (hv6 : g_InR v6) (h : g_ok M → g_O M a0 12 ∧ g_Call d 238 [.ref a0, g_n v1] M (g_qI fun r5 M2 => g_ext M M2 → g_ok M2 → g_InR r5 → ((v6 < r5 → ∃ b10, g_r M2 a0 0 = some b10 ∧ ∃ n12, g_A M2 b10 0 n12 ∧ ((0 : Int) ≤ v6 ∧ (v6 : Int) < n12) ∧ ((g_i M2 b10 v6 = 3 → g_Call d 233 [.ref a0, g_n v6] M2 (g_qI fun r18 M15 => g_ext M2 M15 → g_ok M15 → g_InR r18 → g_Call d 325 [.ref a0, g_n r18, g_n v2, g_n v3] M15 (g_qV fun M20 => g_ext M15 M20 → g_ok M20 → ((g_i M20 a0 27 = 0 → g_Call d 235 [.ref a0, g_n v6] M20 (g_qI fun r31 M28 => g_ext M20 M28 → g_ok M28 → g_InR r31 → g_Run d 326 15 [(0, .ref a0), (1, g_n v1), (2, g_n v2), (3, g_n v3), (4, g_n v4), (5, g_n v5), (6, g_n r31)] [] M28 (g_qV Q))) ∧ (¬ g_i M20 a0 27 = 0 → ((g_i M20 a0 27 = 1 → ∃ b23, g_r M20 a0 0 = some b23 ∧ ∃ n25, g_A M20 b23 0 n25 ∧ ((0 : Int) ≤ g_i M20 a0 28 ∧ (g_i M20 a0 28 : Int) < n25) ∧ g_Run d 326 97 [(0, .ref a0), (1, g_n v1), (2, g_n v2), (3, g_n v3), (4, g_n v4), (5, g_n v5), (6, g_n v6), (7, g_n (g_i M20 a0 27)), (8, g_n (g_i M20 a0 28)), (9, g_n (g_i M20 a0 29))] [g_n (g_i M20 b23 (g_i M20 a0 28)), .ref a0] M20 (g_qV Q)) ∧ (¬ g_i M20 a0 27 = 1 → g_Run d 326 97 [(0, .ref a0), (1, g_n v1), (2, g_n v2), (3, g_n v3), (4, g_n v4), (5, g_n v5), (6, g_n v6), (7, g_n (g_i M20 a0 27)), (8, g_n (g_i M20 a0 28)), (9, g_n (g_i M20 a0 29))] [g_n 4, .ref a0] M20 (g_qV Q)))))))) ∧ (¬ g_i M2 b10 v6 = 3 → g_Call d 235 [.ref a0, g_n v6] M2 (g_qI fun r36 M33 => g_ext M2 M33 → g_ok M33 → g_InR r36 → g_Run d 326 15 [(0, .ref a0), (1, g_n v1), (2, g_n v2), (3, g_n v3), (4, g_n v4), (5, g_n v5), (6, g_n r36)] [] M33 (g_qV Q))))) ∧ (¬ v6 < r5 → g_Call d 252 [.ref a0, g_n v4] M2 (g_qV fun M7 => g_ext M2 M7 → g_ok M7 → Q M7))))) : g_Run d 326 15 [(0, .ref a0), (1, g_n v1), (2, g_n v2), (3, g_n v3), (4, g_n v4), (5, g_n v5), (6, g_n v6)] [] M (g_qV Q) := by
  refine g_Run.ok fun hok => ?_
  replace h := h hok
  refine r_iload x_326_15 rfl ?_
  refine r_aload_n x_326_17 rfl ?_
  refine r_iload_n x_326_18 rfl ?_
  obtain ⟨hO1, h⟩ := h
  refine r_invV x_326_19 (z := 238) (ns := 0) (by decide +kernel) (as := [g_n v1]) (r := [g_n v6]) rfl rfl rfl hO1 rfl rfl ?_
  refine r_callI h fun r5 M2 hx3 hok4 hr6 h => ?_
  replace h := h hx3 hok4 hr6
  replace hO1 := hO1.up hx3
  refine r_ic_ge x_326_22 (t := 144) (by decide +kernel) hv6 hr6 (fun hc => ?_) (fun hc => ?_)
  · replace h := h.2 hc
    refine r_aload_n x_326_144 rfl ?_
    refine r_iload x_326_145 rfl ?_
    refine r_invV x_326_147 (z := 252) (ns := 0) (by decide +kernel) (as := [g_n v4]) (r := []) rfl rfl rfl hO1 rfl rfl ?_
    refine r_callV h fun M7 hx8 hok9 h => ?_
    replace h := h hx8 hok9
    replace hO1 := hO1.up hx8
    exact r_retV x_326_150 rfl h
  · replace h := h.1 hc
    refine r_aload_n x_326_25 rfl ?_
    obtain ⟨b10, hb11, h⟩ := h
    refine r_getR x_326_26 rfl (ci := 12) (k := 0) (ns := 0) (by decide +kernel) (by decide) rfl (kz := 0) rfl hO1 hb11 ?_
    refine r_iload x_326_29 rfl ?_
    obtain ⟨n12, hA13, h⟩ := h
    obtain ⟨h14, h⟩ := h
    refine r_bald x_326_31 (Or.inl rfl) hA13 hv6 h14.1 h14.2 ?_
    refine r_iconst x_326_32 ?_
    refine r_ic_eq x_326_33 (t := 39) (by decide +kernel) (hok4.1 _ _) (g_Rk rfl) (fun hc => ?_) (fun hc => ?_)
    · replace h := h.1 hc
      refine r_aload_n x_326_39 rfl ?_
      refine r_aload_n x_326_40 rfl ?_
      refine r_iload x_326_41 rfl ?_
      refine r_invV x_326_43 (z := 233) (ns := 0) (by decide +kernel) (as := [g_n v6]) (r := [.ref a0]) rfl rfl rfl hO1 rfl rfl ?_
      refine r_callI h fun r18 M15 hx16 hok17 hr19 h => ?_
      replace h := h hx16 hok17 hr19
      replace hO1 := hO1.up hx16
      replace hA13 := hA13.up hx16
      refine r_iload_n x_326_46 rfl ?_
      refine r_iload_n x_326_47 rfl ?_
      refine r_invV x_326_48 (z := 325) (ns := 0) (by decide +kernel) (as := [g_n r18, g_n v2, g_n v3]) (r := []) rfl rfl rfl hO1 rfl rfl ?_
      refine r_callV h fun M20 hx21 hok22 h => ?_
      replace h := h hx21 hok22
      replace hO1 := hO1.up hx21
      replace hA13 := hA13.up hx21
      refine r_aload_n x_326_51 rfl ?_
      refine r_getI x_326_52 rfl (ci := 12) (k := 27) (ns := 0) (by decide +kernel) (by decide) rfl (kz := 27) rfl hO1 ?_
      refine r_if_ne x_326_55 (t := 61) (by decide +kernel) (hok22.1 _ _) (fun hc => ?_) (fun hc => ?_)
      · replace h := h.2 hc
        refine r_aload_n x_326_61 rfl ?_
        refine r_getI x_326_62 rfl (ci := 12) (k := 27) (ns := 0) (by decide +kernel) (by decide) rfl (kz := 27) rfl hO1 ?_
        refine r_istore x_326_65 (by decide +kernel) rfl (lv1 := [(0, .ref a0), (1, g_n v1), (2, g_n v2), (3, g_n v3), (4, g_n v4), (5, g_n v5), (6, g_n v6), (7, g_n (g_i M20 a0 27))]) rfl ?_
        refine r_aload_n x_326_67 rfl ?_
        refine r_getI x_326_68 rfl (ci := 12) (k := 28) (ns := 0) (by decide +kernel) (by decide) rfl (kz := 28) rfl hO1 ?_
        refine r_istore x_326_71 (by decide +kernel) rfl (lv1 := [(0, .ref a0), (1, g_n v1), (2, g_n v2), (3, g_n v3), (4, g_n v4), (5, g_n v5), (6, g_n v6), (7, g_n (g_i M20 a0 27)), (8, g_n (g_i M20 a0 28))]) rfl ?_
        refine r_aload_n x_326_73 rfl ?_
        refine r_getI x_326_74 rfl (ci := 12) (k := 29) (ns := 0) (by decide +kernel) (by decide) rfl (kz := 29) rfl hO1 ?_
        refine r_istore x_326_77 (by decide +kernel) rfl (lv1 := [(0, .ref a0), (1, g_n v1), (2, g_n v2), (3, g_n v3), (4, g_n v4), (5, g_n v5), (6, g_n v6), (7, g_n (g_i M20 a0 27)), (8, g_n (g_i M20 a0 28)), (9, g_n (g_i M20 a0 29))]) rfl ?_
        refine r_aload_n x_326_79 rfl ?_
        refine r_iload x_326_80 rfl ?_
        refine r_iconst x_326_82 ?_
        refine r_ic_ne x_326_83 (t := 96) (by decide +kernel) (hok22.1 _ _) (g_Rk rfl) (fun hc => ?_) (fun hc => ?_)
        · replace h := h.2 hc
          refine r_iconst x_326_96 ?_
          exact h
        · replace h := h.1 hc
          refine r_aload_n x_326_86 rfl ?_
          obtain ⟨b23, hb24, h⟩ := h
          refine r_getR x_326_87 rfl (ci := 12) (k := 0) (ns := 0) (by decide +kernel) (by decide) rfl (kz := 0) rfl hO1 hb24 ?_
          refine r_iload x_326_90 rfl ?_
          obtain ⟨n25, hA26, h⟩ := h
          obtain ⟨h27, h⟩ := h
          refine r_bald x_326_92 (Or.inl rfl) hA26 (hok22.1 _ _) h27.1 h27.2 ?_
          refine r_goto x_326_93 (t := 97) (by decide +kernel) ?_
          exact h
      · replace h := h.1 hc
        refine r_goto x_326_58 (t := 133) (by decide +kernel) ?_
        refine r_aload_n x_326_133 rfl ?_
        refine r_iload x_326_134 rfl ?_
        refine r_invV x_326_136 (z := 235) (ns := 0) (by decide +kernel) (as := [g_n v6]) (r := []) rfl rfl rfl hO1 rfl rfl ?_
        refine r_callI h fun r31 M28 hx29 hok30 hr32 h => ?_
        replace h := h hx29 hok30 hr32
        replace hO1 := hO1.up hx29
        replace hA13 := hA13.up hx29
        refine r_istore x_326_139 (by decide +kernel) rfl (lv1 := [(0, .ref a0), (1, g_n v1), (2, g_n v2), (3, g_n v3), (4, g_n v4), (5, g_n v5), (6, g_n r31)]) rfl ?_
        refine r_goto x_326_141 (t := 15) (by decide +kernel) ?_
        exact h
    · replace h := h.2 hc
      refine r_goto x_326_36 (t := 133) (by decide +kernel) ?_
      refine r_aload_n x_326_133 rfl ?_
      refine r_iload x_326_134 rfl ?_
      refine r_invV x_326_136 (z := 235) (ns := 0) (by decide +kernel) (as := [g_n v6]) (r := []) rfl rfl rfl hO1 rfl rfl ?_
      refine r_callI h fun r36 M33 hx34 hok35 hr37 h => ?_
      replace h := h hx34 hok35 hr37
      replace hO1 := hO1.up hx34
      replace hA13 := hA13.up hx34
      refine r_istore x_326_139 (by decide +kernel) rfl (lv1 := [(0, .ref a0), (1, g_n v1), (2, g_n v2), (3, g_n v3), (4, g_n v4), (5, g_n v5), (6, g_n r36)]) rfl ?_
      refine r_goto x_326_141 (t := 15) (by decide +kernel) ?_
      exact h
theorem s_X12_putValues_97 {d : Nat} {M : g_M} {Q : g_M → Prop} {a0 : Nat} {v1 : Int} (hv1 : g_InR v1) {v2 : Int} (hv2 : g_InR v2) {v3 : Int} (hv3 : g_InR v3) {v4 : Int} (hv4 : g_InR v4) {v5 : Int} (hv5 : g_InR v5) {v6 : Int} (hv6 : g_InR v6) {v7 : Int} (hv7 : g_InR v7) {v8 : Int} (hv8 : g_InR v8) {v9 : Int} (hv9 : g_InR v9) {w0 : Int} (hw0 : g_InR w0) {c1 : Nat} (h : g_ok M → g_O M c1 12 ∧ g_Call d 246 [.ref c1, g_n w0] M (g_qV fun M2 => g_ext M M2 → g_ok M2 → g_O M2 a0 12 ∧ g_Call d 250 [.ref a0, g_n v5] M2 (g_qV fun M6 => g_ext M2 M6 → g_ok M6 → ((v7 = 1 → g_Call d 253 [.ref a0, g_n v8] M6 (g_qV fun M18 => g_ext M6 M18 → g_ok M18 → g_InR (v5 + 1) ∧ g_Call d 235 [.ref a0, g_n v6] M18 (g_qI fun r25 M22 => g_ext M18 M22 → g_ok M22 → g_InR r25 → g_Run d 326 15 [(0, .ref a0), (1, g_n v1), (2, g_n v2), (3, g_n v3), (4, g_n v4), (5, g_n (v5 + 1)), (6, g_n r25)] [] M22 (g_qV Q)))) ∧ (¬ v7 = 1 → g_Call d 326 [.ref a0, g_n v8, g_n v9, g_n v3] M6 (g_qV fun M9 => g_ext M6 M9 → g_ok M9 → g_InR (v5 + 1) ∧ g_Call d 235 [.ref a0, g_n v6] M9 (g_qI fun r16 M13 => g_ext M9 M13 → g_ok M13 → g_InR r16 → g_Run d 326 15 [(0, .ref a0), (1, g_n v1), (2, g_n v2), (3, g_n v3), (4, g_n v4), (5, g_n (v5 + 1)), (6, g_n r16)] [] M13 (g_qV Q)))))))) : g_Run d 326 97 [(0, .ref a0), (1, g_n v1), (2, g_n v2), (3, g_n v3), (4, g_n v4), (5, g_n v5), (6, g_n v6), (7, g_n v7), (8, g_n v8), (9, g_n v9)] [g_n w0, .ref c1] M (g_qV Q) := by
  refine g_Run.ok fun hok => ?_
  replace h := h hok
  obtain ⟨hO1, h⟩ := h
  refine r_invV x_326_97 (z := 246) (ns := 0) (by decide +kernel) (as := [g_n w0]) (r := []) rfl rfl rfl hO1 rfl rfl ?_
  refine r_callV h fun M2 hx3 hok4 h => ?_
  replace h := h hx3 hok4
  replace hO1 := hO1.up hx3
  refine r_aload_n x_326_100 rfl ?_
  refine r_iload x_326_101 rfl ?_
  obtain ⟨hO5, h⟩ := h
  refine r_invV x_326_103 (z := 250) (ns := 0) (by decide +kernel) (as := [g_n v5]) (r := []) rfl rfl rfl hO5 rfl rfl ?_
  refine r_callV h fun M6 hx7 hok8 h => ?_
  replace h := h hx7 hok8
  replace hO1 := hO1.up hx7
  replace hO5 := hO5.up hx7
  refine r_iload x_326_106 rfl ?_
  refine r_iconst x_326_108 ?_
  refine r_ic_ne x_326_109 (t := 121) (by decide +kernel) hv7 (g_Rk rfl) (fun hc => ?_) (fun hc => ?_)
  · replace h := h.2 hc
    refine r_aload_n x_326_121 rfl ?_
    refine r_iload x_326_122 rfl ?_
    refine r_iload x_326_124 rfl ?_
    refine r_iload_n x_326_126 rfl ?_
    refine r_invV x_326_127 (z := 326) (ns := 0) (by decide +kernel) (as := [g_n v8, g_n v9, g_n v3]) (r := []) rfl rfl rfl hO5 rfl rfl ?_
    refine r_callV h fun M9 hx10 hok11 h => ?_
    replace h := h hx10 hok11
    replace hO1 := hO1.up hx10
    replace hO5 := hO5.up hx10
    obtain ⟨h12, h⟩ := h
    refine r_iinc x_326_130 (by decide +kernel) rfl rfl (lv1 := [(0, .ref a0), (1, g_n v1), (2, g_n v2), (3, g_n v3), (4, g_n v4), (5, g_n (v5 + 1)), (6, g_n v6), (7, g_n v7), (8, g_n v8), (9, g_n v9)]) rfl ?_
    refine r_aload_n x_326_133 rfl ?_
    refine r_iload x_326_134 rfl ?_
    refine r_invV x_326_136 (z := 235) (ns := 0) (by decide +kernel) (as := [g_n v6]) (r := []) rfl rfl rfl hO5 rfl rfl ?_
    refine r_callI h fun r16 M13 hx14 hok15 hr17 h => ?_
    replace h := h hx14 hok15 hr17
    replace hO1 := hO1.up hx14
    replace hO5 := hO5.up hx14
    refine r_istore x_326_139 (by decide +kernel) rfl (lv1 := [(0, .ref a0), (1, g_n v1), (2, g_n v2), (3, g_n v3), (4, g_n v4), (5, g_n (v5 + 1)), (6, g_n r16), (7, g_n v7), (8, g_n v8), (9, g_n v9)]) rfl ?_
    refine r_goto x_326_141 (t := 15) (by decide +kernel) ?_
    refine g_drop [0, 1, 2, 3, 4, 5, 6] (lv1 := [(0, .ref a0), (1, g_n v1), (2, g_n v2), (3, g_n v3), (4, g_n v4), (5, g_n (v5 + 1)), (6, g_n r16)]) rfl ?_
    exact h
  · replace h := h.1 hc
    refine r_aload_n x_326_112 rfl ?_
    refine r_iload x_326_113 rfl ?_
    refine r_invV x_326_115 (z := 253) (ns := 0) (by decide +kernel) (as := [g_n v8]) (r := []) rfl rfl rfl hO5 rfl rfl ?_
    refine r_callV h fun M18 hx19 hok20 h => ?_
    replace h := h hx19 hok20
    replace hO1 := hO1.up hx19
    replace hO5 := hO5.up hx19
    refine r_goto x_326_118 (t := 130) (by decide +kernel) ?_
    obtain ⟨h21, h⟩ := h
    refine r_iinc x_326_130 (by decide +kernel) rfl rfl (lv1 := [(0, .ref a0), (1, g_n v1), (2, g_n v2), (3, g_n v3), (4, g_n v4), (5, g_n (v5 + 1)), (6, g_n v6), (7, g_n v7), (8, g_n v8), (9, g_n v9)]) rfl ?_
    refine r_aload_n x_326_133 rfl ?_
    refine r_iload x_326_134 rfl ?_
    refine r_invV x_326_136 (z := 235) (ns := 0) (by decide +kernel) (as := [g_n v6]) (r := []) rfl rfl rfl hO5 rfl rfl ?_
    refine r_callI h fun r25 M22 hx23 hok24 hr26 h => ?_
    replace h := h hx23 hok24 hr26
    replace hO1 := hO1.up hx23
    replace hO5 := hO5.up hx23
    refine r_istore x_326_139 (by decide +kernel) rfl (lv1 := [(0, .ref a0), (1, g_n v1), (2, g_n v2), (3, g_n v3), (4, g_n v4), (5, g_n (v5 + 1)), (6, g_n r25), (7, g_n v7), (8, g_n v8), (9, g_n v9)]) rfl ?_
    refine r_goto x_326_141 (t := 15) (by decide +kernel) ?_
    refine g_drop [0, 1, 2, 3, 4, 5, 6] (lv1 := [(0, .ref a0), (1, g_n v1), (2, g_n v2), (3, g_n v3), (4, g_n v4), (5, g_n (v5 + 1)), (6, g_n r25)]) rfl ?_
    exact h
theorem m_X12_valueAt {d : Nat} {M : g_M} {Q : Int → g_M → Prop} {a0 : Nat} {v1 : Int} (hv1 : g_InR v1) {v2 : Int} (hv2 : g_InR v2) (h : g_ok M → g_O M a0 12 ∧ g_Call d 323 [.ref a0, g_n v1] M (g_qI fun r5 M2 => g_ext M M2 → g_ok M2 → g_InR r5 → ((r5 = 0 → Q v1 M2) ∧ (¬ r5 = 0 → g_Call d 233 [.ref a0, g_n v1] M2 (g_qI fun r10 M7 => g_ext M2 M7 → g_ok M7 → g_InR r10 → g_InR (r10 + 5) ∧ g_Call d 322 [.ref a0, g_n v1] M7 (g_qI fun r16 M13 => g_ext M7 M13 → g_ok M13 → g_InR r16 → g_Call d 325 [.ref a0, g_n v2, g_n (r10 + 5), g_n r16] M13 (g_qV fun M18 => g_ext M13 M18 → g_ok M18 → ((g_i M18 a0 27 < 2 → ((g_i M18 a0 27 = 0 → Q ((-1)) M18) ∧ (¬ g_i M18 a0 27 = 0 → Q (g_i M18 a0 28) M18))) ∧ (¬ g_i M18 a0 27 < 2 → g_Call d 245 [.ref a0, g_n (g_i M18 a0 26), g_n 2706200] M18 (g_qV fun M21 => g_ext M18 M21 → g_ok M21 → g_Call d 246 [.ref a0, g_n 4] M21 (g_qV fun M24 => g_ext M21 M24 → g_ok M24 → g_Call d 246 [.ref a0, g_n 0] M24 (g_qV fun M27 => g_ext M24 M27 → g_ok M27 → g_Call d 326 [.ref a0, g_n (g_i M27 a0 28), g_n (g_i M27 a0 29), g_n r16] M27 (g_qV fun M30 => g_ext M27 M30 → g_ok M30 → (∀ M33, M33 = g_wi M30 a0 26 (g_i M30 a0 4) → g_ok M33 → (∀ M37, M37 = g_wi M33 a0 4 (g_i M18 a0 4) → g_ok M37 → (∀ M41, M41 = g_wi M37 a0 5 (g_i M18 a0 5) → g_ok M41 → (g_i M18 a0 6 = 0 ∨ g_i M18 a0 6 = 1) ∧ (∀ M46, M46 = g_wi M41 a0 6 (g_i M18 a0 6) → g_ok M46 → Q (g_i M18 a0 26) M46))))))))))))))))) : g_Call (d + 1) 327 [.ref a0, g_n v1, g_n v2] M (g_qI Q) := by
  refine g_Call.ok fun hok0 => ?_
  replace h := h hok0
  refine r_body rfl (lv := [(0, .ref a0), (1, g_n v1), (2, g_n v2)]) rfl ?_
  refine g_Run.ok fun hok => ?_
  refine r_aload_n x_327_0 rfl ?_
  refine r_iload_n x_327_1 rfl ?_
  obtain ⟨hO1, h⟩ := h
  refine r_invV x_327_2 (z := 323) (ns := 0) (by decide +kernel) (as := [g_n v1]) (r := []) rfl rfl rfl hO1 rfl rfl ?_
  refine r_callI h fun r5 M2 hx3 hok4 hr6 h => ?_
  replace h := h hx3 hok4 hr6
  replace hO1 := hO1.up hx3
  refine r_if_ne x_327_5 (t := 10) (by decide +kernel) hr6 (fun hc => ?_) (fun hc => ?_)
  · replace h := h.2 hc
    refine r_aload_n x_327_10 rfl ?_
    refine r_iload_n x_327_11 rfl ?_
    refine r_invV x_327_12 (z := 233) (ns := 0) (by decide +kernel) (as := [g_n v1]) (r := []) rfl rfl rfl hO1 rfl rfl ?_
    refine r_callI h fun r10 M7 hx8 hok9 hr11 h => ?_
    replace h := h hx8 hok9 hr11
    replace hO1 := hO1.up hx8
    refine r_iconst x_327_15 ?_
    refine r_iadd x_327_16 ?_
    obtain ⟨h12, h⟩ := h
    refine r_istore_n x_327_17 (by decide +kernel) rfl (lv1 := [(0, .ref a0), (1, g_n v1), (2, g_n v2), (3, g_n (r10 + 5))]) rfl ?_
    refine r_aload_n x_327_18 rfl ?_
    refine r_iload_n x_327_19 rfl ?_
    refine r_invV x_327_20 (z := 322) (ns := 0) (by decide +kernel) (as := [g_n v1]) (r := []) rfl rfl rfl hO1 rfl rfl ?_
    refine r_callI h fun r16 M13 hx14 hok15 hr17 h => ?_
    replace h := h hx14 hok15 hr17
    replace hO1 := hO1.up hx14
    refine r_istore x_327_23 (by decide +kernel) rfl (lv1 := [(0, .ref a0), (1, g_n v1), (2, g_n v2), (3, g_n (r10 + 5)), (4, g_n r16)]) rfl ?_
    refine r_aload_n x_327_25 rfl ?_
    refine r_iload_n x_327_26 rfl ?_
    refine r_iload_n x_327_27 rfl ?_
    refine r_iload x_327_28 rfl ?_
    refine r_invV x_327_30 (z := 325) (ns := 0) (by decide +kernel) (as := [g_n v2, g_n (r10 + 5), g_n r16]) (r := []) rfl rfl rfl hO1 rfl rfl ?_
    refine r_callV h fun M18 hx19 hok20 h => ?_
    replace h := h hx19 hok20
    replace hO1 := hO1.up hx19
    refine r_aload_n x_327_33 rfl ?_
    refine r_getI x_327_34 rfl (ci := 12) (k := 27) (ns := 0) (by decide +kernel) (by decide) rfl (kz := 27) rfl hO1 ?_
    refine r_iconst x_327_37 ?_
    refine r_ic_ge x_327_38 (t := 57) (by decide +kernel) (hok20.1 _ _) (g_Rk rfl) (fun hc => ?_) (fun hc => ?_)
    · replace h := h.2 hc
      refine r_aload_n x_327_57 rfl ?_
      refine r_getI x_327_58 rfl (ci := 12) (k := 4) (ns := 0) (by decide +kernel) (by decide) rfl (kz := 4) rfl hO1 ?_
      refine r_istore x_327_61 (by decide +kernel) rfl (lv1 := [(0, .ref a0), (1, g_n v1), (2, g_n v2), (3, g_n (r10 + 5)), (4, g_n r16), (5, g_n (g_i M18 a0 4))]) rfl ?_
      refine r_aload_n x_327_63 rfl ?_
      refine r_getI x_327_64 rfl (ci := 12) (k := 5) (ns := 0) (by decide +kernel) (by decide) rfl (kz := 5) rfl hO1 ?_
      refine r_istore x_327_67 (by decide +kernel) rfl (lv1 := [(0, .ref a0), (1, g_n v1), (2, g_n v2), (3, g_n (r10 + 5)), (4, g_n r16), (5, g_n (g_i M18 a0 4)), (6, g_n (g_i M18 a0 5))]) rfl ?_
      refine r_aload_n x_327_69 rfl ?_
      refine r_getI x_327_70 rfl (ci := 12) (k := 6) (ns := 0) (by decide +kernel) (by decide) rfl (kz := 6) rfl hO1 ?_
      refine r_istore x_327_73 (by decide +kernel) rfl (lv1 := [(0, .ref a0), (1, g_n v1), (2, g_n v2), (3, g_n (r10 + 5)), (4, g_n r16), (5, g_n (g_i M18 a0 4)), (6, g_n (g_i M18 a0 5)), (7, g_n (g_i M18 a0 6))]) rfl ?_
      refine r_aload_n x_327_75 rfl ?_
      refine r_getI x_327_76 rfl (ci := 12) (k := 26) (ns := 0) (by decide +kernel) (by decide) rfl (kz := 26) rfl hO1 ?_
      refine r_istore x_327_79 (by decide +kernel) rfl (lv1 := [(0, .ref a0), (1, g_n v1), (2, g_n v2), (3, g_n (r10 + 5)), (4, g_n r16), (5, g_n (g_i M18 a0 4)), (6, g_n (g_i M18 a0 5)), (7, g_n (g_i M18 a0 6)), (8, g_n (g_i M18 a0 26))]) rfl ?_
      refine r_aload_n x_327_81 rfl ?_
      refine r_iload x_327_82 rfl ?_
      refine r_ldc x_327_84 (v := g_n 2706200) rfl ?_
      refine r_invV x_327_86 (z := 245) (ns := 0) (by decide +kernel) (as := [g_n (g_i M18 a0 26), g_n 2706200]) (r := []) rfl rfl rfl hO1 rfl rfl ?_
      refine r_callV h fun M21 hx22 hok23 h => ?_
      replace h := h hx22 hok23
      replace hO1 := hO1.up hx22
      refine r_aload_n x_327_89 rfl ?_
      refine r_iconst x_327_90 ?_
      refine r_invV x_327_91 (z := 246) (ns := 0) (by decide +kernel) (as := [g_n 4]) (r := []) rfl rfl rfl hO1 rfl rfl ?_
      refine r_callV h fun M24 hx25 hok26 h => ?_
      replace h := h hx25 hok26
      replace hO1 := hO1.up hx25
      refine r_aload_n x_327_94 rfl ?_
      refine r_iconst x_327_95 ?_
      refine r_invV x_327_96 (z := 246) (ns := 0) (by decide +kernel) (as := [g_n 0]) (r := []) rfl rfl rfl hO1 rfl rfl ?_
      refine r_callV h fun M27 hx28 hok29 h => ?_
      replace h := h hx28 hok29
      replace hO1 := hO1.up hx28
      refine r_aload_n x_327_99 rfl ?_
      refine r_aload_n x_327_100 rfl ?_
      refine r_getI x_327_101 rfl (ci := 12) (k := 28) (ns := 0) (by decide +kernel) (by decide) rfl (kz := 28) rfl hO1 ?_
      refine r_aload_n x_327_104 rfl ?_
      refine r_getI x_327_105 rfl (ci := 12) (k := 29) (ns := 0) (by decide +kernel) (by decide) rfl (kz := 29) rfl hO1 ?_
      refine r_iload x_327_108 rfl ?_
      refine r_invV x_327_110 (z := 326) (ns := 0) (by decide +kernel) (as := [g_n (g_i M27 a0 28), g_n (g_i M27 a0 29), g_n r16]) (r := []) rfl rfl rfl hO1 rfl rfl ?_
      refine r_callV h fun M30 hx31 hok32 h => ?_
      replace h := h hx31 hok32
      replace hO1 := hO1.up hx31
      refine r_aload_n x_327_113 rfl ?_
      refine r_aload_n x_327_114 rfl ?_
      refine r_getI x_327_115 rfl (ci := 12) (k := 4) (ns := 0) (by decide +kernel) (by decide) rfl (kz := 4) rfl hO1 ?_
      refine r_putI x_327_118 (ci := 12) (k := 26) (ns := 0) (by decide +kernel) (by decide) (g_f0 (by decide +kernel)) rfl (hok32.1 _ _) trivial (kz := 26) rfl hO1 ?_
      obtain ⟨M33, hM34⟩ : ∃ Mz, Mz = g_wi M30 a0 26 (g_i M30 a0 4) := ⟨_, rfl⟩
      rw [← hM34]
      refine g_Run.ok fun hok35 => ?_
      replace h := h M33 hM34 hok35
      have hx36 := g_extW hM34
      replace hO1 := hO1.up hx36
      refine r_aload_n x_327_121 rfl ?_
      refine r_iload x_327_122 rfl ?_
      refine r_putI x_327_124 (ci := 12) (k := 4) (ns := 0) (by decide +kernel) (by decide) (g_f0 (by decide +kernel)) rfl (hok20.1 _ _) trivial (kz := 4) rfl hO1 ?_
      obtain ⟨M37, hM38⟩ : ∃ Mz, Mz = g_wi M33 a0 4 (g_i M18 a0 4) := ⟨_, rfl⟩
      rw [← hM38]
      refine g_Run.ok fun hok39 => ?_
      replace h := h M37 hM38 hok39
      have hx40 := g_extW hM38
      replace hO1 := hO1.up hx40
      refine r_aload_n x_327_127 rfl ?_
      refine r_iload x_327_128 rfl ?_
      refine r_putI x_327_130 (ci := 12) (k := 5) (ns := 0) (by decide +kernel) (by decide) (g_f0 (by decide +kernel)) rfl (hok20.1 _ _) trivial (kz := 5) rfl hO1 ?_
      obtain ⟨M41, hM42⟩ : ∃ Mz, Mz = g_wi M37 a0 5 (g_i M18 a0 5) := ⟨_, rfl⟩
      rw [← hM42]
      refine g_Run.ok fun hok43 => ?_
      replace h := h M41 hM42 hok43
      have hx44 := g_extW hM42
      replace hO1 := hO1.up hx44
      refine r_aload_n x_327_133 rfl ?_
      refine r_iload x_327_134 rfl ?_
      obtain ⟨h45, h⟩ := h
      refine r_putI x_327_136 (ci := 12) (k := 6) (ns := 0) (by decide +kernel) (by decide) (g_fZ h45 (by decide +kernel)) rfl (hok20.1 _ _) (g_zx h45 rfl).2 (kz := 6) rfl hO1 ?_
      obtain ⟨M46, hM47⟩ : ∃ Mz, Mz = g_wi M41 a0 6 (g_i M18 a0 6) := ⟨_, rfl⟩
      rw [← hM47]
      refine g_Run.ok fun hok48 => ?_
      replace h := h M46 hM47 hok48
      have hx49 := g_extW hM47
      replace hO1 := hO1.up hx49
      refine r_iload x_327_139 rfl ?_
      exact r_retI x_327_141 rfl (hok20.1 _ _) h
    · replace h := h.1 hc
      refine r_aload_n x_327_41 rfl ?_
      refine r_getI x_327_42 rfl (ci := 12) (k := 27) (ns := 0) (by decide +kernel) (by decide) rfl (kz := 27) rfl hO1 ?_
      refine r_if_ne x_327_45 (t := 52) (by decide +kernel) (hok20.1 _ _) (fun hc => ?_) (fun hc => ?_)
      · replace h := h.2 hc
        refine r_aload_n x_327_52 rfl ?_
        refine r_getI x_327_53 rfl (ci := 12) (k := 28) (ns := 0) (by decide +kernel) (by decide) rfl (kz := 28) rfl hO1 ?_
        exact r_retI x_327_56 rfl (hok20.1 _ _) h
      · replace h := h.1 hc
        refine r_iconst x_327_48 ?_
        refine r_goto x_327_49 (t := 56) (by decide +kernel) ?_
        exact r_retI x_327_56 rfl (g_Rk rfl) h
  · replace h := h.1 hc
    refine r_iload_n x_327_8 rfl ?_
    exact r_retI x_327_9 rfl hv1 h
theorem m_X12_fresh {d : Nat} {M : g_M} {Q : Int → g_M → Prop} {a0 : Nat} {v1 : Int} (hv1 : g_InR v1) {v2 : Int} (hv2 : g_InR v2) (h : g_ok M → g_O M a0 12 ∧ (∀ M2, M2 = g_wi M a0 26 2606200 → g_ok M2 → g_Call d 327 [.ref a0, g_n v1, g_n v2] M2 (g_qI fun r9 M6 => g_ext M2 M6 → g_ok M6 → g_InR r9 → Q r9 M6))) : g_Call (d + 1) 328 [.ref a0, g_n v1, g_n v2] M (g_qI Q) := by
  refine g_Call.ok fun hok0 => ?_
  replace h := h hok0
  refine r_body rfl (lv := [(0, .ref a0), (1, g_n v1), (2, g_n v2)]) rfl ?_
  refine g_Run.ok fun hok => ?_
  refine r_aload_n x_328_0 rfl ?_
  refine r_ldcw x_328_1 (v := g_n 2606200) rfl ?_
  obtain ⟨hO1, h⟩ := h
  refine r_putI x_328_4 (ci := 12) (k := 26) (ns := 0) (by decide +kernel) (by decide) (g_f0 (by decide +kernel)) rfl (g_Rk rfl) trivial (kz := 26) rfl hO1 ?_
  obtain ⟨M2, hM3⟩ : ∃ Mz, Mz = g_wi M a0 26 2606200 := ⟨_, rfl⟩
  rw [← hM3]
  refine g_Run.ok fun hok4 => ?_
  replace h := h M2 hM3 hok4
  have hx5 := g_extW hM3
  replace hO1 := hO1.up hx5
  refine r_aload_n x_328_7 rfl ?_
  refine r_iload_n x_328_8 rfl ?_
  refine r_iload_n x_328_9 rfl ?_
  refine r_invV x_328_10 (z := 327) (ns := 0) (by decide +kernel) (as := [g_n v1, g_n v2]) (r := []) rfl rfl rfl hO1 rfl rfl ?_
  refine r_callI h fun r9 M6 hx7 hok8 hr10 h => ?_
  replace h := h hx7 hok8 hr10
  replace hO1 := hO1.up hx7
  exact r_retI x_328_13 rfl hr10 h
theorem m_X12_orNothing {d : Nat} {M : g_M} {Q : Int → g_M → Prop} {v0 : Int} (hv0 : g_InR v0) (h : g_ok M → ((v0 = (-1) → Q 2706200 M) ∧ (¬ v0 = (-1) → Q v0 M))) : g_Call (d + 1) 329 [g_n v0] M (g_qI Q) := by
  refine g_Call.ok fun hok0 => ?_
  replace h := h hok0
  refine r_body rfl (lv := [(0, g_n v0)]) rfl ?_
  refine g_Run.ok fun hok => ?_
  refine r_iload_n x_329_0 rfl ?_
  refine r_iconst x_329_1 ?_
  refine r_ic_ne x_329_2 (t := 10) (by decide +kernel) hv0 (g_Rk rfl) (fun hc => ?_) (fun hc => ?_)
  · replace h := h.2 hc
    refine r_iload_n x_329_10 rfl ?_
    exact r_retI x_329_11 rfl hv0 h
  · replace h := h.1 hc
    refine r_ldc x_329_5 (v := g_n 2706200) rfl ?_
    refine r_goto x_329_7 (t := 11) (by decide +kernel) ?_
    exact r_retI x_329_11 rfl (g_Rk rfl) h
