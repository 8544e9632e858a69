theorem x_330_0 : decode (q_code 330) 0 = .ok (.aload_n 0, 1) := by decide +kernel
theorem x_330_1 : decode (q_code 330) 1 = .ok (.iload_n 1, 1) := by decide +kernel
theorem x_330_2 : decode (q_code 330) 2 = .ok (.invokevirtual 360, 3) := by decide +kernel
theorem x_330_5 : decode (q_code 330) 5 = .ok (.iconst 1, 1) := by decide +kernel
theorem x_330_6 : decode (q_code 330) 6 = .ok (.if_icmp .eq 5, 3) := by decide +kernel
theorem x_330_9 : decode (q_code 330) 9 = .ok (.iconst 1, 1) := by decide +kernel
theorem x_330_10 : decode (q_code 330) 10 = .ok (.ireturn, 1) := by decide +kernel
theorem x_330_11 : decode (q_code 330) 11 = .ok (.iload_n 1, 1) := by decide +kernel
theorem x_330_12 : decode (q_code 330) 12 = .ok (.invokestatic 174, 3) := by decide +kernel
theorem x_330_15 : decode (q_code 330) 15 = .ok (.istore_n 2, 1) := by decide +kernel
theorem x_330_16 : decode (q_code 330) 16 = .ok (.aload_n 0, 1) := by decide +kernel
theorem x_330_17 : decode (q_code 330) 17 = .ok (.iload_n 2, 1) := by decide +kernel
theorem x_330_18 : decode (q_code 330) 18 = .ok (.ldc_w 554, 3) := by decide +kernel
theorem x_330_21 : decode (q_code 330) 21 = .ok (.invokevirtual 325, 3) := by decide +kernel
theorem x_330_24 : decode (q_code 330) 24 = .ok (.ifCond .eq 9, 3) := by decide +kernel
theorem x_330_27 : decode (q_code 330) 27 = .ok (.aload_n 0, 1) := by decide +kernel
theorem x_330_28 : decode (q_code 330) 28 = .ok (.iload_n 2, 1) := by decide +kernel
theorem x_330_29 : decode (q_code 330) 29 = .ok (.invokevirtual 556, 3) := by decide +kernel
theorem x_330_32 : decode (q_code 330) 32 = .ok (.ireturn, 1) := by decide +kernel
theorem x_330_33 : decode (q_code 330) 33 = .ok (.aload_n 0, 1) := by decide +kernel
theorem x_330_34 : decode (q_code 330) 34 = .ok (.iload_n 2, 1) := by decide +kernel
theorem x_330_35 : decode (q_code 330) 35 = .ok (.ldc_w 559, 3) := by decide +kernel
theorem x_330_38 : decode (q_code 330) 38 = .ok (.invokevirtual 325, 3) := by decide +kernel
theorem x_330_41 : decode (q_code 330) 41 = .ok (.ifCond .eq 31, 3) := by decide +kernel
theorem x_330_44 : decode (q_code 330) 44 = .ok (.aload_n 0, 1) := by decide +kernel
theorem x_330_45 : decode (q_code 330) 45 = .ok (.getfield 10, 3) := by decide +kernel
theorem x_330_48 : decode (q_code 330) 48 = .ok (.iload_n 2, 1) := by decide +kernel
theorem x_330_49 : decode (q_code 330) 49 = .ok (.baload, 1) := by decide +kernel
theorem x_330_50 : decode (q_code 330) 50 = .ok (.iconst 2, 1) := by decide +kernel
theorem x_330_51 : decode (q_code 330) 51 = .ok (.if_icmp .ne 11, 3) := by decide +kernel
theorem x_330_54 : decode (q_code 330) 54 = .ok (.aload_n 0, 1) := by decide +kernel
theorem x_330_55 : decode (q_code 330) 55 = .ok (.iload_n 2, 1) := by decide +kernel
theorem x_330_56 : decode (q_code 330) 56 = .ok (.invokevirtual 530, 3) := by decide +kernel
theorem x_330_59 : decode (q_code 330) 59 = .ok (.ifCond .ne 7, 3) := by decide +kernel
theorem x_330_62 : decode (q_code 330) 62 = .ok (.iconst 2, 1) := by decide +kernel
theorem x_330_63 : decode (q_code 330) 63 = .ok (.goto 8, 3) := by decide +kernel
theorem x_330_66 : decode (q_code 330) 66 = .ok (.aload_n 0, 1) := by decide +kernel
theorem x_330_67 : decode (q_code 330) 67 = .ok (.iload_n 2, 1) := by decide +kernel
theorem x_330_68 : decode (q_code 330) 68 = .ok (.invokevirtual 561, 3) := by decide +kernel
theorem x_330_71 : decode (q_code 330) 71 = .ok (.ireturn, 1) := by decide +kernel
theorem x_330_72 : decode (q_code 330) 72 = .ok (.aload_n 0, 1) := by decide +kernel
theorem x_330_73 : decode (q_code 330) 73 = .ok (.iload_n 2, 1) := by decide +kernel
theorem x_330_74 : decode (q_code 330) 74 = .ok (.ldc_w 564, 3) := by decide +kernel
theorem x_330_77 : decode (q_code 330) 77 = .ok (.invokevirtual 325, 3) := by decide +kernel
theorem x_330_80 : decode (q_code 330) 80 = .ok (.ifCond .eq 9, 3) := by decide +kernel
theorem x_330_83 : decode (q_code 330) 83 = .ok (.aload_n 0, 1) := by decide +kernel
theorem x_330_84 : decode (q_code 330) 84 = .ok (.iload_n 2, 1) := by decide +kernel
theorem x_330_85 : decode (q_code 330) 85 = .ok (.invokevirtual 566, 3) := by decide +kernel
theorem x_330_88 : decode (q_code 330) 88 = .ok (.ireturn, 1) := by decide +kernel
theorem x_330_89 : decode (q_code 330) 89 = .ok (.aload_n 0, 1) := by decide +kernel
theorem x_330_90 : decode (q_code 330) 90 = .ok (.iload_n 2, 1) := by decide +kernel
theorem x_330_91 : decode (q_code 330) 91 = .ok (.ldc_w 569, 3) := by decide +kernel
theorem x_330_94 : decode (q_code 330) 94 = .ok (.invokevirtual 325, 3) := by decide +kernel
theorem x_330_97 : decode (q_code 330) 97 = .ok (.ifCond .eq 9, 3) := by decide +kernel
theorem x_330_100 : decode (q_code 330) 100 = .ok (.aload_n 0, 1) := by decide +kernel
theorem x_330_101 : decode (q_code 330) 101 = .ok (.iload_n 2, 1) := by decide +kernel
theorem x_330_102 : decode (q_code 330) 102 = .ok (.invokevirtual 571, 3) := by decide +kernel
theorem x_330_105 : decode (q_code 330) 105 = .ok (.ireturn, 1) := by decide +kernel
theorem x_330_106 : decode (q_code 330) 106 = .ok (.aload_n 0, 1) := by decide +kernel
theorem x_330_107 : decode (q_code 330) 107 = .ok (.iload_n 2, 1) := by decide +kernel
theorem x_330_108 : decode (q_code 330) 108 = .ok (.ldc_w 574, 3) := by decide +kernel
theorem x_330_111 : decode (q_code 330) 111 = .ok (.invokevirtual 325, 3) := by decide +kernel
theorem x_330_114 : decode (q_code 330) 114 = .ok (.ifCond .ne 14, 3) := by decide +kernel
theorem x_330_117 : decode (q_code 330) 117 = .ok (.aload_n 0, 1) := by decide +kernel
theorem x_330_118 : decode (q_code 330) 118 = .ok (.iload_n 2, 1) := by decide +kernel
theorem x_330_119 : decode (q_code 330) 119 = .ok (.ldc_w 576, 3) := by decide +kernel
theorem x_330_122 : decode (q_code 330) 122 = .ok (.invokevirtual 325, 3) := by decide +kernel
theorem x_330_125 : decode (q_code 330) 125 = .ok (.ifCond .eq 27, 3) := by decide +kernel
theorem x_330_128 : decode (q_code 330) 128 = .ok (.aload_n 0, 1) := by decide +kernel
theorem x_330_129 : decode (q_code 330) 129 = .ok (.iload_n 2, 1) := by decide +kernel
theorem x_330_130 : decode (q_code 330) 130 = .ok (.invokevirtual 387, 3) := by decide +kernel
theorem x_330_133 : decode (q_code 330) 133 = .ok (.ifCond .eq 17, 3) := by decide +kernel
theorem x_330_136 : decode (q_code 330) 136 = .ok (.aload_n 0, 1) := by decide +kernel
theorem x_330_137 : decode (q_code 330) 137 = .ok (.iload_n 2, 1) := by decide +kernel
theorem x_330_138 : decode (q_code 330) 138 = .ok (.invokevirtual 273, 3) := by decide +kernel
theorem x_330_141 : decode (q_code 330) 141 = .ok (.lconst 0, 1) := by decide +kernel
theorem x_330_142 : decode (q_code 330) 142 = .ok (.lcmp, 1) := by decide +kernel
theorem x_330_143 : decode (q_code 330) 143 = .ok (.ifCond .lt 7, 3) := by decide +kernel
theorem x_330_146 : decode (q_code 330) 146 = .ok (.iconst 0, 1) := by decide +kernel
theorem x_330_147 : decode (q_code 330) 147 = .ok (.goto 4, 3) := by decide +kernel
theorem x_330_150 : decode (q_code 330) 150 = .ok (.iconst 2, 1) := by decide +kernel
theorem x_330_151 : decode (q_code 330) 151 = .ok (.ireturn, 1) := by decide +kernel
theorem x_330_152 : decode (q_code 330) 152 = .ok (.aload_n 0, 1) := by decide +kernel
theorem x_330_153 : decode (q_code 330) 153 = .ok (.iload_n 2, 1) := by decide +kernel
theorem x_330_154 : decode (q_code 330) 154 = .ok (.ldc_w 578, 3) := by decide +kernel
theorem x_330_157 : decode (q_code 330) 157 = .ok (.invokevirtual 325, 3) := by decide +kernel
theorem x_330_160 : decode (q_code 330) 160 = .ok (.ifCond .eq 11, 3) := by decide +kernel
theorem x_330_163 : decode (q_code 330) 163 = .ok (.aload_n 0, 1) := by decide +kernel
theorem x_330_164 : decode (q_code 330) 164 = .ok (.iload_n 2, 1) := by decide +kernel
theorem x_330_165 : decode (q_code 330) 165 = .ok (.invokevirtual 580, 3) := by decide +kernel
theorem x_330_168 : decode (q_code 330) 168 = .ok (.goto 4, 3) := by decide +kernel
theorem x_330_171 : decode (q_code 330) 171 = .ok (.iconst 1, 1) := by decide +kernel
theorem x_330_172 : decode (q_code 330) 172 = .ok (.ireturn, 1) := by decide +kernel
theorem x_331_0 : decode (q_code 331) 0 = .ok (.aload_n 0, 1) := by decide +kernel
theorem x_331_1 : decode (q_code 331) 1 = .ok (.getfield 10, 3) := by decide +kernel
theorem x_331_4 : decode (q_code 331) 4 = .ok (.iload_n 1, 1) := by decide +kernel
theorem x_331_5 : decode (q_code 331) 5 = .ok (.baload, 1) := by decide +kernel
theorem x_331_6 : decode (q_code 331) 6 = .ok (.iconst 3, 1) := by decide +kernel
theorem x_331_7 : decode (q_code 331) 7 = .ok (.if_icmp .ne 15, 3) := by decide +kernel
theorem x_331_10 : decode (q_code 331) 10 = .ok (.aload_n 0, 1) := by decide +kernel
theorem x_331_11 : decode (q_code 331) 11 = .ok (.aload_n 0, 1) := by decide +kernel
theorem x_331_12 : decode (q_code 331) 12 = .ok (.iload_n 1, 1) := by decide +kernel
theorem x_331_13 : decode (q_code 331) 13 = .ok (.invokevirtual 163, 3) := by decide +kernel
theorem x_331_16 : decode (q_code 331) 16 = .ok (.invokevirtual 360, 3) := by decide +kernel
theorem x_331_19 : decode (q_code 331) 19 = .ok (.ifCond .ne 5, 3) := by decide +kernel
theorem x_331_22 : decode (q_code 331) 22 = .ok (.iconst 2, 1) := by decide +kernel
theorem x_331_23 : decode (q_code 331) 23 = .ok (.ireturn, 1) := by decide +kernel
theorem x_331_24 : decode (q_code 331) 24 = .ok (.aload_n 0, 1) := by decide +kernel
theorem x_331_25 : decode (q_code 331) 25 = .ok (.iload_n 1, 1) := by decide +kernel
theorem x_331_26 : decode (q_code 331) 26 = .ok (.invokevirtual 163, 3) := by decide +kernel
theorem x_331_29 : decode (q_code 331) 29 = .ok (.invokestatic 174, 3) := by decide +kernel
theorem x_331_32 : decode (q_code 331) 32 = .ok (.istore_n 2, 1) := by decide +kernel
theorem x_331_33 : decode (q_code 331) 33 = .ok (.iload_n 2, 1) := by decide +kernel
theorem x_331_34 : decode (q_code 331) 34 = .ok (.aload_n 0, 1) := by decide +kernel
theorem x_331_35 : decode (q_code 331) 35 = .ok (.aload_n 0, 1) := by decide +kernel
theorem x_331_36 : decode (q_code 331) 36 = .ok (.iload_n 1, 1) := by decide +kernel
theorem x_331_37 : decode (q_code 331) 37 = .ok (.invokevirtual 163, 3) := by decide +kernel
theorem x_331_40 : decode (q_code 331) 40 = .ok (.invokevirtual 177, 3) := by decide +kernel
theorem x_331_43 : decode (q_code 331) 43 = .ok (.if_icmp .ge 39, 3) := by decide +kernel
theorem x_331_46 : decode (q_code 331) 46 = .ok (.aload_n 0, 1) := by decide +kernel
theorem x_331_47 : decode (q_code 331) 47 = .ok (.iload_n 2, 1) := by decide +kernel
theorem x_331_48 : decode (q_code 331) 48 = .ok (.iconst 1, 1) := by decide +kernel
theorem x_331_49 : decode (q_code 331) 49 = .ok (.iadd, 1) := by decide +kernel
theorem x_331_50 : decode (q_code 331) 50 = .ok (.aload_n 0, 1) := by decide +kernel
theorem x_331_51 : decode (q_code 331) 51 = .ok (.iload_n 2, 1) := by decide +kernel
theorem x_331_52 : decode (q_code 331) 52 = .ok (.invokevirtual 160, 3) := by decide +kernel
theorem x_331_55 : decode (q_code 331) 55 = .ok (.invokevirtual 583, 3) := by decide +kernel
theorem x_331_58 : decode (q_code 331) 58 = .ok (.ifCond .ne 5, 3) := by decide +kernel
theorem x_331_61 : decode (q_code 331) 61 = .ok (.iconst 2, 1) := by decide +kernel
theorem x_331_62 : decode (q_code 331) 62 = .ok (.ireturn, 1) := by decide +kernel
theorem x_331_63 : decode (q_code 331) 63 = .ok (.aload_n 0, 1) := by decide +kernel
theorem x_331_64 : decode (q_code 331) 64 = .ok (.iload_n 2, 1) := by decide +kernel
theorem x_331_65 : decode (q_code 331) 65 = .ok (.invokevirtual 561, 3) := by decide +kernel
theorem x_331_68 : decode (q_code 331) 68 = .ok (.ifCond .le 5, 3) := by decide +kernel
theorem x_331_71 : decode (q_code 331) 71 = .ok (.iconst 3, 1) := by decide +kernel
theorem x_331_72 : decode (q_code 331) 72 = .ok (.ireturn, 1) := by decide +kernel
theorem x_331_73 : decode (q_code 331) 73 = .ok (.aload_n 0, 1) := by decide +kernel
theorem x_331_74 : decode (q_code 331) 74 = .ok (.iload_n 2, 1) := by decide +kernel
theorem x_331_75 : decode (q_code 331) 75 = .ok (.invokevirtual 180, 3) := by decide +kernel
theorem x_331_78 : decode (q_code 331) 78 = .ok (.istore_n 2, 1) := by decide +kernel
theorem x_331_79 : decode (q_code 331) 79 = .ok (.goto (-46), 3) := by decide +kernel
theorem x_331_82 : decode (q_code 331) 82 = .ok (.iconst 0, 1) := by decide +kernel
theorem x_331_83 : decode (q_code 331) 83 = .ok (.ireturn, 1) := by decide +kernel
theorem x_332_0 : decode (q_code 332) 0 = .ok (.aload_n 0, 1) := by decide +kernel
theorem x_332_1 : decode (q_code 332) 1 = .ok (.iload_n 1, 1) := by decide +kernel
theorem x_332_2 : decode (q_code 332) 2 = .ok (.ldc_w 586, 3) := by decide +kernel
theorem x_332_5 : decode (q_code 332) 5 = .ok (.invokevirtual 325, 3) := by decide +kernel
theorem x_332_8 : decode (q_code 332) 8 = .ok (.ifCond .ne 47, 3) := by decide +kernel
theorem x_332_11 : decode (q_code 332) 11 = .ok (.aload_n 0, 1) := by decide +kernel
theorem x_332_12 : decode (q_code 332) 12 = .ok (.iload_n 1, 1) := by decide +kernel
theorem x_332_13 : decode (q_code 332) 13 = .ok (.ldc_w 588, 3) := by decide +kernel
theorem x_332_16 : decode (q_code 332) 16 = .ok (.invokevirtual 325, 3) := by decide +kernel
theorem x_332_19 : decode (q_code 332) 19 = .ok (.ifCond .ne 36, 3) := by decide +kernel
theorem x_332_22 : decode (q_code 332) 22 = .ok (.aload_n 0, 1) := by decide +kernel
theorem x_332_23 : decode (q_code 332) 23 = .ok (.iload_n 1, 1) := by decide +kernel
theorem x_332_24 : decode (q_code 332) 24 = .ok (.ldc_w 590, 3) := by decide +kernel
theorem x_332_27 : decode (q_code 332) 27 = .ok (.invokevirtual 325, 3) := by decide +kernel
theorem x_332_30 : decode (q_code 332) 30 = .ok (.ifCond .ne 25, 3) := by decide +kernel
theorem x_332_33 : decode (q_code 332) 33 = .ok (.aload_n 0, 1) := by decide +kernel
theorem x_332_34 : decode (q_code 332) 34 = .ok (.iload_n 1, 1) := by decide +kernel
theorem x_332_35 : decode (q_code 332) 35 = .ok (.ldc_w 592, 3) := by decide +kernel
theorem x_332_38 : decode (q_code 332) 38 = .ok (.invokevirtual 325, 3) := by decide +kernel
theorem x_332_41 : decode (q_code 332) 41 = .ok (.ifCond .ne 14, 3) := by decide +kernel
theorem x_332_44 : decode (q_code 332) 44 = .ok (.aload_n 0, 1) := by decide +kernel
theorem x_332_45 : decode (q_code 332) 45 = .ok (.iload_n 1, 1) := by decide +kernel
theorem x_332_46 : decode (q_code 332) 46 = .ok (.ldc_w 594, 3) := by decide +kernel
theorem x_332_49 : decode (q_code 332) 49 = .ok (.invokevirtual 325, 3) := by decide +kernel
theorem x_332_52 : decode (q_code 332) 52 = .ok (.ifCond .eq 7, 3) := by decide +kernel
theorem x_332_55 : decode (q_code 332) 55 = .ok (.iconst 1, 1) := by decide +kernel
theorem x_332_56 : decode (q_code 332) 56 = .ok (.goto 4, 3) := by decide +kernel
theorem x_332_59 : decode (q_code 332) 59 = .ok (.iconst 0, 1) := by decide +kernel
theorem x_332_60 : decode (q_code 332) 60 = .ok (.istore_n 2, 1) := by decide +kernel
theorem x_332_61 : decode (q_code 332) 61 = .ok (.iload_n 2, 1) := by decide +kernel
theorem x_332_62 : decode (q_code 332) 62 = .ok (.ifCond .ne 47, 3) := by decide +kernel
theorem x_332_65 : decode (q_code 332) 65 = .ok (.aload_n 0, 1) := by decide +kernel
theorem x_332_66 : decode (q_code 332) 66 = .ok (.iload_n 1, 1) := by decide +kernel
theorem x_332_67 : decode (q_code 332) 67 = .ok (.ldc_w 435, 3) := by decide +kernel
theorem x_332_70 : decode (q_code 332) 70 = .ok (.invokevirtual 325, 3) := by decide +kernel
theorem x_332_73 : decode (q_code 332) 73 = .ok (.ifCond .ne 36, 3) := by decide +kernel
theorem x_332_76 : decode (q_code 332) 76 = .ok (.aload_n 0, 1) := by decide +kernel
theorem x_332_77 : decode (q_code 332) 77 = .ok (.iload_n 1, 1) := by decide +kernel
theorem x_332_78 : decode (q_code 332) 78 = .ok (.ldc_w 439, 3) := by decide +kernel
theorem x_332_81 : decode (q_code 332) 81 = .ok (.invokevirtual 325, 3) := by decide +kernel
theorem x_332_84 : decode (q_code 332) 84 = .ok (.ifCond .ne 25, 3) := by decide +kernel
theorem x_332_87 : decode (q_code 332) 87 = .ok (.aload_n 0, 1) := by decide +kernel
theorem x_332_88 : decode (q_code 332) 88 = .ok (.iload_n 1, 1) := by decide +kernel
theorem x_332_89 : decode (q_code 332) 89 = .ok (.ldc_w 596, 3) := by decide +kernel
theorem x_332_92 : decode (q_code 332) 92 = .ok (.invokevirtual 325, 3) := by decide +kernel
theorem x_332_95 : decode (q_code 332) 95 = .ok (.ifCond .eq 18, 3) := by decide +kernel
theorem x_332_98 : decode (q_code 332) 98 = .ok (.aload_n 0, 1) := by decide +kernel
theorem x_332_99 : decode (q_code 332) 99 = .ok (.getfield 10, 3) := by decide +kernel
theorem x_332_102 : decode (q_code 332) 102 = .ok (.iload_n 1, 1) := by decide +kernel
theorem x_332_103 : decode (q_code 332) 103 = .ok (.baload, 1) := by decide +kernel
theorem x_332_104 : decode (q_code 332) 104 = .ok (.bipush 10, 2) := by decide +kernel
theorem x_332_106 : decode (q_code 332) 106 = .ok (.if_icmp .ne 7, 3) := by decide +kernel
theorem x_332_109 : decode (q_code 332) 109 = .ok (.iconst 1, 1) := by decide +kernel
theorem x_332_110 : decode (q_code 332) 110 = .ok (.goto 4, 3) := by decide +kernel
theorem x_332_113 : decode (q_code 332) 113 = .ok (.iconst 0, 1) := by decide +kernel
theorem x_332_114 : decode (q_code 332) 114 = .ok (.ireturn, 1) := by decide +kernel
theorem x_333_0 : decode (q_code 333) 0 = .ok (.aload_n 0, 1) := by decide +kernel
theorem x_333_1 : decode (q_code 333) 1 = .ok (.getfield 10, 3) := by decide +kernel
theorem x_333_4 : decode (q_code 333) 4 = .ok (.iload_n 1, 1) := by decide +kernel
theorem x_333_5 : decode (q_code 333) 5 = .ok (.baload, 1) := by decide +kernel
theorem x_333_6 : decode (q_code 333) 6 = .ok (.iconst 3, 1) := by decide +kernel
theorem x_333_7 : decode (q_code 333) 7 = .ok (.if_icmp .ne 33, 3) := by decide +kernel
theorem x_333_10 : decode (q_code 333) 10 = .ok (.aload_n 0, 1) := by decide +kernel
theorem x_333_11 : decode (q_code 333) 11 = .ok (.aload_n 0, 1) := by decide +kernel
theorem x_333_12 : decode (q_code 333) 12 = .ok (.iload_n 1, 1) := by decide +kernel
theorem x_333_13 : decode (q_code 333) 13 = .ok (.invokevirtual 163, 3) := by decide +kernel
theorem x_333_16 : decode (q_code 333) 16 = .ok (.invokevirtual 360, 3) := by decide +kernel
theorem x_333_19 : decode (q_code 333) 19 = .ok (.ifCond .eq 21, 3) := by decide +kernel
theorem x_333_22 : decode (q_code 333) 22 = .ok (.aload_n 0, 1) := by decide +kernel
theorem x_333_23 : decode (q_code 333) 23 = .ok (.aload_n 0, 1) := by decide +kernel
theorem x_333_24 : decode (q_code 333) 24 = .ok (.iload_n 1, 1) := by decide +kernel
theorem x_333_25 : decode (q_code 333) 25 = .ok (.invokevirtual 163, 3) := by decide +kernel
theorem x_333_28 : decode (q_code 333) 28 = .ok (.invokestatic 174, 3) := by decide +kernel
theorem x_333_31 : decode (q_code 333) 31 = .ok (.ldc_w 598, 3) := by decide +kernel
theorem x_333_34 : decode (q_code 333) 34 = .ok (.invokevirtual 325, 3) := by decide +kernel
theorem x_333_37 : decode (q_code 333) 37 = .ok (.ifCond .ne 5, 3) := by decide +kernel
theorem x_333_40 : decode (q_code 333) 40 = .ok (.iconst 2, 1) := by decide +kernel
theorem x_333_41 : decode (q_code 333) 41 = .ok (.ireturn, 1) := by decide +kernel
theorem x_333_42 : decode (q_code 333) 42 = .ok (.aload_n 0, 1) := by decide +kernel
theorem x_333_43 : decode (q_code 333) 43 = .ok (.iload_n 1, 1) := by decide +kernel
theorem x_333_44 : decode (q_code 333) 44 = .ok (.invokevirtual 163, 3) := by decide +kernel
theorem x_333_47 : decode (q_code 333) 47 = .ok (.invokestatic 174, 3) := by decide +kernel
theorem x_333_50 : decode (q_code 333) 50 = .ok (.istore_n 2, 1) := by decide +kernel
theorem x_333_51 : decode (q_code 333) 51 = .ok (.iload_n 2, 1) := by decide +kernel
theorem x_333_52 : decode (q_code 333) 52 = .ok (.aload_n 0, 1) := by decide +kernel
theorem x_333_53 : decode (q_code 333) 53 = .ok (.aload_n 0, 1) := by decide +kernel
theorem x_333_54 : decode (q_code 333) 54 = .ok (.iload_n 1, 1) := by decide +kernel
theorem x_333_55 : decode (q_code 333) 55 = .ok (.invokevirtual 163, 3) := by decide +kernel
theorem x_333_58 : decode (q_code 333) 58 = .ok (.invokevirtual 177, 3) := by decide +kernel
theorem x_333_61 : decode (q_code 333) 61 = .ok (.if_icmp .ge 95, 3) := by decide +kernel
theorem x_333_64 : decode (q_code 333) 64 = .ok (.iload_n 2, 1) := by decide +kernel
theorem x_333_65 : decode (q_code 333) 65 = .ok (.istore_n 3, 1) := by decide +kernel
theorem x_333_66 : decode (q_code 333) 66 = .ok (.iload_n 2, 1) := by decide +kernel
theorem x_333_67 : decode (q_code 333) 67 = .ok (.aload_n 0, 1) := by decide +kernel
theorem x_333_68 : decode (q_code 333) 68 = .ok (.iload_n 1, 1) := by decide +kernel
theorem x_333_69 : decode (q_code 333) 69 = .ok (.invokevirtual 163, 3) := by decide +kernel
theorem x_333_72 : decode (q_code 333) 72 = .ok (.invokestatic 174, 3) := by decide +kernel
theorem x_333_75 : decode (q_code 333) 75 = .ok (.if_icmp .le 62, 3) := by decide +kernel
theorem x_333_78 : decode (q_code 333) 78 = .ok (.aload_n 0, 1) := by decide +kernel
theorem x_333_79 : decode (q_code 333) 79 = .ok (.iload_n 2, 1) := by decide +kernel
theorem x_333_80 : decode (q_code 333) 80 = .ok (.iconst 1, 1) := by decide +kernel
theorem x_333_81 : decode (q_code 333) 81 = .ok (.iadd, 1) := by decide +kernel
theorem x_333_82 : decode (q_code 333) 82 = .ok (.aload_n 0, 1) := by decide +kernel
theorem x_333_83 : decode (q_code 333) 83 = .ok (.iload_n 2, 1) := by decide +kernel
theorem x_333_84 : decode (q_code 333) 84 = .ok (.invokevirtual 160, 3) := by decide +kernel
theorem x_333_87 : decode (q_code 333) 87 = .ok (.invokevirtual 583, 3) := by decide +kernel
theorem x_333_90 : decode (q_code 333) 90 = .ok (.ifCond .eq 26, 3) := by decide +kernel
theorem x_333_93 : decode (q_code 333) 93 = .ok (.aload_n 0, 1) := by decide +kernel
theorem x_333_94 : decode (q_code 333) 94 = .ok (.getfield 10, 3) := by decide +kernel
theorem x_333_97 : decode (q_code 333) 97 = .ok (.iload_n 2, 1) := by decide +kernel
theorem x_333_98 : decode (q_code 333) 98 = .ok (.baload, 1) := by decide +kernel
theorem x_333_99 : decode (q_code 333) 99 = .ok (.iconst 3, 1) := by decide +kernel
theorem x_333_100 : decode (q_code 333) 100 = .ok (.if_icmp .ne 16, 3) := by decide +kernel
theorem x_333_103 : decode (q_code 333) 103 = .ok (.aload_n 0, 1) := by decide +kernel
theorem x_333_104 : decode (q_code 333) 104 = .ok (.aload_n 0, 1) := by decide +kernel
theorem x_333_105 : decode (q_code 333) 105 = .ok (.iload_n 2, 1) := by decide +kernel
theorem x_333_106 : decode (q_code 333) 106 = .ok (.invokevirtual 163, 3) := by decide +kernel
theorem x_333_109 : decode (q_code 333) 109 = .ok (.invokevirtual 360, 3) := by decide +kernel
theorem x_333_112 : decode (q_code 333) 112 = .ok (.iconst 1, 1) := by decide +kernel
theorem x_333_113 : decode (q_code 333) 113 = .ok (.if_icmp .eq 5, 3) := by decide +kernel
theorem x_333_116 : decode (q_code 333) 116 = .ok (.iconst 2, 1) := by decide +kernel
theorem x_333_117 : decode (q_code 333) 117 = .ok (.ireturn, 1) := by decide +kernel
theorem x_333_118 : decode (q_code 333) 118 = .ok (.aload_n 0, 1) := by decide +kernel
theorem x_333_119 : decode (q_code 333) 119 = .ok (.iload_n 2, 1) := by decide +kernel
theorem x_333_120 : decode (q_code 333) 120 = .ok (.invokevirtual 163, 3) := by decide +kernel
theorem x_333_123 : decode (q_code 333) 123 = .ok (.invokestatic 174, 3) := by decide +kernel
theorem x_333_126 : decode (q_code 333) 126 = .ok (.istore_n 3, 1) := by decide +kernel
theorem x_333_127 : decode (q_code 333) 127 = .ok (.aload_n 0, 1) := by decide +kernel
theorem x_333_128 : decode (q_code 333) 128 = .ok (.iload_n 3, 1) := by decide +kernel
theorem x_333_129 : decode (q_code 333) 129 = .ok (.invokevirtual 600, 3) := by decide +kernel
theorem x_333_132 : decode (q_code 333) 132 = .ok (.ifCond .ne 5, 3) := by decide +kernel
theorem x_333_135 : decode (q_code 333) 135 = .ok (.iconst 2, 1) := by decide +kernel
theorem x_333_136 : decode (q_code 333) 136 = .ok (.ireturn, 1) := by decide +kernel
theorem x_333_137 : decode (q_code 333) 137 = .ok (.aload_n 0, 1) := by decide +kernel
theorem x_333_138 : decode (q_code 333) 138 = .ok (.iload_n 3, 1) := by decide +kernel
theorem x_333_139 : decode (q_code 333) 139 = .ok (.invokevirtual 561, 3) := by decide +kernel
theorem x_333_142 : decode (q_code 333) 142 = .ok (.ifCond .le 5, 3) := by decide +kernel
theorem x_333_145 : decode (q_code 333) 145 = .ok (.iconst 3, 1) := by decide +kernel
theorem x_333_146 : decode (q_code 333) 146 = .ok (.ireturn, 1) := by decide +kernel
theorem x_333_147 : decode (q_code 333) 147 = .ok (.aload_n 0, 1) := by decide +kernel
theorem x_333_148 : decode (q_code 333) 148 = .ok (.iload_n 2, 1) := by decide +kernel
theorem x_333_149 : decode (q_code 333) 149 = .ok (.invokevirtual 180, 3) := by decide +kernel
theorem x_333_152 : decode (q_code 333) 152 = .ok (.istore_n 2, 1) := by decide +kernel
theorem x_333_153 : decode (q_code 333) 153 = .ok (.goto (-102), 3) := by decide +kernel
theorem x_333_156 : decode (q_code 333) 156 = .ok (.iconst 0, 1) := by decide +kernel
theorem x_333_157 : decode (q_code 333) 157 = .ok (.ireturn, 1) := by decide +kernel
theorem x_334_0 : decode (q_code 334) 0 = .ok (.aload_n 0, 1) := by decide +kernel
theorem x_334_1 : decode (q_code 334) 1 = .ok (.getfield 10, 3) := by decide +kernel
theorem x_334_4 : decode (q_code 334) 4 = .ok (.iload_n 1, 1) := by decide +kernel
theorem x_334_5 : decode (q_code 334) 5 = .ok (.baload, 1) := by decide +kernel
theorem x_334_6 : decode (q_code 334) 6 = .ok (.iconst 3, 1) := by decide +kernel
theorem x_334_7 : decode (q_code 334) 7 = .ok (.if_icmp .ne 29, 3) := by decide +kernel
theorem x_334_10 : decode (q_code 334) 10 = .ok (.aload_n 0, 1) := by decide +kernel
theorem x_334_11 : decode (q_code 334) 11 = .ok (.aload_n 0, 1) := by decide +kernel
theorem x_334_12 : decode (q_code 334) 12 = .ok (.iload_n 1, 1) := by decide +kernel
theorem x_334_13 : decode (q_code 334) 13 = .ok (.invokevirtual 163, 3) := by decide +kernel
theorem x_334_16 : decode (q_code 334) 16 = .ok (.invokevirtual 360, 3) := by decide +kernel
theorem x_334_19 : decode (q_code 334) 19 = .ok (.iconst 1, 1) := by decide +kernel
theorem x_334_20 : decode (q_code 334) 20 = .ok (.if_icmp .lt 16, 3) := by decide +kernel
theorem x_334_23 : decode (q_code 334) 23 = .ok (.aload_n 0, 1) := by decide +kernel
theorem x_334_24 : decode (q_code 334) 24 = .ok (.aload_n 0, 1) := by decide +kernel
theorem x_334_25 : decode (q_code 334) 25 = .ok (.iload_n 1, 1) := by decide +kernel
theorem x_334_26 : decode (q_code 334) 26 = .ok (.invokevirtual 163, 3) := by decide +kernel
theorem x_334_29 : decode (q_code 334) 29 = .ok (.invokevirtual 360, 3) := by decide +kernel
theorem x_334_32 : decode (q_code 334) 32 = .ok (.iconst 4, 1) := by decide +kernel
theorem x_334_33 : decode (q_code 334) 33 = .ok (.if_icmp .le 5, 3) := by decide +kernel
theorem x_334_36 : decode (q_code 334) 36 = .ok (.iconst 2, 1) := by decide +kernel
theorem x_334_37 : decode (q_code 334) 37 = .ok (.ireturn, 1) := by decide +kernel
theorem x_334_38 : decode (q_code 334) 38 = .ok (.aload_n 0, 1) := by decide +kernel
theorem x_334_39 : decode (q_code 334) 39 = .ok (.iload_n 1, 1) := by decide +kernel
theorem x_334_40 : decode (q_code 334) 40 = .ok (.invokevirtual 163, 3) := by decide +kernel
theorem x_334_43 : decode (q_code 334) 43 = .ok (.invokestatic 174, 3) := by decide +kernel
theorem x_334_46 : decode (q_code 334) 46 = .ok (.istore_n 2, 1) := by decide +kernel
theorem x_334_47 : decode (q_code 334) 47 = .ok (.iload_n 2, 1) := by decide +kernel
theorem x_334_48 : decode (q_code 334) 48 = .ok (.aload_n 0, 1) := by decide +kernel
theorem x_334_49 : decode (q_code 334) 49 = .ok (.aload_n 0, 1) := by decide +kernel
theorem x_334_50 : decode (q_code 334) 50 = .ok (.iload_n 1, 1) := by decide +kernel
theorem x_334_51 : decode (q_code 334) 51 = .ok (.invokevirtual 163, 3) := by decide +kernel
theorem x_334_54 : decode (q_code 334) 54 = .ok (.invokevirtual 177, 3) := by decide +kernel
theorem x_334_57 : decode (q_code 334) 57 = .ok (.if_icmp .ge 61, 3) := by decide +kernel
theorem x_334_60 : decode (q_code 334) 60 = .ok (.aload_n 0, 1) := by decide +kernel
theorem x_334_61 : decode (q_code 334) 61 = .ok (.iload_n 2, 1) := by decide +kernel
theorem x_334_62 : decode (q_code 334) 62 = .ok (.invokevirtual 387, 3) := by decide +kernel
theorem x_334_65 : decode (q_code 334) 65 = .ok (.ifCond .eq 25, 3) := by decide +kernel
theorem x_334_68 : decode (q_code 334) 68 = .ok (.aload_n 0, 1) := by decide +kernel
theorem x_334_69 : decode (q_code 334) 69 = .ok (.iload_n 2, 1) := by decide +kernel
theorem x_334_70 : decode (q_code 334) 70 = .ok (.invokevirtual 273, 3) := by decide +kernel
theorem x_334_73 : decode (q_code 334) 73 = .ok (.lconst 1, 1) := by decide +kernel
theorem x_334_74 : decode (q_code 334) 74 = .ok (.lcmp, 1) := by decide +kernel
theorem x_334_75 : decode (q_code 334) 75 = .ok (.ifCond .eq 17, 3) := by decide +kernel
theorem x_334_78 : decode (q_code 334) 78 = .ok (.aload_n 0, 1) := by decide +kernel
theorem x_334_79 : decode (q_code 334) 79 = .ok (.iload_n 2, 1) := by decide +kernel
theorem x_334_80 : decode (q_code 334) 80 = .ok (.invokevirtual 273, 3) := by decide +kernel
theorem x_334_83 : decode (q_code 334) 83 = .ok (.ldc2_w 603, 3) := by decide +kernel
theorem x_334_86 : decode (q_code 334) 86 = .ok (.lcmp, 1) := by decide +kernel
theorem x_334_87 : decode (q_code 334) 87 = .ok (.ifCond .eq 5, 3) := by decide +kernel
theorem x_334_90 : decode (q_code 334) 90 = .ok (.iconst 2, 1) := by decide +kernel
theorem x_334_91 : decode (q_code 334) 91 = .ok (.ireturn, 1) := by decide +kernel
theorem x_334_92 : decode (q_code 334) 92 = .ok (.aload_n 0, 1) := by decide +kernel
theorem x_334_93 : decode (q_code 334) 93 = .ok (.iload_n 2, 1) := by decide +kernel
theorem x_334_94 : decode (q_code 334) 94 = .ok (.iconst 1, 1) := by decide +kernel
theorem x_334_95 : decode (q_code 334) 95 = .ok (.iadd, 1) := by decide +kernel
theorem x_334_96 : decode (q_code 334) 96 = .ok (.aload_n 0, 1) := by decide +kernel
theorem x_334_97 : decode (q_code 334) 97 = .ok (.iload_n 2, 1) := by decide +kernel
theorem x_334_98 : decode (q_code 334) 98 = .ok (.invokevirtual 160, 3) := by decide +kernel
theorem x_334_101 : decode (q_code 334) 101 = .ok (.invokevirtual 351, 3) := by decide +kernel
theorem x_334_104 : decode (q_code 334) 104 = .ok (.ifCond .ne 5, 3) := by decide +kernel
theorem x_334_107 : decode (q_code 334) 107 = .ok (.iconst 3, 1) := by decide +kernel
theorem x_334_108 : decode (q_code 334) 108 = .ok (.ireturn, 1) := by decide +kernel
theorem x_334_109 : decode (q_code 334) 109 = .ok (.aload_n 0, 1) := by decide +kernel
theorem x_334_110 : decode (q_code 334) 110 = .ok (.iload_n 2, 1) := by decide +kernel
theorem x_334_111 : decode (q_code 334) 111 = .ok (.invokevirtual 180, 3) := by decide +kernel
theorem x_334_114 : decode (q_code 334) 114 = .ok (.istore_n 2, 1) := by decide +kernel
theorem x_334_115 : decode (q_code 334) 115 = .ok (.goto (-68), 3) := by decide +kernel
theorem x_334_118 : decode (q_code 334) 118 = .ok (.iconst 0, 1) := by decide +kernel
theorem x_334_119 : decode (q_code 334) 119 = .ok (.ireturn, 1) := by decide +kernel
theorem x_335_0 : decode (q_code 335) 0 = .ok (.aload_n 0, 1) := by decide +kernel
theorem x_335_1 : decode (q_code 335) 1 = .ok (.getfield 10, 3) := by decide +kernel
theorem x_335_4 : decode (q_code 335) 4 = .ok (.iload_n 1, 1) := by decide +kernel
theorem x_335_5 : decode (q_code 335) 5 = .ok (.baload, 1) := by decide +kernel
theorem x_335_6 : decode (q_code 335) 6 = .ok (.iconst 3, 1) := by decide +kernel
theorem x_335_7 : decode (q_code 335) 7 = .ok (.if_icmp .ne 16, 3) := by decide +kernel
theorem x_335_10 : decode (q_code 335) 10 = .ok (.aload_n 0, 1) := by decide +kernel
theorem x_335_11 : decode (q_code 335) 11 = .ok (.aload_n 0, 1) := by decide +kernel
theorem x_335_12 : decode (q_code 335) 12 = .ok (.iload_n 1, 1) := by decide +kernel
theorem x_335_13 : decode (q_code 335) 13 = .ok (.invokevirtual 163, 3) := by decide +kernel
theorem x_335_16 : decode (q_code 335) 16 = .ok (.invokevirtual 360, 3) := by decide +kernel
theorem x_335_19 : decode (q_code 335) 19 = .ok (.iconst 3, 1) := by decide +kernel
theorem x_335_20 : decode (q_code 335) 20 = .ok (.if_icmp .eq 5, 3) := by decide +kernel
theorem x_335_23 : decode (q_code 335) 23 = .ok (.iconst 2, 1) := by decide +kernel
theorem x_335_24 : decode (q_code 335) 24 = .ok (.ireturn, 1) := by decide +kernel
theorem x_335_25 : decode (q_code 335) 25 = .ok (.aload_n 0, 1) := by decide +kernel
theorem x_335_26 : decode (q_code 335) 26 = .ok (.aload_n 0, 1) := by decide +kernel
theorem x_335_27 : decode (q_code 335) 27 = .ok (.iload_n 1, 1) := by decide +kernel
theorem x_335_28 : decode (q_code 335) 28 = .ok (.invokevirtual 163, 3) := by decide +kernel
theorem x_335_31 : decode (q_code 335) 31 = .ok (.iconst 0, 1) := by decide +kernel
theorem x_335_32 : decode (q_code 335) 32 = .ok (.invokevirtual 320, 3) := by decide +kernel
theorem x_335_35 : decode (q_code 335) 35 = .ok (.istore_n 2, 1) := by decide +kernel
theorem x_335_36 : decode (q_code 335) 36 = .ok (.aload_n 0, 1) := by decide +kernel
theorem x_335_37 : decode (q_code 335) 37 = .ok (.aload_n 0, 1) := by decide +kernel
theorem x_335_38 : decode (q_code 335) 38 = .ok (.iload_n 1, 1) := by decide +kernel
theorem x_335_39 : decode (q_code 335) 39 = .ok (.invokevirtual 163, 3) := by decide +kernel
theorem x_335_42 : decode (q_code 335) 42 = .ok (.iconst 1, 1) := by decide +kernel
theorem x_335_43 : decode (q_code 335) 43 = .ok (.invokevirtual 320, 3) := by decide +kernel
theorem x_335_46 : decode (q_code 335) 46 = .ok (.istore_n 3, 1) := by decide +kernel
theorem x_335_47 : decode (q_code 335) 47 = .ok (.aload_n 0, 1) := by decide +kernel
theorem x_335_48 : decode (q_code 335) 48 = .ok (.aload_n 0, 1) := by decide +kernel
theorem x_335_49 : decode (q_code 335) 49 = .ok (.iload_n 1, 1) := by decide +kernel
theorem x_335_50 : decode (q_code 335) 50 = .ok (.invokevirtual 163, 3) := by decide +kernel
theorem x_335_53 : decode (q_code 335) 53 = .ok (.iconst 2, 1) := by decide +kernel
theorem x_335_54 : decode (q_code 335) 54 = .ok (.invokevirtual 320, 3) := by decide +kernel
theorem x_335_57 : decode (q_code 335) 57 = .ok (.istore 4, 2) := by decide +kernel
theorem x_335_59 : decode (q_code 335) 59 = .ok (.aload_n 0, 1) := by decide +kernel
theorem x_335_60 : decode (q_code 335) 60 = .ok (.iload_n 2, 1) := by decide +kernel
theorem x_335_61 : decode (q_code 335) 61 = .ok (.ldc_w 605, 3) := by decide +kernel
theorem x_335_64 : decode (q_code 335) 64 = .ok (.invokevirtual 325, 3) := by decide +kernel
theorem x_335_67 : decode (q_code 335) 67 = .ok (.ifCond .eq 57, 3) := by decide +kernel
theorem x_335_70 : decode (q_code 335) 70 = .ok (.aload_n 0, 1) := by decide +kernel
theorem x_335_71 : decode (q_code 335) 71 = .ok (.iload_n 3, 1) := by decide +kernel
theorem x_335_72 : decode (q_code 335) 72 = .ok (.ldc_w 607, 3) := by decide +kernel
theorem x_335_75 : decode (q_code 335) 75 = .ok (.invokevirtual 325, 3) := by decide +kernel
theorem x_335_78 : decode (q_code 335) 78 = .ok (.ifCond .eq 46, 3) := by decide +kernel
theorem x_335_81 : decode (q_code 335) 81 = .ok (.aload_n 0, 1) := by decide +kernel
theorem x_335_82 : decode (q_code 335) 82 = .ok (.iload 4, 2) := by decide +kernel
theorem x_335_84 : decode (q_code 335) 84 = .ok (.ldc_w 608, 3) := by decide +kernel
theorem x_335_87 : decode (q_code 335) 87 = .ok (.invokevirtual 325, 3) := by decide +kernel
theorem x_335_90 : decode (q_code 335) 90 = .ok (.ifCond .eq 34, 3) := by decide +kernel
theorem x_335_93 : decode (q_code 335) 93 = .ok (.aload_n 0, 1) := by decide +kernel
theorem x_335_94 : decode (q_code 335) 94 = .ok (.getfield 10, 3) := by decide +kernel
theorem x_335_97 : decode (q_code 335) 97 = .ok (.iload_n 2, 1) := by decide +kernel
theorem x_335_98 : decode (q_code 335) 98 = .ok (.baload, 1) := by decide +kernel
theorem x_335_99 : decode (q_code 335) 99 = .ok (.iconst 2, 1) := by decide +kernel
theorem x_335_100 : decode (q_code 335) 100 = .ok (.if_icmp .ne 24, 3) := by decide +kernel
theorem x_335_103 : decode (q_code 335) 103 = .ok (.aload_n 0, 1) := by decide +kernel
theorem x_335_104 : decode (q_code 335) 104 = .ok (.getfield 10, 3) := by decide +kernel
theorem x_335_107 : decode (q_code 335) 107 = .ok (.iload_n 3, 1) := by decide +kernel
theorem x_335_108 : decode (q_code 335) 108 = .ok (.baload, 1) := by decide +kernel
theorem x_335_109 : decode (q_code 335) 109 = .ok (.iconst 2, 1) := by decide +kernel
theorem x_335_110 : decode (q_code 335) 110 = .ok (.if_icmp .ne 14, 3) := by decide +kernel
theorem x_335_113 : decode (q_code 335) 113 = .ok (.aload_n 0, 1) := by decide +kernel
theorem x_335_114 : decode (q_code 335) 114 = .ok (.getfield 10, 3) := by decide +kernel
theorem x_335_117 : decode (q_code 335) 117 = .ok (.iload 4, 2) := by decide +kernel
theorem x_335_119 : decode (q_code 335) 119 = .ok (.baload, 1) := by decide +kernel
theorem x_335_120 : decode (q_code 335) 120 = .ok (.iconst 2, 1) := by decide +kernel
theorem x_335_121 : decode (q_code 335) 121 = .ok (.if_icmp .eq 5, 3) := by decide +kernel
theorem x_335_124 : decode (q_code 335) 124 = .ok (.iconst 2, 1) := by decide +kernel
theorem x_335_125 : decode (q_code 335) 125 = .ok (.ireturn, 1) := by decide +kernel
theorem x_335_126 : decode (q_code 335) 126 = .ok (.aload_n 0, 1) := by decide +kernel
theorem x_335_127 : decode (q_code 335) 127 = .ok (.aload_n 0, 1) := by decide +kernel
theorem x_335_128 : decode (q_code 335) 128 = .ok (.iload 4, 2) := by decide +kernel
theorem x_335_130 : decode (q_code 335) 130 = .ok (.invokevirtual 163, 3) := by decide +kernel
theorem x_335_133 : decode (q_code 335) 133 = .ok (.iconst 4, 1) := by decide +kernel
theorem x_335_134 : decode (q_code 335) 134 = .ok (.iadd, 1) := by decide +kernel
theorem x_335_135 : decode (q_code 335) 135 = .ok (.aload_n 0, 1) := by decide +kernel
theorem x_335_136 : decode (q_code 335) 136 = .ok (.iload 4, 2) := by decide +kernel
theorem x_335_138 : decode (q_code 335) 138 = .ok (.invokevirtual 527, 3) := by decide +kernel
theorem x_335_141 : decode (q_code 335) 141 = .ok (.invokevirtual 583, 3) := by decide +kernel
theorem x_335_144 : decode (q_code 335) 144 = .ok (.ifCond .ne 5, 3) := by decide +kernel
theorem x_335_147 : decode (q_code 335) 147 = .ok (.iconst 2, 1) := by decide +kernel
theorem x_335_148 : decode (q_code 335) 148 = .ok (.ireturn, 1) := by decide +kernel
theorem x_335_149 : decode (q_code 335) 149 = .ok (.aload_n 0, 1) := by decide +kernel
theorem x_335_150 : decode (q_code 335) 150 = .ok (.aload_n 0, 1) := by decide +kernel
theorem x_335_151 : decode (q_code 335) 151 = .ok (.iload_n 2, 1) := by decide +kernel
theorem x_335_152 : decode (q_code 335) 152 = .ok (.invokevirtual 163, 3) := by decide +kernel
theorem x_335_155 : decode (q_code 335) 155 = .ok (.iconst 4, 1) := by decide +kernel
theorem x_335_156 : decode (q_code 335) 156 = .ok (.iadd, 1) := by decide +kernel
theorem x_335_157 : decode (q_code 335) 157 = .ok (.aload_n 0, 1) := by decide +kernel
theorem x_335_158 : decode (q_code 335) 158 = .ok (.iload_n 2, 1) := by decide +kernel
theorem x_335_159 : decode (q_code 335) 159 = .ok (.invokevirtual 527, 3) := by decide +kernel
theorem x_335_162 : decode (q_code 335) 162 = .ok (.invokevirtual 351, 3) := by decide +kernel
theorem x_335_165 : decode (q_code 335) 165 = .ok (.ifCond .eq 26, 3) := by decide +kernel
theorem x_335_168 : decode (q_code 335) 168 = .ok (.aload_n 0, 1) := by decide +kernel
theorem x_335_169 : decode (q_code 335) 169 = .ok (.aload_n 0, 1) := by decide +kernel
theorem x_335_170 : decode (q_code 335) 170 = .ok (.iload_n 3, 1) := by decide +kernel
theorem x_335_171 : decode (q_code 335) 171 = .ok (.invokevirtual 163, 3) := by decide +kernel
theorem x_335_174 : decode (q_code 335) 174 = .ok (.iconst 4, 1) := by decide +kernel
theorem x_335_175 : decode (q_code 335) 175 = .ok (.iadd, 1) := by decide +kernel
theorem x_335_176 : decode (q_code 335) 176 = .ok (.aload_n 0, 1) := by decide +kernel
theorem x_335_177 : decode (q_code 335) 177 = .ok (.iload_n 3, 1) := by decide +kernel
theorem x_335_178 : decode (q_code 335) 178 = .ok (.invokevirtual 527, 3) := by decide +kernel
theorem x_335_181 : decode (q_code 335) 181 = .ok (.invokevirtual 351, 3) := by decide +kernel
theorem x_335_184 : decode (q_code 335) 184 = .ok (.ifCond .eq 7, 3) := by decide +kernel
theorem x_335_187 : decode (q_code 335) 187 = .ok (.iconst 0, 1) := by decide +kernel
theorem x_335_188 : decode (q_code 335) 188 = .ok (.goto 4, 3) := by decide +kernel
theorem x_335_191 : decode (q_code 335) 191 = .ok (.iconst 3, 1) := by decide +kernel
theorem x_335_192 : decode (q_code 335) 192 = .ok (.ireturn, 1) := by decide +kernel
theorem x_336_0 : decode (q_code 336) 0 = .ok (.aload_n 0, 1) := by decide +kernel
theorem x_336_1 : decode (q_code 336) 1 = .ok (.getfield 610, 3) := by decide +kernel
theorem x_336_4 : decode (q_code 336) 4 = .ok (.sipush 200, 3) := by decide +kernel
theorem x_336_7 : decode (q_code 336) 7 = .ok (.if_icmp .ne 8, 3) := by decide +kernel
theorem x_336_10 : decode (q_code 336) 10 = .ok (.aload_n 0, 1) := by decide +kernel
theorem x_336_11 : decode (q_code 336) 11 = .ok (.iconst 1, 1) := by decide +kernel
theorem x_336_12 : decode (q_code 336) 12 = .ok (.putfield 613, 3) := by decide +kernel
theorem x_336_15 : decode (q_code 336) 15 = .ok (.aload_n 0, 1) := by decide +kernel
theorem x_336_16 : decode (q_code 336) 16 = .ok (.getfield 613, 3) := by decide +kernel
theorem x_336_19 : decode (q_code 336) 19 = .ok (.ifCond .eq 4, 3) := by decide +kernel
theorem x_336_22 : decode (q_code 336) 22 = .ok (.return_, 1) := by decide +kernel
theorem x_336_23 : decode (q_code 336) 23 = .ok (.aload_n 0, 1) := by decide +kernel
theorem x_336_24 : decode (q_code 336) 24 = .ok (.getfield 31, 3) := by decide +kernel
theorem x_336_27 : decode (q_code 336) 27 = .ok (.aload_n 0, 1) := by decide +kernel
theorem x_336_28 : decode (q_code 336) 28 = .ok (.getfield 610, 3) := by decide +kernel
theorem x_336_31 : decode (q_code 336) 31 = .ok (.iload_n 1, 1) := by decide +kernel
theorem x_336_32 : decode (q_code 336) 32 = .ok (.iastore, 1) := by decide +kernel
theorem x_336_33 : decode (q_code 336) 33 = .ok (.aload_n 0, 1) := by decide +kernel
theorem x_336_34 : decode (q_code 336) 34 = .ok (.dup, 1) := by decide +kernel
theorem x_336_35 : decode (q_code 336) 35 = .ok (.getfield 610, 3) := by decide +kernel
theorem x_336_38 : decode (q_code 336) 38 = .ok (.iconst 1, 1) := by decide +kernel
theorem x_336_39 : decode (q_code 336) 39 = .ok (.iadd, 1) := by decide +kernel
theorem x_336_40 : decode (q_code 336) 40 = .ok (.putfield 610, 3) := by decide +kernel
theorem x_336_43 : decode (q_code 336) 43 = .ok (.return_, 1) := by decide +kernel
theorem x_337_0 : decode (q_code 337) 0 = .ok (.aload_n 0, 1) := by decide +kernel
theorem x_337_1 : decode (q_code 337) 1 = .ok (.iconst 1, 1) := by decide +kernel
theorem x_337_2 : decode (q_code 337) 2 = .ok (.aload_n 0, 1) := by decide +kernel
theorem x_337_3 : decode (q_code 337) 3 = .ok (.getfield 616, 3) := by decide +kernel
theorem x_337_6 : decode (q_code 337) 6 = .ok (.isub, 1) := by decide +kernel
theorem x_337_7 : decode (q_code 337) 7 = .ok (.putfield 616, 3) := by decide +kernel
theorem x_337_10 : decode (q_code 337) 10 = .ok (.aload_n 0, 1) := by decide +kernel
theorem x_337_11 : decode (q_code 337) 11 = .ok (.iconst 0, 1) := by decide +kernel
theorem x_337_12 : decode (q_code 337) 12 = .ok (.putfield 610, 3) := by decide +kernel
theorem x_337_15 : decode (q_code 337) 15 = .ok (.aload_n 0, 1) := by decide +kernel
theorem x_337_16 : decode (q_code 337) 16 = .ok (.iconst 0, 1) := by decide +kernel
theorem x_337_17 : decode (q_code 337) 17 = .ok (.putfield 613, 3) := by decide +kernel
theorem x_337_20 : decode (q_code 337) 20 = .ok (.aload_n 0, 1) := by decide +kernel
theorem x_337_21 : decode (q_code 337) 21 = .ok (.ldc_w 619, 3) := by decide +kernel
theorem x_337_24 : decode (q_code 337) 24 = .ok (.ldc_w 620, 3) := by decide +kernel
theorem x_337_27 : decode (q_code 337) 27 = .ok (.aload_n 0, 1) := by decide +kernel
theorem x_337_28 : decode (q_code 337) 28 = .ok (.getfield 616, 3) := by decide +kernel
theorem x_337_31 : decode (q_code 337) 31 = .ok (.imul, 1) := by decide +kernel
theorem x_337_32 : decode (q_code 337) 32 = .ok (.iadd, 1) := by decide +kernel
theorem x_337_33 : decode (q_code 337) 33 = .ok (.ldc_w 619, 3) := by decide +kernel
theorem x_337_36 : decode (q_code 337) 36 = .ok (.ldc_w 620, 3) := by decide +kernel
theorem x_337_39 : decode (q_code 337) 39 = .ok (.aload_n 0, 1) := by decide +kernel
theorem x_337_40 : decode (q_code 337) 40 = .ok (.getfield 616, 3) := by decide +kernel
theorem x_337_43 : decode (q_code 337) 43 = .ok (.imul, 1) := by decide +kernel
theorem x_337_44 : decode (q_code 337) 44 = .ok (.iadd, 1) := by decide +kernel
theorem x_337_45 : decode (q_code 337) 45 = .ok (.ldc_w 620, 3) := by decide +kernel
theorem x_337_48 : decode (q_code 337) 48 = .ok (.iadd, 1) := by decide +kernel
theorem x_337_49 : decode (q_code 337) 49 = .ok (.invokevirtual 456, 3) := by decide +kernel
theorem x_337_52 : decode (q_code 337) 52 = .ok (.return_, 1) := by decide +kernel
theorem x_338_0 : decode (q_code 338) 0 = .ok (.iconst 0, 1) := by decide +kernel
theorem x_338_1 : decode (q_code 338) 1 = .ok (.istore_n 1, 1) := by decide +kernel
theorem x_338_2 : decode (q_code 338) 2 = .ok (.aload_n 0, 1) := by decide +kernel
theorem x_338_3 : decode (q_code 338) 3 = .ok (.getfield 200, 3) := by decide +kernel
theorem x_338_6 : decode (q_code 338) 6 = .ok (.ifCond .ne 10, 3) := by decide +kernel
theorem x_338_9 : decode (q_code 338) 9 = .ok (.aload_n 0, 1) := by decide +kernel
theorem x_338_10 : decode (q_code 338) 10 = .ok (.getfield 613, 3) := by decide +kernel
theorem x_338_13 : decode (q_code 338) 13 = .ok (.ifCond .eq 5, 3) := by decide +kernel
theorem x_338_16 : decode (q_code 338) 16 = .ok (.iconst 5, 1) := by decide +kernel
theorem x_338_17 : decode (q_code 338) 17 = .ok (.ireturn, 1) := by decide +kernel
theorem x_338_18 : decode (q_code 338) 18 = .ok (.iconst 0, 1) := by decide +kernel
theorem x_338_19 : decode (q_code 338) 19 = .ok (.istore_n 2, 1) := by decide +kernel
theorem x_338_20 : decode (q_code 338) 20 = .ok (.iload_n 2, 1) := by decide +kernel
theorem x_338_21 : decode (q_code 338) 21 = .ok (.aload_n 0, 1) := by decide +kernel
theorem x_338_22 : decode (q_code 338) 22 = .ok (.getfield 610, 3) := by decide +kernel
theorem x_338_25 : decode (q_code 338) 25 = .ok (.if_icmp .ge 48, 3) := by decide +kernel
theorem x_338_28 : decode (q_code 338) 28 = .ok (.aload_n 0, 1) := by decide +kernel
theorem x_338_29 : decode (q_code 338) 29 = .ok (.aload_n 0, 1) := by decide +kernel
theorem x_338_30 : decode (q_code 338) 30 = .ok (.getfield 31, 3) := by decide +kernel
theorem x_338_33 : decode (q_code 338) 33 = .ok (.iload_n 2, 1) := by decide +kernel
theorem x_338_34 : decode (q_code 338) 34 = .ok (.iaload, 1) := by decide +kernel
theorem x_338_35 : decode (q_code 338) 35 = .ok (.invokevirtual 145, 3) := by decide +kernel
theorem x_338_38 : decode (q_code 338) 38 = .ok (.istore_n 3, 1) := by decide +kernel
theorem x_338_39 : decode (q_code 338) 39 = .ok (.iload_n 1, 1) := by decide +kernel
theorem x_338_40 : decode (q_code 338) 40 = .ok (.iload_n 3, 1) := by decide +kernel
theorem x_338_41 : decode (q_code 338) 41 = .ok (.iadd, 1) := by decide +kernel
theorem x_338_42 : decode (q_code 338) 42 = .ok (.istore_n 1, 1) := by decide +kernel
theorem x_338_43 : decode (q_code 338) 43 = .ok (.iload_n 3, 1) := by decide +kernel
theorem x_338_44 : decode (q_code 338) 44 = .ok (.sipush 2000, 3) := by decide +kernel
theorem x_338_47 : decode (q_code 338) 47 = .ok (.if_icmp .gt 18, 3) := by decide +kernel
theorem x_338_50 : decode (q_code 338) 50 = .ok (.aload_n 0, 1) := by decide +kernel
theorem x_338_51 : decode (q_code 338) 51 = .ok (.aload_n 0, 1) := by decide +kernel
theorem x_338_52 : decode (q_code 338) 52 = .ok (.getfield 31, 3) := by decide +kernel
theorem x_338_55 : decode (q_code 338) 55 = .ok (.iload_n 2, 1) := by decide +kernel
theorem x_338_56 : decode (q_code 338) 56 = .ok (.iaload, 1) := by decide +kernel
theorem x_338_57 : decode (q_code 338) 57 = .ok (.invokevirtual 191, 3) := by decide +kernel
theorem x_338_60 : decode (q_code 338) 60 = .ok (.bipush 16, 2) := by decide +kernel
theorem x_338_62 : decode (q_code 338) 62 = .ok (.if_icmp .le 5, 3) := by decide +kernel
theorem x_338_65 : decode (q_code 338) 65 = .ok (.iconst 5, 1) := by decide +kernel
theorem x_338_66 : decode (q_code 338) 66 = .ok (.ireturn, 1) := by decide +kernel
theorem x_338_67 : decode (q_code 338) 67 = .ok (.iinc 2 1, 3) := by decide +kernel
theorem x_338_70 : decode (q_code 338) 70 = .ok (.goto (-50), 3) := by decide +kernel
theorem x_338_73 : decode (q_code 338) 73 = .ok (.iload_n 1, 1) := by decide +kernel
theorem x_338_74 : decode (q_code 338) 74 = .ok (.ldc_w 621, 3) := by decide +kernel
theorem x_338_77 : decode (q_code 338) 77 = .ok (.if_icmp .le 5, 3) := by decide +kernel
theorem x_338_80 : decode (q_code 338) 80 = .ok (.iconst 5, 1) := by decide +kernel
theorem x_338_81 : decode (q_code 338) 81 = .ok (.ireturn, 1) := by decide +kernel
theorem x_338_82 : decode (q_code 338) 82 = .ok (.aload_n 0, 1) := by decide +kernel
theorem x_338_83 : decode (q_code 338) 83 = .ok (.aload_n 0, 1) := by decide +kernel
theorem x_338_84 : decode (q_code 338) 84 = .ok (.getfield 610, 3) := by decide +kernel
theorem x_338_87 : decode (q_code 338) 87 = .ok (.putfield 622, 3) := by decide +kernel
theorem x_338_90 : decode (q_code 338) 90 = .ok (.iconst 0, 1) := by decide +kernel
theorem x_338_91 : decode (q_code 338) 91 = .ok (.istore_n 2, 1) := by decide +kernel
theorem x_338_92 : decode (q_code 338) 92 = .ok (.iload_n 2, 1) := by decide +kernel
theorem x_338_93 : decode (q_code 338) 93 = .ok (.aload_n 0, 1) := by decide +kernel
theorem x_338_94 : decode (q_code 338) 94 = .ok (.getfield 610, 3) := by decide +kernel
theorem x_338_97 : decode (q_code 338) 97 = .ok (.if_icmp .ge 21, 3) := by decide +kernel
theorem x_338_100 : decode (q_code 338) 100 = .ok (.aload_n 0, 1) := by decide +kernel
theorem x_338_101 : decode (q_code 338) 101 = .ok (.getfield 25, 3) := by decide +kernel
theorem x_338_104 : decode (q_code 338) 104 = .ok (.iload_n 2, 1) := by decide +kernel
theorem x_338_105 : decode (q_code 338) 105 = .ok (.aload_n 0, 1) := by decide +kernel
theorem x_338_106 : decode (q_code 338) 106 = .ok (.getfield 31, 3) := by decide +kernel
theorem x_338_109 : decode (q_code 338) 109 = .ok (.iload_n 2, 1) := by decide +kernel
theorem x_338_110 : decode (q_code 338) 110 = .ok (.iaload, 1) := by decide +kernel
theorem x_338_111 : decode (q_code 338) 111 = .ok (.iastore, 1) := by decide +kernel
theorem x_338_112 : decode (q_code 338) 112 = .ok (.iinc 2 1, 3) := by decide +kernel
theorem x_338_115 : decode (q_code 338) 115 = .ok (.goto (-23), 3) := by decide +kernel
theorem x_338_118 : decode (q_code 338) 118 = .ok (.iconst 0, 1) := by decide +kernel
theorem x_338_119 : decode (q_code 338) 119 = .ok (.ireturn, 1) := by decide +kernel
theorem x_339_0 : decode (q_code 339) 0 = .ok (.aload_n 0, 1) := by decide +kernel
theorem x_339_1 : decode (q_code 339) 1 = .ok (.iload_n 1, 1) := by decide +kernel
theorem x_339_2 : decode (q_code 339) 2 = .ok (.ldc_w 569, 3) := by decide +kernel
theorem x_339_5 : decode (q_code 339) 5 = .ok (.invokevirtual 325, 3) := by decide +kernel
theorem x_339_8 : decode (q_code 339) 8 = .ok (.ifCond .eq 13, 3) := by decide +kernel
theorem x_339_11 : decode (q_code 339) 11 = .ok (.aload_n 0, 1) := by decide +kernel
theorem x_339_12 : decode (q_code 339) 12 = .ok (.aload_n 0, 1) := by decide +kernel
theorem x_339_13 : decode (q_code 339) 13 = .ok (.iload_n 1, 1) := by decide +kernel
theorem x_339_14 : decode (q_code 339) 14 = .ok (.invokevirtual 163, 3) := by decide +kernel
theorem x_339_17 : decode (q_code 339) 17 = .ok (.invokevirtual 625, 3) := by decide +kernel
theorem x_339_20 : decode (q_code 339) 20 = .ok (.ireturn, 1) := by decide +kernel
theorem x_339_21 : decode (q_code 339) 21 = .ok (.aload_n 0, 1) := by decide +kernel
theorem x_339_22 : decode (q_code 339) 22 = .ok (.iload_n 1, 1) := by decide +kernel
theorem x_339_23 : decode (q_code 339) 23 = .ok (.ldc_w 574, 3) := by decide +kernel
theorem x_339_26 : decode (q_code 339) 26 = .ok (.invokevirtual 325, 3) := by decide +kernel
theorem x_339_29 : decode (q_code 339) 29 = .ok (.ifCond .ne 14, 3) := by decide +kernel
theorem x_339_32 : decode (q_code 339) 32 = .ok (.aload_n 0, 1) := by decide +kernel
theorem x_339_33 : decode (q_code 339) 33 = .ok (.iload_n 1, 1) := by decide +kernel
theorem x_339_34 : decode (q_code 339) 34 = .ok (.ldc_w 576, 3) := by decide +kernel
theorem x_339_37 : decode (q_code 339) 37 = .ok (.invokevirtual 325, 3) := by decide +kernel
theorem x_339_40 : decode (q_code 339) 40 = .ok (.ifCond .eq 91, 3) := by decide +kernel
theorem x_339_43 : decode (q_code 339) 43 = .ok (.aload_n 0, 1) := by decide +kernel
theorem x_339_44 : decode (q_code 339) 44 = .ok (.iload_n 1, 1) := by decide +kernel
theorem x_339_45 : decode (q_code 339) 45 = .ok (.invokevirtual 273, 3) := by decide +kernel
theorem x_339_48 : decode (q_code 339) 48 = .ok (.aload_n 0, 1) := by decide +kernel
theorem x_339_49 : decode (q_code 339) 49 = .ok (.getfield 622, 3) := by decide +kernel
theorem x_339_52 : decode (q_code 339) 52 = .ok (.i2l, 1) := by decide +kernel
theorem x_339_53 : decode (q_code 339) 53 = .ok (.lcmp, 1) := by decide +kernel
theorem x_339_54 : decode (q_code 339) 54 = .ok (.ifCond .le 10, 3) := by decide +kernel
theorem x_339_57 : decode (q_code 339) 57 = .ok (.aload_n 0, 1) := by decide +kernel
theorem x_339_58 : decode (q_code 339) 58 = .ok (.getfield 622, 3) := by decide +kernel
theorem x_339_61 : decode (q_code 339) 61 = .ok (.goto 9, 3) := by decide +kernel
theorem x_339_64 : decode (q_code 339) 64 = .ok (.aload_n 0, 1) := by decide +kernel
theorem x_339_65 : decode (q_code 339) 65 = .ok (.iload_n 1, 1) := by decide +kernel
theorem x_339_66 : decode (q_code 339) 66 = .ok (.invokevirtual 273, 3) := by decide +kernel
theorem x_339_69 : decode (q_code 339) 69 = .ok (.l2i, 1) := by decide +kernel
theorem x_339_70 : decode (q_code 339) 70 = .ok (.istore_n 2, 1) := by decide +kernel
theorem x_339_71 : decode (q_code 339) 71 = .ok (.aload_n 0, 1) := by decide +kernel
theorem x_339_72 : decode (q_code 339) 72 = .ok (.iload_n 1, 1) := by decide +kernel
theorem x_339_73 : decode (q_code 339) 73 = .ok (.ldc_w 576, 3) := by decide +kernel
theorem x_339_76 : decode (q_code 339) 76 = .ok (.invokevirtual 325, 3) := by decide +kernel
theorem x_339_79 : decode (q_code 339) 79 = .ok (.ifCond .eq 10, 3) := by decide +kernel
theorem x_339_82 : decode (q_code 339) 82 = .ok (.aload_n 0, 1) := by decide +kernel
theorem x_339_83 : decode (q_code 339) 83 = .ok (.iload_n 2, 1) := by decide +kernel
theorem x_339_84 : decode (q_code 339) 84 = .ok (.putfield 622, 3) := by decide +kernel
theorem x_339_87 : decode (q_code 339) 87 = .ok (.iconst 0, 1) := by decide +kernel
theorem x_339_88 : decode (q_code 339) 88 = .ok (.ireturn, 1) := by decide +kernel
theorem x_339_89 : decode (q_code 339) 89 = .ok (.aload_n 0, 1) := by decide +kernel
theorem x_339_90 : decode (q_code 339) 90 = .ok (.dup, 1) := by decide +kernel
theorem x_339_91 : decode (q_code 339) 91 = .ok (.getfield 622, 3) := by decide +kernel
theorem x_339_94 : decode (q_code 339) 94 = .ok (.iload_n 2, 1) := by decide +kernel
theorem x_339_95 : decode (q_code 339) 95 = .ok (.isub, 1) := by decide +kernel
theorem x_339_96 : decode (q_code 339) 96 = .ok (.putfield 622, 3) := by decide +kernel
theorem x_339_99 : decode (q_code 339) 99 = .ok (.iconst 0, 1) := by decide +kernel
theorem x_339_100 : decode (q_code 339) 100 = .ok (.istore_n 3, 1) := by decide +kernel
theorem x_339_101 : decode (q_code 339) 101 = .ok (.iload_n 3, 1) := by decide +kernel
theorem x_339_102 : decode (q_code 339) 102 = .ok (.aload_n 0, 1) := by decide +kernel
theorem x_339_103 : decode (q_code 339) 103 = .ok (.getfield 622, 3) := by decide +kernel
theorem x_339_106 : decode (q_code 339) 106 = .ok (.if_icmp .ge 23, 3) := by decide +kernel
theorem x_339_109 : decode (q_code 339) 109 = .ok (.aload_n 0, 1) := by decide +kernel
theorem x_339_110 : decode (q_code 339) 110 = .ok (.getfield 25, 3) := by decide +kernel
theorem x_339_113 : decode (q_code 339) 113 = .ok (.iload_n 3, 1) := by decide +kernel
theorem x_339_114 : decode (q_code 339) 114 = .ok (.aload_n 0, 1) := by decide +kernel
theorem x_339_115 : decode (q_code 339) 115 = .ok (.getfield 25, 3) := by decide +kernel
theorem x_339_118 : decode (q_code 339) 118 = .ok (.iload_n 3, 1) := by decide +kernel
theorem x_339_119 : decode (q_code 339) 119 = .ok (.iload_n 2, 1) := by decide +kernel
theorem x_339_120 : decode (q_code 339) 120 = .ok (.iadd, 1) := by decide +kernel
theorem x_339_121 : decode (q_code 339) 121 = .ok (.iaload, 1) := by decide +kernel
theorem x_339_122 : decode (q_code 339) 122 = .ok (.iastore, 1) := by decide +kernel
theorem x_339_123 : decode (q_code 339) 123 = .ok (.iinc 3 1, 3) := by decide +kernel
theorem x_339_126 : decode (q_code 339) 126 = .ok (.goto (-25), 3) := by decide +kernel
theorem x_339_129 : decode (q_code 339) 129 = .ok (.iconst 0, 1) := by decide +kernel
theorem x_339_130 : decode (q_code 339) 130 = .ok (.ireturn, 1) := by decide +kernel
theorem x_339_131 : decode (q_code 339) 131 = .ok (.aload_n 0, 1) := by decide +kernel
theorem x_339_132 : decode (q_code 339) 132 = .ok (.invokevirtual 628, 3) := by decide +kernel
theorem x_339_135 : decode (q_code 339) 135 = .ok (.aload_n 0, 1) := by decide +kernel
theorem x_339_136 : decode (q_code 339) 136 = .ok (.iload_n 1, 1) := by decide +kernel
theorem x_339_137 : decode (q_code 339) 137 = .ok (.ldc_w 564, 3) := by decide +kernel
theorem x_339_140 : decode (q_code 339) 140 = .ok (.invokevirtual 325, 3) := by decide +kernel
theorem x_339_143 : decode (q_code 339) 143 = .ok (.ifCond .eq 24, 3) := by decide +kernel
theorem x_339_146 : decode (q_code 339) 146 = .ok (.aload_n 0, 1) := by decide +kernel
theorem x_339_147 : decode (q_code 339) 147 = .ok (.aload_n 0, 1) := by decide +kernel
theorem x_339_148 : decode (q_code 339) 148 = .ok (.iload_n 1, 1) := by decide +kernel
theorem x_339_149 : decode (q_code 339) 149 = .ok (.invokevirtual 163, 3) := by decide +kernel
theorem x_339_152 : decode (q_code 339) 152 = .ok (.invokevirtual 631, 3) := by decide +kernel
theorem x_339_155 : decode (q_code 339) 155 = .ok (.ifCond .eq 10, 3) := by decide +kernel
theorem x_339_158 : decode (q_code 339) 158 = .ok (.aload_n 0, 1) := by decide +kernel
theorem x_339_159 : decode (q_code 339) 159 = .ok (.invokevirtual 634, 3) := by decide +kernel
theorem x_339_162 : decode (q_code 339) 162 = .ok (.goto 4, 3) := by decide +kernel
theorem x_339_165 : decode (q_code 339) 165 = .ok (.iconst 4, 1) := by decide +kernel
theorem x_339_166 : decode (q_code 339) 166 = .ok (.ireturn, 1) := by decide +kernel
theorem x_339_167 : decode (q_code 339) 167 = .ok (.iconst 0, 1) := by decide +kernel
theorem x_339_168 : decode (q_code 339) 168 = .ok (.istore_n 2, 1) := by decide +kernel
theorem x_339_169 : decode (q_code 339) 169 = .ok (.iload_n 2, 1) := by decide +kernel
theorem x_339_170 : decode (q_code 339) 170 = .ok (.aload_n 0, 1) := by decide +kernel
theorem x_339_171 : decode (q_code 339) 171 = .ok (.getfield 622, 3) := by decide +kernel
theorem x_339_174 : decode (q_code 339) 174 = .ok (.if_icmp .ge 78, 3) := by decide +kernel
theorem x_339_177 : decode (q_code 339) 177 = .ok (.aload_n 0, 1) := by decide +kernel
theorem x_339_178 : decode (q_code 339) 178 = .ok (.iload_n 1, 1) := by decide +kernel
theorem x_339_179 : decode (q_code 339) 179 = .ok (.ldc_w 554, 3) := by decide +kernel
theorem x_339_182 : decode (q_code 339) 182 = .ok (.invokevirtual 325, 3) := by decide +kernel
theorem x_339_185 : decode (q_code 339) 185 = .ok (.ifCond .eq 21, 3) := by decide +kernel
theorem x_339_188 : decode (q_code 339) 188 = .ok (.aload_n 0, 1) := by decide +kernel
theorem x_339_189 : decode (q_code 339) 189 = .ok (.aload_n 0, 1) := by decide +kernel
theorem x_339_190 : decode (q_code 339) 190 = .ok (.iload_n 1, 1) := by decide +kernel
theorem x_339_191 : decode (q_code 339) 191 = .ok (.invokevirtual 163, 3) := by decide +kernel
theorem x_339_194 : decode (q_code 339) 194 = .ok (.aload_n 0, 1) := by decide +kernel
theorem x_339_195 : decode (q_code 339) 195 = .ok (.getfield 25, 3) := by decide +kernel
theorem x_339_198 : decode (q_code 339) 198 = .ok (.iload_n 2, 1) := by decide +kernel
theorem x_339_199 : decode (q_code 339) 199 = .ok (.iaload, 1) := by decide +kernel
theorem x_339_200 : decode (q_code 339) 200 = .ok (.invokevirtual 637, 3) := by decide +kernel
theorem x_339_203 : decode (q_code 339) 203 = .ok (.goto 43, 3) := by decide +kernel
theorem x_339_206 : decode (q_code 339) 206 = .ok (.aload_n 0, 1) := by decide +kernel
theorem x_339_207 : decode (q_code 339) 207 = .ok (.iload_n 1, 1) := by decide +kernel
theorem x_339_208 : decode (q_code 339) 208 = .ok (.ldc_w 559, 3) := by decide +kernel
theorem x_339_211 : decode (q_code 339) 211 = .ok (.invokevirtual 325, 3) := by decide +kernel
theorem x_339_214 : decode (q_code 339) 214 = .ok (.ifCond .eq 17, 3) := by decide +kernel
theorem x_339_217 : decode (q_code 339) 217 = .ok (.aload_n 0, 1) := by decide +kernel
theorem x_339_218 : decode (q_code 339) 218 = .ok (.iload_n 1, 1) := by decide +kernel
theorem x_339_219 : decode (q_code 339) 219 = .ok (.aload_n 0, 1) := by decide +kernel
theorem x_339_220 : decode (q_code 339) 220 = .ok (.getfield 25, 3) := by decide +kernel
theorem x_339_223 : decode (q_code 339) 223 = .ok (.iload_n 2, 1) := by decide +kernel
theorem x_339_224 : decode (q_code 339) 224 = .ok (.iaload, 1) := by decide +kernel
theorem x_339_225 : decode (q_code 339) 225 = .ok (.invokevirtual 640, 3) := by decide +kernel
theorem x_339_228 : decode (q_code 339) 228 = .ok (.goto 18, 3) := by decide +kernel
theorem x_339_231 : decode (q_code 339) 231 = .ok (.aload_n 0, 1) := by decide +kernel
theorem x_339_232 : decode (q_code 339) 232 = .ok (.aload_n 0, 1) := by decide +kernel
theorem x_339_233 : decode (q_code 339) 233 = .ok (.iload_n 1, 1) := by decide +kernel
theorem x_339_234 : decode (q_code 339) 234 = .ok (.invokevirtual 163, 3) := by decide +kernel
theorem x_339_237 : decode (q_code 339) 237 = .ok (.aload_n 0, 1) := by decide +kernel
theorem x_339_238 : decode (q_code 339) 238 = .ok (.getfield 25, 3) := by decide +kernel
theorem x_339_241 : decode (q_code 339) 241 = .ok (.iload_n 2, 1) := by decide +kernel
theorem x_339_242 : decode (q_code 339) 242 = .ok (.iaload, 1) := by decide +kernel
theorem x_339_243 : decode (q_code 339) 243 = .ok (.invokevirtual 643, 3) := by decide +kernel
theorem x_339_246 : decode (q_code 339) 246 = .ok (.iinc 2 1, 3) := by decide +kernel
theorem x_339_249 : decode (q_code 339) 249 = .ok (.goto (-80), 3) := by decide +kernel
theorem x_339_252 : decode (q_code 339) 252 = .ok (.aload_n 0, 1) := by decide +kernel
theorem x_339_253 : decode (q_code 339) 253 = .ok (.invokevirtual 634, 3) := by decide +kernel
theorem x_339_256 : decode (q_code 339) 256 = .ok (.ireturn, 1) := by decide +kernel
theorem x_340_0 : decode (q_code 340) 0 = .ok (.aload_n 0, 1) := by decide +kernel
theorem x_340_1 : decode (q_code 340) 1 = .ok (.invokevirtual 508, 3) := by decide +kernel
theorem x_340_4 : decode (q_code 340) 4 = .ok (.istore_n 3, 1) := by decide +kernel
theorem x_340_5 : decode (q_code 340) 5 = .ok (.iload_n 1, 1) := by decide +kernel
theorem x_340_6 : decode (q_code 340) 6 = .ok (.invokestatic 174, 3) := by decide +kernel
theorem x_340_9 : decode (q_code 340) 9 = .ok (.istore 4, 2) := by decide +kernel
theorem x_340_11 : decode (q_code 340) 11 = .ok (.iload 4, 2) := by decide +kernel
theorem x_340_13 : decode (q_code 340) 13 = .ok (.aload_n 0, 1) := by decide +kernel
theorem x_340_14 : decode (q_code 340) 14 = .ok (.iload_n 1, 1) := by decide +kernel
theorem x_340_15 : decode (q_code 340) 15 = .ok (.invokevirtual 177, 3) := by decide +kernel
theorem x_340_18 : decode (q_code 340) 18 = .ok (.if_icmp .ge 101, 3) := by decide +kernel
theorem x_340_21 : decode (q_code 340) 21 = .ok (.aload_n 0, 1) := by decide +kernel
theorem x_340_22 : decode (q_code 340) 22 = .ok (.iload 4, 2) := by decide +kernel
theorem x_340_24 : decode (q_code 340) 24 = .ok (.invokevirtual 160, 3) := by decide +kernel
theorem x_340_27 : decode (q_code 340) 27 = .ok (.istore 5, 2) := by decide +kernel
theorem x_340_29 : decode (q_code 340) 29 = .ok (.aload_n 0, 1) := by decide +kernel
theorem x_340_30 : decode (q_code 340) 30 = .ok (.getfield 10, 3) := by decide +kernel
theorem x_340_33 : decode (q_code 340) 33 = .ok (.iload 4, 2) := by decide +kernel
theorem x_340_35 : decode (q_code 340) 35 = .ok (.baload, 1) := by decide +kernel
theorem x_340_36 : decode (q_code 340) 36 = .ok (.bipush 8, 2) := by decide +kernel
theorem x_340_38 : decode (q_code 340) 38 = .ok (.if_icmp .ne 21, 3) := by decide +kernel
theorem x_340_41 : decode (q_code 340) 41 = .ok (.aload_n 0, 1) := by decide +kernel
theorem x_340_42 : decode (q_code 340) 42 = .ok (.aload_n 0, 1) := by decide +kernel
theorem x_340_43 : decode (q_code 340) 43 = .ok (.iload 4, 2) := by decide +kernel
theorem x_340_45 : decode (q_code 340) 45 = .ok (.invokevirtual 163, 3) := by decide +kernel
theorem x_340_48 : decode (q_code 340) 48 = .ok (.invokevirtual 141, 3) := by decide +kernel
theorem x_340_51 : decode (q_code 340) 51 = .ok (.iconst 1, 1) := by decide +kernel
theorem x_340_52 : decode (q_code 340) 52 = .ok (.if_icmp .ne 7, 3) := by decide +kernel
theorem x_340_55 : decode (q_code 340) 55 = .ok (.iconst 1, 1) := by decide +kernel
theorem x_340_56 : decode (q_code 340) 56 = .ok (.goto 4, 3) := by decide +kernel
theorem x_340_59 : decode (q_code 340) 59 = .ok (.iconst 0, 1) := by decide +kernel
theorem x_340_60 : decode (q_code 340) 60 = .ok (.istore 6, 2) := by decide +kernel
theorem x_340_62 : decode (q_code 340) 62 = .ok (.iload 6, 2) := by decide +kernel
theorem x_340_64 : decode (q_code 340) 64 = .ok (.ifCond .eq 17, 3) := by decide +kernel
theorem x_340_67 : decode (q_code 340) 67 = .ok (.aload_n 0, 1) := by decide +kernel
theorem x_340_68 : decode (q_code 340) 68 = .ok (.iload_n 2, 1) := by decide +kernel
theorem x_340_69 : decode (q_code 340) 69 = .ok (.iload 4, 2) := by decide +kernel
theorem x_340_71 : decode (q_code 340) 71 = .ok (.iconst 1, 1) := by decide +kernel
theorem x_340_72 : decode (q_code 340) 72 = .ok (.iadd, 1) := by decide +kernel
theorem x_340_73 : decode (q_code 340) 73 = .ok (.iload 5, 2) := by decide +kernel
theorem x_340_75 : decode (q_code 340) 75 = .ok (.invokevirtual 310, 3) := by decide +kernel
theorem x_340_78 : decode (q_code 340) 78 = .ok (.goto 10, 3) := by decide +kernel
theorem x_340_81 : decode (q_code 340) 81 = .ok (.aload_n 0, 1) := by decide +kernel
theorem x_340_82 : decode (q_code 340) 82 = .ok (.iload 4, 2) := by decide +kernel
theorem x_340_84 : decode (q_code 340) 84 = .ok (.iload_n 2, 1) := by decide +kernel
theorem x_340_85 : decode (q_code 340) 85 = .ok (.invokevirtual 646, 3) := by decide +kernel
theorem x_340_88 : decode (q_code 340) 88 = .ok (.istore 7, 2) := by decide +kernel
theorem x_340_90 : decode (q_code 340) 90 = .ok (.iload 7, 2) := by decide +kernel
theorem x_340_92 : decode (q_code 340) 92 = .ok (.iconst (-1), 1) := by decide +kernel
theorem x_340_93 : decode (q_code 340) 93 = .ok (.if_icmp .eq 15, 3) := by decide +kernel
theorem x_340_96 : decode (q_code 340) 96 = .ok (.aload_n 0, 1) := by decide +kernel
theorem x_340_97 : decode (q_code 340) 97 = .ok (.iload 4, 2) := by decide +kernel
theorem x_340_99 : decode (q_code 340) 99 = .ok (.iconst 1, 1) := by decide +kernel
theorem x_340_100 : decode (q_code 340) 100 = .ok (.iadd, 1) := by decide +kernel
theorem x_340_101 : decode (q_code 340) 101 = .ok (.iload 5, 2) := by decide +kernel
theorem x_340_103 : decode (q_code 340) 103 = .ok (.iload 7, 2) := by decide +kernel
theorem x_340_105 : decode (q_code 340) 105 = .ok (.invokevirtual 649, 3) := by decide +kernel
theorem x_340_108 : decode (q_code 340) 108 = .ok (.aload_n 0, 1) := by decide +kernel
theorem x_340_109 : decode (q_code 340) 109 = .ok (.iload 4, 2) := by decide +kernel
theorem x_340_111 : decode (q_code 340) 111 = .ok (.invokevirtual 180, 3) := by decide +kernel
theorem x_340_114 : decode (q_code 340) 114 = .ok (.istore 4, 2) := by decide +kernel
theorem x_340_116 : decode (q_code 340) 116 = .ok (.goto (-105), 3) := by decide +kernel
theorem x_340_119 : decode (q_code 340) 119 = .ok (.aload_n 0, 1) := by decide +kernel
theorem x_340_120 : decode (q_code 340) 120 = .ok (.iload_n 3, 1) := by decide +kernel
theorem x_340_121 : decode (q_code 340) 121 = .ok (.invokevirtual 514, 3) := by decide +kernel
theorem x_340_124 : decode (q_code 340) 124 = .ok (.aload_n 0, 1) := by decide +kernel
theorem x_340_125 : decode (q_code 340) 125 = .ok (.iload_n 3, 1) := by decide +kernel
theorem x_340_126 : decode (q_code 340) 126 = .ok (.invokevirtual 652, 3) := by decide +kernel
theorem x_340_129 : decode (q_code 340) 129 = .ok (.return_, 1) := by decide +kernel
theorem x_341_0 : decode (q_code 341) 0 = .ok (.aload_n 0, 1) := by decide +kernel
theorem x_341_1 : decode (q_code 341) 1 = .ok (.iload_n 1, 1) := by decide +kernel
theorem x_341_2 : decode (q_code 341) 2 = .ok (.iload_n 2, 1) := by decide +kernel
theorem x_341_3 : decode (q_code 341) 3 = .ok (.iload_n 3, 1) := by decide +kernel
theorem x_341_4 : decode (q_code 341) 4 = .ok (.invokevirtual 542, 3) := by decide +kernel
theorem x_341_7 : decode (q_code 341) 7 = .ok (.aload_n 0, 1) := by decide +kernel
theorem x_341_8 : decode (q_code 341) 8 = .ok (.getfield 533, 3) := by decide +kernel
theorem x_341_11 : decode (q_code 341) 11 = .ok (.iconst 1, 1) := by decide +kernel
theorem x_341_12 : decode (q_code 341) 12 = .ok (.if_icmp .ne 10, 3) := by decide +kernel
theorem x_341_15 : decode (q_code 341) 15 = .ok (.aload_n 0, 1) := by decide +kernel
theorem x_341_16 : decode (q_code 341) 16 = .ok (.getfield 536, 3) := by decide +kernel
theorem x_341_19 : decode (q_code 341) 19 = .ok (.goto 4, 3) := by decide +kernel
theorem x_341_22 : decode (q_code 341) 22 = .ok (.iconst (-1), 1) := by decide +kernel
theorem x_341_23 : decode (q_code 341) 23 = .ok (.ireturn, 1) := by decide +kernel
theorem x_342_0 : decode (q_code 342) 0 = .ok (.aload_n 0, 1) := by decide +kernel
theorem x_342_1 : decode (q_code 342) 1 = .ok (.iload_n 1, 1) := by decide +kernel
theorem x_342_2 : decode (q_code 342) 2 = .ok (.invokevirtual 163, 3) := by decide +kernel
theorem x_342_5 : decode (q_code 342) 5 = .ok (.iconst 5, 1) := by decide +kernel
theorem x_342_6 : decode (q_code 342) 6 = .ok (.iadd, 1) := by decide +kernel
theorem x_342_7 : decode (q_code 342) 7 = .ok (.istore_n 3, 1) := by decide +kernel
theorem x_342_8 : decode (q_code 342) 8 = .ok (.aload_n 0, 1) := by decide +kernel
theorem x_342_9 : decode (q_code 342) 9 = .ok (.iload_n 1, 1) := by decide +kernel
theorem x_342_10 : decode (q_code 342) 10 = .ok (.invokevirtual 527, 3) := by decide +kernel
theorem x_342_13 : decode (q_code 342) 13 = .ok (.istore 4, 2) := by decide +kernel
theorem x_342_15 : decode (q_code 342) 15 = .ok (.aload_n 0, 1) := by decide +kernel
theorem x_342_16 : decode (q_code 342) 16 = .ok (.iload_n 2, 1) := by decide +kernel
theorem x_342_17 : decode (q_code 342) 17 = .ok (.iload_n 3, 1) := by decide +kernel
theorem x_342_18 : decode (q_code 342) 18 = .ok (.iload 4, 2) := by decide +kernel
theorem x_342_20 : decode (q_code 342) 20 = .ok (.invokevirtual 655, 3) := by decide +kernel
theorem x_342_23 : decode (q_code 342) 23 = .ok (.istore 5, 2) := by decide +kernel
theorem x_342_25 : decode (q_code 342) 25 = .ok (.iload 5, 2) := by decide +kernel
theorem x_342_27 : decode (q_code 342) 27 = .ok (.iconst (-1), 1) := by decide +kernel
theorem x_342_28 : decode (q_code 342) 28 = .ok (.if_icmp .eq 15, 3) := by decide +kernel
theorem x_342_31 : decode (q_code 342) 31 = .ok (.aload_n 0, 1) := by decide +kernel
theorem x_342_32 : decode (q_code 342) 32 = .ok (.getfield 10, 3) := by decide +kernel
theorem x_342_35 : decode (q_code 342) 35 = .ok (.iload 5, 2) := by decide +kernel
theorem x_342_37 : decode (q_code 342) 37 = .ok (.baload, 1) := by decide +kernel
theorem x_342_38 : decode (q_code 342) 38 = .ok (.bipush 10, 2) := by decide +kernel
theorem x_342_40 : decode (q_code 342) 40 = .ok (.if_icmp .ne 4, 3) := by decide +kernel
theorem x_342_43 : decode (q_code 342) 43 = .ok (.return_, 1) := by decide +kernel
theorem x_342_44 : decode (q_code 342) 44 = .ok (.aload_n 0, 1) := by decide +kernel
theorem x_342_45 : decode (q_code 342) 45 = .ok (.getfield 10, 3) := by decide +kernel
theorem x_342_48 : decode (q_code 342) 48 = .ok (.iload 5, 2) := by decide +kernel
theorem x_342_50 : decode (q_code 342) 50 = .ok (.baload, 1) := by decide +kernel
theorem x_342_51 : decode (q_code 342) 51 = .ok (.iconst 4, 1) := by decide +kernel
theorem x_342_52 : decode (q_code 342) 52 = .ok (.if_icmp .eq 28, 3) := by decide +kernel
theorem x_342_55 : decode (q_code 342) 55 = .ok (.aload_n 0, 1) := by decide +kernel
theorem x_342_56 : decode (q_code 342) 56 = .ok (.getfield 194, 3) := by decide +kernel
theorem x_342_59 : decode (q_code 342) 59 = .ok (.istore 6, 2) := by decide +kernel
theorem x_342_61 : decode (q_code 342) 61 = .ok (.aload_n 0, 1) := by decide +kernel
theorem x_342_62 : decode (q_code 342) 62 = .ok (.iload_n 2, 1) := by decide +kernel
theorem x_342_63 : decode (q_code 342) 63 = .ok (.iload_n 2, 1) := by decide +kernel
theorem x_342_64 : decode (q_code 342) 64 = .ok (.aload_n 0, 1) := by decide +kernel
theorem x_342_65 : decode (q_code 342) 65 = .ok (.iload_n 2, 1) := by decide +kernel
theorem x_342_66 : decode (q_code 342) 66 = .ok (.invokevirtual 145, 3) := by decide +kernel
theorem x_342_69 : decode (q_code 342) 69 = .ok (.iadd, 1) := by decide +kernel
theorem x_342_70 : decode (q_code 342) 70 = .ok (.invokevirtual 214, 3) := by decide +kernel
theorem x_342_73 : decode (q_code 342) 73 = .ok (.aload_n 0, 1) := by decide +kernel
theorem x_342_74 : decode (q_code 342) 74 = .ok (.iload 6, 2) := by decide +kernel
theorem x_342_76 : decode (q_code 342) 76 = .ok (.invokevirtual 652, 3) := by decide +kernel
theorem x_342_79 : decode (q_code 342) 79 = .ok (.return_, 1) := by decide +kernel
theorem x_342_80 : decode (q_code 342) 80 = .ok (.aload_n 0, 1) := by decide +kernel
theorem x_342_81 : decode (q_code 342) 81 = .ok (.iload 5, 2) := by decide +kernel
theorem x_342_83 : decode (q_code 342) 83 = .ok (.invokevirtual 163, 3) := by decide +kernel
theorem x_342_86 : decode (q_code 342) 86 = .ok (.invokestatic 174, 3) := by decide +kernel
theorem x_342_89 : decode (q_code 342) 89 = .ok (.istore 6, 2) := by decide +kernel
theorem x_342_91 : decode (q_code 342) 91 = .ok (.iload 6, 2) := by decide +kernel
theorem x_342_93 : decode (q_code 342) 93 = .ok (.aload_n 0, 1) := by decide +kernel
theorem x_342_94 : decode (q_code 342) 94 = .ok (.aload_n 0, 1) := by decide +kernel
theorem x_342_95 : decode (q_code 342) 95 = .ok (.iload 5, 2) := by decide +kernel
theorem x_342_97 : decode (q_code 342) 97 = .ok (.invokevirtual 163, 3) := by decide +kernel
theorem x_342_100 : decode (q_code 342) 100 = .ok (.invokevirtual 177, 3) := by decide +kernel
theorem x_342_103 : decode (q_code 342) 103 = .ok (.if_icmp .ge 42, 3) := by decide +kernel
theorem x_342_106 : decode (q_code 342) 106 = .ok (.aload_n 0, 1) := by decide +kernel
theorem x_342_107 : decode (q_code 342) 107 = .ok (.getfield 613, 3) := by decide +kernel
theorem x_342_110 : decode (q_code 342) 110 = .ok (.ifCond .ne 35, 3) := by decide +kernel
theorem x_342_113 : decode (q_code 342) 113 = .ok (.aload_n 0, 1) := by decide +kernel
theorem x_342_114 : decode (q_code 342) 114 = .ok (.getfield 194, 3) := by decide +kernel
theorem x_342_117 : decode (q_code 342) 117 = .ok (.istore 7, 2) := by decide +kernel
theorem x_342_119 : decode (q_code 342) 119 = .ok (.aload_n 0, 1) := by decide +kernel
theorem x_342_120 : decode (q_code 342) 120 = .ok (.iload_n 2, 1) := by decide +kernel
theorem x_342_121 : decode (q_code 342) 121 = .ok (.iload 5, 2) := by decide +kernel
theorem x_342_123 : decode (q_code 342) 123 = .ok (.iload 6, 2) := by decide +kernel
theorem x_342_125 : decode (q_code 342) 125 = .ok (.invokevirtual 658, 3) := by decide +kernel
theorem x_342_128 : decode (q_code 342) 128 = .ok (.aload_n 0, 1) := by decide +kernel
theorem x_342_129 : decode (q_code 342) 129 = .ok (.iload 7, 2) := by decide +kernel
theorem x_342_131 : decode (q_code 342) 131 = .ok (.invokevirtual 652, 3) := by decide +kernel
theorem x_342_134 : decode (q_code 342) 134 = .ok (.aload_n 0, 1) := by decide +kernel
theorem x_342_135 : decode (q_code 342) 135 = .ok (.iload 6, 2) := by decide +kernel
theorem x_342_137 : decode (q_code 342) 137 = .ok (.invokevirtual 180, 3) := by decide +kernel
theorem x_342_140 : decode (q_code 342) 140 = .ok (.istore 6, 2) := by decide +kernel
theorem x_342_142 : decode (q_code 342) 142 = .ok (.goto (-51), 3) := by decide +kernel
theorem x_342_145 : decode (q_code 342) 145 = .ok (.return_, 1) := by decide +kernel
theorem x_343_0 : decode (q_code 343) 0 = .ok (.aload_n 0, 1) := by decide +kernel
theorem x_343_1 : decode (q_code 343) 1 = .ok (.invokevirtual 508, 3) := by decide +kernel
theorem x_343_4 : decode (q_code 343) 4 = .ok (.istore 4, 2) := by decide +kernel
theorem x_343_6 : decode (q_code 343) 6 = .ok (.iload_n 1, 1) := by decide +kernel
theorem x_343_7 : decode (q_code 343) 7 = .ok (.invokestatic 174, 3) := by decide +kernel
theorem x_343_10 : decode (q_code 343) 10 = .ok (.istore 5, 2) := by decide +kernel
theorem x_343_12 : decode (q_code 343) 12 = .ok (.iload 5, 2) := by decide +kernel
theorem x_343_14 : decode (q_code 343) 14 = .ok (.aload_n 0, 1) := by decide +kernel
theorem x_343_15 : decode (q_code 343) 15 = .ok (.iload_n 1, 1) := by decide +kernel
theorem x_343_16 : decode (q_code 343) 16 = .ok (.invokevirtual 177, 3) := by decide +kernel
theorem x_343_19 : decode (q_code 343) 19 = .ok (.if_icmp .ge 111, 3) := by decide +kernel
theorem x_343_22 : decode (q_code 343) 22 = .ok (.iload 5, 2) := by decide +kernel
theorem x_343_24 : decode (q_code 343) 24 = .ok (.iload_n 2, 1) := by decide +kernel
theorem x_343_25 : decode (q_code 343) 25 = .ok (.if_icmp .ne 21, 3) := by decide +kernel
theorem x_343_28 : decode (q_code 343) 28 = .ok (.aload_n 0, 1) := by decide +kernel
theorem x_343_29 : decode (q_code 343) 29 = .ok (.iload 5, 2) := by decide +kernel
theorem x_343_31 : decode (q_code 343) 31 = .ok (.iconst 1, 1) := by decide +kernel
theorem x_343_32 : decode (q_code 343) 32 = .ok (.iadd, 1) := by decide +kernel
theorem x_343_33 : decode (q_code 343) 33 = .ok (.aload_n 0, 1) := by decide +kernel
theorem x_343_34 : decode (q_code 343) 34 = .ok (.iload 5, 2) := by decide +kernel
theorem x_343_36 : decode (q_code 343) 36 = .ok (.invokevirtual 160, 3) := by decide +kernel
theorem x_343_39 : decode (q_code 343) 39 = .ok (.iload_n 3, 1) := by decide +kernel
theorem x_343_40 : decode (q_code 343) 40 = .ok (.invokevirtual 649, 3) := by decide +kernel
theorem x_343_43 : decode (q_code 343) 43 = .ok (.goto 76, 3) := by decide +kernel
theorem x_343_46 : decode (q_code 343) 46 = .ok (.iload 5, 2) := by decide +kernel
theorem x_343_48 : decode (q_code 343) 48 = .ok (.iload_n 2, 1) := by decide +kernel
theorem x_343_49 : decode (q_code 343) 49 = .ok (.if_icmp .ge 58, 3) := by decide +kernel
theorem x_343_52 : decode (q_code 343) 52 = .ok (.iload_n 2, 1) := by decide +kernel
theorem x_343_53 : decode (q_code 343) 53 = .ok (.aload_n 0, 1) := by decide +kernel
theorem x_343_54 : decode (q_code 343) 54 = .ok (.iload 5, 2) := by decide +kernel
theorem x_343_56 : decode (q_code 343) 56 = .ok (.invokevirtual 180, 3) := by decide +kernel
theorem x_343_59 : decode (q_code 343) 59 = .ok (.if_icmp .ge 48, 3) := by decide +kernel
theorem x_343_62 : decode (q_code 343) 62 = .ok (.aload_n 0, 1) := by decide +kernel
theorem x_343_63 : decode (q_code 343) 63 = .ok (.aload_n 0, 1) := by decide +kernel
theorem x_343_64 : decode (q_code 343) 64 = .ok (.getfield 10, 3) := by decide +kernel
theorem x_343_67 : decode (q_code 343) 67 = .ok (.iload 5, 2) := by decide +kernel
theorem x_343_69 : decode (q_code 343) 69 = .ok (.baload, 1) := by decide +kernel
theorem x_343_70 : decode (q_code 343) 70 = .ok (.invokevirtual 204, 3) := by decide +kernel
theorem x_343_73 : decode (q_code 343) 73 = .ok (.aload_n 0, 1) := by decide +kernel
theorem x_343_74 : decode (q_code 343) 74 = .ok (.iload 5, 2) := by decide +kernel
theorem x_343_76 : decode (q_code 343) 76 = .ok (.iconst 1, 1) := by decide +kernel
theorem x_343_77 : decode (q_code 343) 77 = .ok (.iadd, 1) := by decide +kernel
theorem x_343_78 : decode (q_code 343) 78 = .ok (.aload_n 0, 1) := by decide +kernel
theorem x_343_79 : decode (q_code 343) 79 = .ok (.iload 5, 2) := by decide +kernel
theorem x_343_81 : decode (q_code 343) 81 = .ok (.invokevirtual 160, 3) := by decide +kernel
theorem x_343_84 : decode (q_code 343) 84 = .ok (.invokevirtual 214, 3) := by decide +kernel
theorem x_343_87 : decode (q_code 343) 87 = .ok (.aload_n 0, 1) := by decide +kernel
theorem x_343_88 : decode (q_code 343) 88 = .ok (.iconst 0, 1) := by decide +kernel
theorem x_343_89 : decode (q_code 343) 89 = .ok (.invokevirtual 204, 3) := by decide +kernel
theorem x_343_92 : decode (q_code 343) 92 = .ok (.aload_n 0, 1) := by decide +kernel
theorem x_343_93 : decode (q_code 343) 93 = .ok (.aload_n 0, 1) := by decide +kernel
theorem x_343_94 : decode (q_code 343) 94 = .ok (.iload 5, 2) := by decide +kernel
theorem x_343_96 : decode (q_code 343) 96 = .ok (.invokevirtual 163, 3) := by decide +kernel
theorem x_343_99 : decode (q_code 343) 99 = .ok (.iload_n 2, 1) := by decide +kernel
theorem x_343_100 : decode (q_code 343) 100 = .ok (.iload_n 3, 1) := by decide +kernel
theorem x_343_101 : decode (q_code 343) 101 = .ok (.invokevirtual 658, 3) := by decide +kernel
theorem x_343_104 : decode (q_code 343) 104 = .ok (.goto 15, 3) := by decide +kernel
theorem x_343_107 : decode (q_code 343) 107 = .ok (.aload_n 0, 1) := by decide +kernel
theorem x_343_108 : decode (q_code 343) 108 = .ok (.iload 5, 2) := by decide +kernel
theorem x_343_110 : decode (q_code 343) 110 = .ok (.aload_n 0, 1) := by decide +kernel
theorem x_343_111 : decode (q_code 343) 111 = .ok (.iload 5, 2) := by decide +kernel
theorem x_343_113 : decode (q_code 343) 113 = .ok (.invokevirtual 180, 3) := by decide +kernel
theorem x_343_116 : decode (q_code 343) 116 = .ok (.invokevirtual 214, 3) := by decide +kernel
theorem x_343_119 : decode (q_code 343) 119 = .ok (.aload_n 0, 1) := by decide +kernel
theorem x_343_120 : decode (q_code 343) 120 = .ok (.iload 5, 2) := by decide +kernel
theorem x_343_122 : decode (q_code 343) 122 = .ok (.invokevirtual 180, 3) := by decide +kernel
theorem x_343_125 : decode (q_code 343) 125 = .ok (.istore 5, 2) := by decide +kernel
theorem x_343_127 : decode (q_code 343) 127 = .ok (.goto (-115), 3) := by decide +kernel
theorem x_343_130 : decode (q_code 343) 130 = .ok (.aload_n 0, 1) := by decide +kernel
theorem x_343_131 : decode (q_code 343) 131 = .ok (.iload 4, 2) := by decide +kernel
theorem x_343_133 : decode (q_code 343) 133 = .ok (.invokevirtual 514, 3) := by decide +kernel
theorem x_343_136 : decode (q_code 343) 136 = .ok (.return_, 1) := by decide +kernel
theorem x_344_0 : decode (q_code 344) 0 = .ok (.aload_n 0, 1) := by decide +kernel
theorem x_344_1 : decode (q_code 344) 1 = .ok (.iload_n 1, 1) := by decide +kernel
theorem x_344_2 : decode (q_code 344) 2 = .ok (.iconst 0, 1) := by decide +kernel
theorem x_344_3 : decode (q_code 344) 3 = .ok (.invokevirtual 320, 3) := by decide +kernel
theorem x_344_6 : decode (q_code 344) 6 = .ok (.istore_n 3, 1) := by decide +kernel
theorem x_344_7 : decode (q_code 344) 7 = .ok (.aload_n 0, 1) := by decide +kernel
theorem x_344_8 : decode (q_code 344) 8 = .ok (.iload_n 1, 1) := by decide +kernel
theorem x_344_9 : decode (q_code 344) 9 = .ok (.iconst 1, 1) := by decide +kernel
theorem x_344_10 : decode (q_code 344) 10 = .ok (.invokevirtual 320, 3) := by decide +kernel
theorem x_344_13 : decode (q_code 344) 13 = .ok (.istore 4, 2) := by decide +kernel
theorem x_344_15 : decode (q_code 344) 15 = .ok (.aload_n 0, 1) := by decide +kernel
theorem x_344_16 : decode (q_code 344) 16 = .ok (.iload_n 1, 1) := by decide +kernel
theorem x_344_17 : decode (q_code 344) 17 = .ok (.iconst 2, 1) := by decide +kernel
theorem x_344_18 : decode (q_code 344) 18 = .ok (.invokevirtual 320, 3) := by decide +kernel
theorem x_344_21 : decode (q_code 344) 21 = .ok (.istore 5, 2) := by decide +kernel
theorem x_344_23 : decode (q_code 344) 23 = .ok (.aload_n 0, 1) := by decide +kernel
theorem x_344_24 : decode (q_code 344) 24 = .ok (.iload 5, 2) := by decide +kernel
theorem x_344_26 : decode (q_code 344) 26 = .ok (.invokevirtual 163, 3) := by decide +kernel
theorem x_344_29 : decode (q_code 344) 29 = .ok (.iconst 4, 1) := by decide +kernel
theorem x_344_30 : decode (q_code 344) 30 = .ok (.iadd, 1) := by decide +kernel
theorem x_344_31 : decode (q_code 344) 31 = .ok (.istore 6, 2) := by decide +kernel
theorem x_344_33 : decode (q_code 344) 33 = .ok (.aload_n 0, 1) := by decide +kernel
theorem x_344_34 : decode (q_code 344) 34 = .ok (.iload 5, 2) := by decide +kernel
theorem x_344_36 : decode (q_code 344) 36 = .ok (.invokevirtual 527, 3) := by decide +kernel
theorem x_344_39 : decode (q_code 344) 39 = .ok (.istore 7, 2) := by decide +kernel
theorem x_344_41 : decode (q_code 344) 41 = .ok (.aload_n 0, 1) := by decide +kernel
theorem x_344_42 : decode (q_code 344) 42 = .ok (.iload_n 2, 1) := by decide +kernel
theorem x_344_43 : decode (q_code 344) 43 = .ok (.iload 6, 2) := by decide +kernel
theorem x_344_45 : decode (q_code 344) 45 = .ok (.iload 7, 2) := by decide +kernel
theorem x_344_47 : decode (q_code 344) 47 = .ok (.invokevirtual 310, 3) := by decide +kernel
theorem x_344_50 : decode (q_code 344) 50 = .ok (.istore 8, 2) := by decide +kernel
theorem x_344_52 : decode (q_code 344) 52 = .ok (.aload_n 0, 1) := by decide +kernel
theorem x_344_53 : decode (q_code 344) 53 = .ok (.invokevirtual 508, 3) := by decide +kernel
theorem x_344_56 : decode (q_code 344) 56 = .ok (.istore 9, 2) := by decide +kernel
theorem x_344_58 : decode (q_code 344) 58 = .ok (.iload_n 2, 1) := by decide +kernel
theorem x_344_59 : decode (q_code 344) 59 = .ok (.invokestatic 174, 3) := by decide +kernel
theorem x_344_62 : decode (q_code 344) 62 = .ok (.istore 10, 2) := by decide +kernel
theorem x_344_64 : decode (q_code 344) 64 = .ok (.iload 10, 2) := by decide +kernel
theorem x_344_66 : decode (q_code 344) 66 = .ok (.aload_n 0, 1) := by decide +kernel
theorem x_344_67 : decode (q_code 344) 67 = .ok (.iload_n 2, 1) := by decide +kernel
theorem x_344_68 : decode (q_code 344) 68 = .ok (.invokevirtual 177, 3) := by decide +kernel
theorem x_344_71 : decode (q_code 344) 71 = .ok (.if_icmp .ge 48, 3) := by decide +kernel
theorem x_344_74 : decode (q_code 344) 74 = .ok (.iload 10, 2) := by decide +kernel
theorem x_344_76 : decode (q_code 344) 76 = .ok (.iload 8, 2) := by decide +kernel
theorem x_344_78 : decode (q_code 344) 78 = .ok (.if_icmp .ne 18, 3) := by decide +kernel
theorem x_344_81 : decode (q_code 344) 81 = .ok (.aload_n 0, 1) := by decide +kernel
theorem x_344_82 : decode (q_code 344) 82 = .ok (.iload_n 3, 1) := by decide +kernel
theorem x_344_83 : decode (q_code 344) 83 = .ok (.iload 4, 2) := by decide +kernel
theorem x_344_85 : decode (q_code 344) 85 = .ok (.iload 6, 2) := by decide +kernel
theorem x_344_87 : decode (q_code 344) 87 = .ok (.iload 7, 2) := by decide +kernel
theorem x_344_89 : decode (q_code 344) 89 = .ok (.iload_n 2, 1) := by decide +kernel
theorem x_344_90 : decode (q_code 344) 90 = .ok (.invokevirtual 661, 3) := by decide +kernel
theorem x_344_93 : decode (q_code 344) 93 = .ok (.goto 15, 3) := by decide +kernel
theorem x_344_96 : decode (q_code 344) 96 = .ok (.aload_n 0, 1) := by decide +kernel
theorem x_344_97 : decode (q_code 344) 97 = .ok (.iload 10, 2) := by decide +kernel
theorem x_344_99 : decode (q_code 344) 99 = .ok (.aload_n 0, 1) := by decide +kernel
theorem x_344_100 : decode (q_code 344) 100 = .ok (.iload 10, 2) := by decide +kernel
theorem x_344_102 : decode (q_code 344) 102 = .ok (.invokevirtual 180, 3) := by decide +kernel
theorem x_344_105 : decode (q_code 344) 105 = .ok (.invokevirtual 214, 3) := by decide +kernel
theorem x_344_108 : decode (q_code 344) 108 = .ok (.aload_n 0, 1) := by decide +kernel
theorem x_344_109 : decode (q_code 344) 109 = .ok (.iload 10, 2) := by decide +kernel
theorem x_344_111 : decode (q_code 344) 111 = .ok (.invokevirtual 180, 3) := by decide +kernel
theorem x_344_114 : decode (q_code 344) 114 = .ok (.istore 10, 2) := by decide +kernel
theorem x_344_116 : decode (q_code 344) 116 = .ok (.goto (-52), 3) := by decide +kernel
theorem x_344_119 : decode (q_code 344) 119 = .ok (.iload 8, 2) := by decide +kernel
theorem x_344_121 : decode (q_code 344) 121 = .ok (.iconst (-1), 1) := by decide +kernel
theorem x_344_122 : decode (q_code 344) 122 = .ok (.if_icmp .ne 15, 3) := by decide +kernel
theorem x_344_125 : decode (q_code 344) 125 = .ok (.aload_n 0, 1) := by decide +kernel
theorem x_344_126 : decode (q_code 344) 126 = .ok (.iload_n 3, 1) := by decide +kernel
theorem x_344_127 : decode (q_code 344) 127 = .ok (.iload 4, 2) := by decide +kernel
theorem x_344_129 : decode (q_code 344) 129 = .ok (.iload 6, 2) := by decide +kernel
theorem x_344_131 : decode (q_code 344) 131 = .ok (.iload 7, 2) := by decide +kernel
theorem x_344_133 : decode (q_code 344) 133 = .ok (.iload_n 2, 1) := by decide +kernel
theorem x_344_134 : decode (q_code 344) 134 = .ok (.invokevirtual 661, 3) := by decide +kernel
theorem x_344_137 : decode (q_code 344) 137 = .ok (.aload_n 0, 1) := by decide +kernel
theorem x_344_138 : decode (q_code 344) 138 = .ok (.iload 9, 2) := by decide +kernel
theorem x_344_140 : decode (q_code 344) 140 = .ok (.invokevirtual 514, 3) := by decide +kernel
theorem x_344_143 : decode (q_code 344) 143 = .ok (.aload_n 0, 1) := by decide +kernel
theorem x_344_144 : decode (q_code 344) 144 = .ok (.iload 9, 2) := by decide +kernel
theorem x_344_146 : decode (q_code 344) 146 = .ok (.invokevirtual 652, 3) := by decide +kernel
theorem x_344_149 : decode (q_code 344) 149 = .ok (.return_, 1) := by decide +kernel
theorem x_345_0 : decode (q_code 345) 0 = .ok (.iload_n 1, 1) := by decide +kernel
theorem x_345_1 : decode (q_code 345) 1 = .ok (.istore_n 2, 1) := by decide +kernel
theorem x_345_2 : decode (q_code 345) 2 = .ok (.iload_n 1, 1) := by decide +kernel
theorem x_345_3 : decode (q_code 345) 3 = .ok (.istore_n 3, 1) := by decide +kernel
theorem x_345_4 : decode (q_code 345) 4 = .ok (.iload_n 3, 1) := by decide +kernel
theorem x_345_5 : decode (q_code 345) 5 = .ok (.aload_n 0, 1) := by decide +kernel
theorem x_345_6 : decode (q_code 345) 6 = .ok (.getfield 297, 3) := by decide +kernel
theorem x_345_9 : decode (q_code 345) 9 = .ok (.if_icmp .ge 64, 3) := by decide +kernel
theorem x_345_12 : decode (q_code 345) 12 = .ok (.iload_n 1, 1) := by decide +kernel
theorem x_345_13 : decode (q_code 345) 13 = .ok (.istore 4, 2) := by decide +kernel
theorem x_345_15 : decode (q_code 345) 15 = .ok (.iload 4, 2) := by decide +kernel
theorem x_345_17 : decode (q_code 345) 17 = .ok (.iload_n 2, 1) := by decide +kernel
theorem x_345_18 : decode (q_code 345) 18 = .ok (.if_icmp .ge 25, 3) := by decide +kernel
theorem x_345_21 : decode (q_code 345) 21 = .ok (.aload_n 0, 1) := by decide +kernel
theorem x_345_22 : decode (q_code 345) 22 = .ok (.getfield 19, 3) := by decide +kernel
theorem x_345_25 : decode (q_code 345) 25 = .ok (.iload 4, 2) := by decide +kernel
theorem x_345_27 : decode (q_code 345) 27 = .ok (.iaload, 1) := by decide +kernel
theorem x_345_28 : decode (q_code 345) 28 = .ok (.aload_n 0, 1) := by decide +kernel
theorem x_345_29 : decode (q_code 345) 29 = .ok (.getfield 19, 3) := by decide +kernel
theorem x_345_32 : decode (q_code 345) 32 = .ok (.iload_n 3, 1) := by decide +kernel
theorem x_345_33 : decode (q_code 345) 33 = .ok (.iaload, 1) := by decide +kernel
theorem x_345_34 : decode (q_code 345) 34 = .ok (.if_icmp .eq 9, 3) := by decide +kernel
theorem x_345_37 : decode (q_code 345) 37 = .ok (.iinc 4 1, 3) := by decide +kernel
theorem x_345_40 : decode (q_code 345) 40 = .ok (.goto (-25), 3) := by decide +kernel
theorem x_345_43 : decode (q_code 345) 43 = .ok (.iload 4, 2) := by decide +kernel
theorem x_345_45 : decode (q_code 345) 45 = .ok (.iload_n 2, 1) := by decide +kernel
theorem x_345_46 : decode (q_code 345) 46 = .ok (.if_icmp .ge 6, 3) := by decide +kernel
theorem x_345_49 : decode (q_code 345) 49 = .ok (.goto 18, 3) := by decide +kernel
theorem x_345_52 : decode (q_code 345) 52 = .ok (.aload_n 0, 1) := by decide +kernel
theorem x_345_53 : decode (q_code 345) 53 = .ok (.getfield 19, 3) := by decide +kernel
theorem x_345_56 : decode (q_code 345) 56 = .ok (.iload_n 2, 1) := by decide +kernel
theorem x_345_57 : decode (q_code 345) 57 = .ok (.aload_n 0, 1) := by decide +kernel
theorem x_345_58 : decode (q_code 345) 58 = .ok (.getfield 19, 3) := by decide +kernel
theorem x_345_61 : decode (q_code 345) 61 = .ok (.iload_n 3, 1) := by decide +kernel
theorem x_345_62 : decode (q_code 345) 62 = .ok (.iaload, 1) := by decide +kernel
theorem x_345_63 : decode (q_code 345) 63 = .ok (.iastore, 1) := by decide +kernel
theorem x_345_64 : decode (q_code 345) 64 = .ok (.iinc 2 1, 3) := by decide +kernel
theorem x_345_67 : decode (q_code 345) 67 = .ok (.iinc 3 1, 3) := by decide +kernel
theorem x_345_70 : decode (q_code 345) 70 = .ok (.goto (-66), 3) := by decide +kernel
theorem x_345_73 : decode (q_code 345) 73 = .ok (.aload_n 0, 1) := by decide +kernel
theorem x_345_74 : decode (q_code 345) 74 = .ok (.iload_n 2, 1) := by decide +kernel
theorem x_345_75 : decode (q_code 345) 75 = .ok (.putfield 297, 3) := by decide +kernel
theorem x_345_78 : decode (q_code 345) 78 = .ok (.return_, 1) := by decide +kernel
theorem x_346_0 : decode (q_code 346) 0 = .ok (.aload_n 0, 1) := by decide +kernel
theorem x_346_1 : decode (q_code 346) 1 = .ok (.iconst 4, 1) := by decide +kernel
theorem x_346_2 : decode (q_code 346) 2 = .ok (.invokevirtual 204, 3) := by decide +kernel
theorem x_346_5 : decode (q_code 346) 5 = .ok (.aload_n 0, 1) := by decide +kernel
theorem x_346_6 : decode (q_code 346) 6 = .ok (.iload_n 3, 1) := by decide +kernel
theorem x_346_7 : decode (q_code 346) 7 = .ok (.iload 4, 2) := by decide +kernel
theorem x_346_9 : decode (q_code 346) 9 = .ok (.invokevirtual 214, 3) := by decide +kernel
theorem x_346_12 : decode (q_code 346) 12 = .ok (.aload_n 0, 1) := by decide +kernel
theorem x_346_13 : decode (q_code 346) 13 = .ok (.iconst 0, 1) := by decide +kernel
theorem x_346_14 : decode (q_code 346) 14 = .ok (.invokevirtual 204, 3) := by decide +kernel
theorem x_346_17 : decode (q_code 346) 17 = .ok (.aload_n 0, 1) := by decide +kernel
theorem x_346_18 : decode (q_code 346) 18 = .ok (.invokevirtual 508, 3) := by decide +kernel
theorem x_346_21 : decode (q_code 346) 21 = .ok (.istore 6, 2) := by decide +kernel
theorem x_346_23 : decode (q_code 346) 23 = .ok (.iconst 0, 1) := by decide +kernel
theorem x_346_24 : decode (q_code 346) 24 = .ok (.istore 7, 2) := by decide +kernel
theorem x_346_26 : decode (q_code 346) 26 = .ok (.aload_n 0, 1) := by decide +kernel
theorem x_346_27 : decode (q_code 346) 27 = .ok (.getfield 297, 3) := by decide +kernel
theorem x_346_30 : decode (q_code 346) 30 = .ok (.istore 8, 2) := by decide +kernel
theorem x_346_32 : decode (q_code 346) 32 = .ok (.aload_n 0, 1) := by decide +kernel
theorem x_346_33 : decode (q_code 346) 33 = .ok (.iload 5, 2) := by decide +kernel
theorem x_346_35 : decode (q_code 346) 35 = .ok (.aload_n 0, 1) := by decide +kernel
theorem x_346_36 : decode (q_code 346) 36 = .ok (.iload_n 1, 1) := by decide +kernel
theorem x_346_37 : decode (q_code 346) 37 = .ok (.invokevirtual 163, 3) := by decide +kernel
theorem x_346_40 : decode (q_code 346) 40 = .ok (.iconst 4, 1) := by decide +kernel
theorem x_346_41 : decode (q_code 346) 41 = .ok (.iadd, 1) := by decide +kernel
theorem x_346_42 : decode (q_code 346) 42 = .ok (.aload_n 0, 1) := by decide +kernel
theorem x_346_43 : decode (q_code 346) 43 = .ok (.iload_n 1, 1) := by decide +kernel
theorem x_346_44 : decode (q_code 346) 44 = .ok (.invokevirtual 527, 3) := by decide +kernel
theorem x_346_47 : decode (q_code 346) 47 = .ok (.invokevirtual 665, 3) := by decide +kernel
theorem x_346_50 : decode (q_code 346) 50 = .ok (.istore 9, 2) := by decide +kernel
theorem x_346_52 : decode (q_code 346) 52 = .ok (.iload 9, 2) := by decide +kernel
theorem x_346_54 : decode (q_code 346) 54 = .ok (.aload_n 0, 1) := by decide +kernel
theorem x_346_55 : decode (q_code 346) 55 = .ok (.getfield 297, 3) := by decide +kernel
theorem x_346_58 : decode (q_code 346) 58 = .ok (.if_icmp .ne 8, 3) := by decide +kernel
theorem x_346_61 : decode (q_code 346) 61 = .ok (.aload_n 0, 1) := by decide +kernel
theorem x_346_62 : decode (q_code 346) 62 = .ok (.iconst (-1), 1) := by decide +kernel
theorem x_346_63 : decode (q_code 346) 63 = .ok (.invokevirtual 300, 3) := by decide +kernel
theorem x_346_66 : decode (q_code 346) 66 = .ok (.aload_n 0, 1) := by decide +kernel
theorem x_346_67 : decode (q_code 346) 67 = .ok (.iload 9, 2) := by decide +kernel
theorem x_346_69 : decode (q_code 346) 69 = .ok (.invokevirtual 668, 3) := by decide +kernel
theorem x_346_72 : decode (q_code 346) 72 = .ok (.aload_n 0, 1) := by decide +kernel
theorem x_346_73 : decode (q_code 346) 73 = .ok (.getfield 297, 3) := by decide +kernel
theorem x_346_76 : decode (q_code 346) 76 = .ok (.istore 10, 2) := by decide +kernel
theorem x_346_78 : decode (q_code 346) 78 = .ok (.iconst 0, 1) := by decide +kernel
theorem x_346_79 : decode (q_code 346) 79 = .ok (.istore 11, 2) := by decide +kernel
theorem x_346_81 : decode (q_code 346) 81 = .ok (.iload 11, 2) := by decide +kernel
theorem x_346_83 : decode (q_code 346) 83 = .ok (.aload_n 0, 1) := by decide +kernel
theorem x_346_84 : decode (q_code 346) 84 = .ok (.getfield 671, 3) := by decide +kernel
theorem x_346_87 : decode (q_code 346) 87 = .ok (.if_icmp .ge 187, 3) := by decide +kernel
theorem x_346_90 : decode (q_code 346) 90 = .ok (.aload_n 0, 1) := by decide +kernel
theorem x_346_91 : decode (q_code 346) 91 = .ok (.aload_n 0, 1) := by decide +kernel
theorem x_346_92 : decode (q_code 346) 92 = .ok (.getfield 28, 3) := by decide +kernel
theorem x_346_95 : decode (q_code 346) 95 = .ok (.iload 11, 2) := by decide +kernel
theorem x_346_97 : decode (q_code 346) 97 = .ok (.iaload, 1) := by decide +kernel
theorem x_346_98 : decode (q_code 346) 98 = .ok (.aload_n 0, 1) := by decide +kernel
theorem x_346_99 : decode (q_code 346) 99 = .ok (.iload_n 2, 1) := by decide +kernel
theorem x_346_100 : decode (q_code 346) 100 = .ok (.invokevirtual 163, 3) := by decide +kernel
theorem x_346_103 : decode (q_code 346) 103 = .ok (.iconst 4, 1) := by decide +kernel
theorem x_346_104 : decode (q_code 346) 104 = .ok (.iadd, 1) := by decide +kernel
theorem x_346_105 : decode (q_code 346) 105 = .ok (.aload_n 0, 1) := by decide +kernel
theorem x_346_106 : decode (q_code 346) 106 = .ok (.iload_n 2, 1) := by decide +kernel
theorem x_346_107 : decode (q_code 346) 107 = .ok (.invokevirtual 527, 3) := by decide +kernel
theorem x_346_110 : decode (q_code 346) 110 = .ok (.invokevirtual 665, 3) := by decide +kernel
theorem x_346_113 : decode (q_code 346) 113 = .ok (.istore 12, 2) := by decide +kernel
theorem x_346_115 : decode (q_code 346) 115 = .ok (.iload 12, 2) := by decide +kernel
theorem x_346_117 : decode (q_code 346) 117 = .ok (.aload_n 0, 1) := by decide +kernel
theorem x_346_118 : decode (q_code 346) 118 = .ok (.getfield 297, 3) := by decide +kernel
theorem x_346_121 : decode (q_code 346) 121 = .ok (.if_icmp .ne 8, 3) := by decide +kernel
theorem x_346_124 : decode (q_code 346) 124 = .ok (.aload_n 0, 1) := by decide +kernel
theorem x_346_125 : decode (q_code 346) 125 = .ok (.iconst (-1), 1) := by decide +kernel
theorem x_346_126 : decode (q_code 346) 126 = .ok (.invokevirtual 300, 3) := by decide +kernel
theorem x_346_129 : decode (q_code 346) 129 = .ok (.aload_n 0, 1) := by decide +kernel
theorem x_346_130 : decode (q_code 346) 130 = .ok (.iload 12, 2) := by decide +kernel
theorem x_346_132 : decode (q_code 346) 132 = .ok (.invokevirtual 668, 3) := by decide +kernel
theorem x_346_135 : decode (q_code 346) 135 = .ok (.iconst 0, 1) := by decide +kernel
theorem x_346_136 : decode (q_code 346) 136 = .ok (.istore 13, 2) := by decide +kernel
theorem x_346_138 : decode (q_code 346) 138 = .ok (.iload 9, 2) := by decide +kernel
theorem x_346_140 : decode (q_code 346) 140 = .ok (.istore 14, 2) := by decide +kernel
theorem x_346_142 : decode (q_code 346) 142 = .ok (.iload 14, 2) := by decide +kernel
theorem x_346_144 : decode (q_code 346) 144 = .ok (.iload 10, 2) := by decide +kernel
theorem x_346_146 : decode (q_code 346) 146 = .ok (.if_icmp .ge 64, 3) := by decide +kernel
theorem x_346_149 : decode (q_code 346) 149 = .ok (.iload 13, 2) := by decide +kernel
theorem x_346_151 : decode (q_code 346) 151 = .ok (.ifCond .ne 59, 3) := by decide +kernel
theorem x_346_154 : decode (q_code 346) 154 = .ok (.iload 12, 2) := by decide +kernel
theorem x_346_156 : decode (q_code 346) 156 = .ok (.istore 15, 2) := by decide +kernel
theorem x_346_158 : decode (q_code 346) 158 = .ok (.iload 15, 2) := by decide +kernel
theorem x_346_160 : decode (q_code 346) 160 = .ok (.aload_n 0, 1) := by decide +kernel
theorem x_346_161 : decode (q_code 346) 161 = .ok (.getfield 297, 3) := by decide +kernel
theorem x_346_164 : decode (q_code 346) 164 = .ok (.if_icmp .ge 40, 3) := by decide +kernel
theorem x_346_167 : decode (q_code 346) 167 = .ok (.iload 13, 2) := by decide +kernel
theorem x_346_169 : decode (q_code 346) 169 = .ok (.ifCond .ne 35, 3) := by decide +kernel
theorem x_346_172 : decode (q_code 346) 172 = .ok (.aload_n 0, 1) := by decide +kernel
theorem x_346_173 : decode (q_code 346) 173 = .ok (.aload_n 0, 1) := by decide +kernel
theorem x_346_174 : decode (q_code 346) 174 = .ok (.getfield 19, 3) := by decide +kernel
theorem x_346_177 : decode (q_code 346) 177 = .ok (.iload 14, 2) := by decide +kernel
theorem x_346_179 : decode (q_code 346) 179 = .ok (.iaload, 1) := by decide +kernel
theorem x_346_180 : decode (q_code 346) 180 = .ok (.invokestatic 674, 3) := by decide +kernel
theorem x_346_183 : decode (q_code 346) 183 = .ok (.aload_n 0, 1) := by decide +kernel
theorem x_346_184 : decode (q_code 346) 184 = .ok (.getfield 19, 3) := by decide +kernel
theorem x_346_187 : decode (q_code 346) 187 = .ok (.iload 15, 2) := by decide +kernel
theorem x_346_189 : decode (q_code 346) 189 = .ok (.iaload, 1) := by decide +kernel
theorem x_346_190 : decode (q_code 346) 190 = .ok (.invokestatic 674, 3) := by decide +kernel
theorem x_346_193 : decode (q_code 346) 193 = .ok (.invokevirtual 423, 3) := by decide +kernel
theorem x_346_196 : decode (q_code 346) 196 = .ok (.istore 13, 2) := by decide +kernel
theorem x_346_198 : decode (q_code 346) 198 = .ok (.iinc 15 1, 3) := by decide +kernel
theorem x_346_201 : decode (q_code 346) 201 = .ok (.goto (-43), 3) := by decide +kernel
theorem x_346_204 : decode (q_code 346) 204 = .ok (.iinc 14 1, 3) := by decide +kernel
theorem x_346_207 : decode (q_code 346) 207 = .ok (.goto (-65), 3) := by decide +kernel
theorem x_346_210 : decode (q_code 346) 210 = .ok (.aload_n 0, 1) := by decide +kernel
theorem x_346_211 : decode (q_code 346) 211 = .ok (.iload 10, 2) := by decide +kernel
theorem x_346_213 : decode (q_code 346) 213 = .ok (.putfield 297, 3) := by decide +kernel
theorem x_346_216 : decode (q_code 346) 216 = .ok (.iload 13, 2) := by decide +kernel
theorem x_346_218 : decode (q_code 346) 218 = .ok (.ifCond .ne 6, 3) := by decide +kernel
theorem x_346_221 : decode (q_code 346) 221 = .ok (.goto 47, 3) := by decide +kernel
theorem x_346_224 : decode (q_code 346) 224 = .ok (.aload_n 0, 1) := by decide +kernel
theorem x_346_225 : decode (q_code 346) 225 = .ok (.iconst 3, 1) := by decide +kernel
theorem x_346_226 : decode (q_code 346) 226 = .ok (.invokevirtual 204, 3) := by decide +kernel
theorem x_346_229 : decode (q_code 346) 229 = .ok (.aload_n 0, 1) := by decide +kernel
theorem x_346_230 : decode (q_code 346) 230 = .ok (.iload 7, 2) := by decide +kernel
theorem x_346_232 : decode (q_code 346) 232 = .ok (.invokevirtual 511, 3) := by decide +kernel
theorem x_346_235 : decode (q_code 346) 235 = .ok (.aload_n 0, 1) := by decide +kernel
theorem x_346_236 : decode (q_code 346) 236 = .ok (.aload_n 0, 1) := by decide +kernel
theorem x_346_237 : decode (q_code 346) 237 = .ok (.getfield 28, 3) := by decide +kernel
theorem x_346_240 : decode (q_code 346) 240 = .ok (.iload 11, 2) := by decide +kernel
theorem x_346_242 : decode (q_code 346) 242 = .ok (.iaload, 1) := by decide +kernel
theorem x_346_243 : decode (q_code 346) 243 = .ok (.aload_n 0, 1) := by decide +kernel
theorem x_346_244 : decode (q_code 346) 244 = .ok (.getfield 28, 3) := by decide +kernel
theorem x_346_247 : decode (q_code 346) 247 = .ok (.iload 11, 2) := by decide +kernel
theorem x_346_249 : decode (q_code 346) 249 = .ok (.iaload, 1) := by decide +kernel
theorem x_346_250 : decode (q_code 346) 250 = .ok (.aload_n 0, 1) := by decide +kernel
theorem x_346_251 : decode (q_code 346) 251 = .ok (.aload_n 0, 1) := by decide +kernel
theorem x_346_252 : decode (q_code 346) 252 = .ok (.getfield 28, 3) := by decide +kernel
theorem x_346_255 : decode (q_code 346) 255 = .ok (.iload 11, 2) := by decide +kernel
theorem x_346_257 : decode (q_code 346) 257 = .ok (.iaload, 1) := by decide +kernel
theorem x_346_258 : decode (q_code 346) 258 = .ok (.invokevirtual 145, 3) := by decide +kernel
theorem x_346_261 : decode (q_code 346) 261 = .ok (.iadd, 1) := by decide +kernel
theorem x_346_262 : decode (q_code 346) 262 = .ok (.invokevirtual 214, 3) := by decide +kernel
theorem x_346_265 : decode (q_code 346) 265 = .ok (.iinc 7 1, 3) := by decide +kernel
theorem x_346_268 : decode (q_code 346) 268 = .ok (.iinc 11 1, 3) := by decide +kernel
theorem x_346_271 : decode (q_code 346) 271 = .ok (.goto (-190), 3) := by decide +kernel
theorem x_346_274 : decode (q_code 346) 274 = .ok (.aload_n 0, 1) := by decide +kernel
theorem x_346_275 : decode (q_code 346) 275 = .ok (.iload 8, 2) := by decide +kernel
theorem x_346_277 : decode (q_code 346) 277 = .ok (.putfield 297, 3) := by decide +kernel
theorem x_346_280 : decode (q_code 346) 280 = .ok (.aload_n 0, 1) := by decide +kernel
theorem x_346_281 : decode (q_code 346) 281 = .ok (.iload 6, 2) := by decide +kernel
theorem x_346_283 : decode (q_code 346) 283 = .ok (.invokevirtual 514, 3) := by decide +kernel
theorem x_346_286 : decode (q_code 346) 286 = .ok (.return_, 1) := by decide +kernel
theorem x_347_0 : decode (q_code 347) 0 = .ok (.aload_n 0, 1) := by decide +kernel
theorem x_347_1 : decode (q_code 347) 1 = .ok (.iload_n 1, 1) := by decide +kernel
theorem x_347_2 : decode (q_code 347) 2 = .ok (.iload_n 2, 1) := by decide +kernel
theorem x_347_3 : decode (q_code 347) 3 = .ok (.invokevirtual 646, 3) := by decide +kernel
theorem x_347_6 : decode (q_code 347) 6 = .ok (.invokestatic 674, 3) := by decide +kernel
theorem x_347_9 : decode (q_code 347) 9 = .ok (.istore 4, 2) := by decide +kernel
theorem x_347_11 : decode (q_code 347) 11 = .ok (.aload_n 0, 1) := by decide +kernel
theorem x_347_12 : decode (q_code 347) 12 = .ok (.iload_n 1, 1) := by decide +kernel
theorem x_347_13 : decode (q_code 347) 13 = .ok (.iload_n 3, 1) := by decide +kernel
theorem x_347_14 : decode (q_code 347) 14 = .ok (.invokevirtual 551, 3) := by decide +kernel
theorem x_347_17 : decode (q_code 347) 17 = .ok (.invokestatic 674, 3) := by decide +kernel
theorem x_347_20 : decode (q_code 347) 20 = .ok (.istore 5, 2) := by decide +kernel
theorem x_347_22 : decode (q_code 347) 22 = .ok (.aload_n 0, 1) := by decide +kernel
theorem x_347_23 : decode (q_code 347) 23 = .ok (.iload 4, 2) := by decide +kernel
theorem x_347_25 : decode (q_code 347) 25 = .ok (.iload 5, 2) := by decide +kernel
theorem x_347_27 : decode (q_code 347) 27 = .ok (.invokevirtual 423, 3) := by decide +kernel
theorem x_347_30 : decode (q_code 347) 30 = .ok (.ireturn, 1) := by decide +kernel
theorem x_348_0 : decode (q_code 348) 0 = .ok (.iload_n 1, 1) := by decide +kernel
theorem x_348_1 : decode (q_code 348) 1 = .ok (.invokestatic 174, 3) := by decide +kernel
theorem x_348_4 : decode (q_code 348) 4 = .ok (.istore_n 2, 1) := by decide +kernel
theorem x_348_5 : decode (q_code 348) 5 = .ok (.aload_n 0, 1) := by decide +kernel
theorem x_348_6 : decode (q_code 348) 6 = .ok (.iconst 0, 1) := by decide +kernel
theorem x_348_7 : decode (q_code 348) 7 = .ok (.putfield 677, 3) := by decide +kernel
theorem x_348_10 : decode (q_code 348) 10 = .ok (.iconst 0, 1) := by decide +kernel
theorem x_348_11 : decode (q_code 348) 11 = .ok (.istore_n 3, 1) := by decide +kernel
theorem x_348_12 : decode (q_code 348) 12 = .ok (.iload_n 3, 1) := by decide +kernel
theorem x_348_13 : decode (q_code 348) 13 = .ok (.aload_n 0, 1) := by decide +kernel
theorem x_348_14 : decode (q_code 348) 14 = .ok (.getfield 622, 3) := by decide +kernel
theorem x_348_17 : decode (q_code 348) 17 = .ok (.if_icmp .ge 88, 3) := by decide +kernel
theorem x_348_20 : decode (q_code 348) 20 = .ok (.iconst 0, 1) := by decide +kernel
theorem x_348_21 : decode (q_code 348) 21 = .ok (.istore 4, 2) := by decide +kernel
theorem x_348_23 : decode (q_code 348) 23 = .ok (.iload 4, 2) := by decide +kernel
theorem x_348_25 : decode (q_code 348) 25 = .ok (.aload_n 0, 1) := by decide +kernel
theorem x_348_26 : decode (q_code 348) 26 = .ok (.getfield 677, 3) := by decide +kernel
theorem x_348_29 : decode (q_code 348) 29 = .ok (.if_icmp .ge 35, 3) := by decide +kernel
theorem x_348_32 : decode (q_code 348) 32 = .ok (.aload_n 0, 1) := by decide +kernel
theorem x_348_33 : decode (q_code 348) 33 = .ok (.iload_n 2, 1) := by decide +kernel
theorem x_348_34 : decode (q_code 348) 34 = .ok (.aload_n 0, 1) := by decide +kernel
theorem x_348_35 : decode (q_code 348) 35 = .ok (.getfield 25, 3) := by decide +kernel
theorem x_348_38 : decode (q_code 348) 38 = .ok (.iload_n 3, 1) := by decide +kernel
theorem x_348_39 : decode (q_code 348) 39 = .ok (.iaload, 1) := by decide +kernel
theorem x_348_40 : decode (q_code 348) 40 = .ok (.aload_n 0, 1) := by decide +kernel
theorem x_348_41 : decode (q_code 348) 41 = .ok (.getfield 25, 3) := by decide +kernel
theorem x_348_44 : decode (q_code 348) 44 = .ok (.aload_n 0, 1) := by decide +kernel
theorem x_348_45 : decode (q_code 348) 45 = .ok (.getfield 37, 3) := by decide +kernel
theorem x_348_48 : decode (q_code 348) 48 = .ok (.iload 4, 2) := by decide +kernel
theorem x_348_50 : decode (q_code 348) 50 = .ok (.iaload, 1) := by decide +kernel
theorem x_348_51 : decode (q_code 348) 51 = .ok (.iaload, 1) := by decide +kernel
theorem x_348_52 : decode (q_code 348) 52 = .ok (.invokevirtual 680, 3) := by decide +kernel
theorem x_348_55 : decode (q_code 348) 55 = .ok (.ifCond .ne 9, 3) := by decide +kernel
theorem x_348_58 : decode (q_code 348) 58 = .ok (.iinc 4 1, 3) := by decide +kernel
theorem x_348_61 : decode (q_code 348) 61 = .ok (.goto (-38), 3) := by decide +kernel
theorem x_348_64 : decode (q_code 348) 64 = .ok (.aload_n 0, 1) := by decide +kernel
theorem x_348_65 : decode (q_code 348) 65 = .ok (.getfield 34, 3) := by decide +kernel
theorem x_348_68 : decode (q_code 348) 68 = .ok (.iload_n 3, 1) := by decide +kernel
theorem x_348_69 : decode (q_code 348) 69 = .ok (.iload 4, 2) := by decide +kernel
theorem x_348_71 : decode (q_code 348) 71 = .ok (.iastore, 1) := by decide +kernel
theorem x_348_72 : decode (q_code 348) 72 = .ok (.iload 4, 2) := by decide +kernel
theorem x_348_74 : decode (q_code 348) 74 = .ok (.aload_n 0, 1) := by decide +kernel
theorem x_348_75 : decode (q_code 348) 75 = .ok (.getfield 677, 3) := by decide +kernel
theorem x_348_78 : decode (q_code 348) 78 = .ok (.if_icmp .ne 21, 3) := by decide +kernel
theorem x_348_81 : decode (q_code 348) 81 = .ok (.aload_n 0, 1) := by decide +kernel
theorem x_348_82 : decode (q_code 348) 82 = .ok (.getfield 37, 3) := by decide +kernel
theorem x_348_85 : decode (q_code 348) 85 = .ok (.iload 4, 2) := by decide +kernel
theorem x_348_87 : decode (q_code 348) 87 = .ok (.iload_n 3, 1) := by decide +kernel
theorem x_348_88 : decode (q_code 348) 88 = .ok (.iastore, 1) := by decide +kernel
theorem x_348_89 : decode (q_code 348) 89 = .ok (.aload_n 0, 1) := by decide +kernel
theorem x_348_90 : decode (q_code 348) 90 = .ok (.dup, 1) := by decide +kernel
theorem x_348_91 : decode (q_code 348) 91 = .ok (.getfield 677, 3) := by decide +kernel
theorem x_348_94 : decode (q_code 348) 94 = .ok (.iconst 1, 1) := by decide +kernel
theorem x_348_95 : decode (q_code 348) 95 = .ok (.iadd, 1) := by decide +kernel
theorem x_348_96 : decode (q_code 348) 96 = .ok (.putfield 677, 3) := by decide +kernel
theorem x_348_99 : decode (q_code 348) 99 = .ok (.iinc 3 1, 3) := by decide +kernel
theorem x_348_102 : decode (q_code 348) 102 = .ok (.goto (-90), 3) := by decide +kernel
theorem x_348_105 : decode (q_code 348) 105 = .ok (.aload_n 0, 1) := by decide +kernel
theorem x_348_106 : decode (q_code 348) 106 = .ok (.iconst 1, 1) := by decide +kernel
theorem x_348_107 : decode (q_code 348) 107 = .ok (.putfield 683, 3) := by decide +kernel
theorem x_348_110 : decode (q_code 348) 110 = .ok (.iconst 0, 1) := by decide +kernel
theorem x_348_111 : decode (q_code 348) 111 = .ok (.istore_n 3, 1) := by decide +kernel
theorem x_348_112 : decode (q_code 348) 112 = .ok (.iload_n 3, 1) := by decide +kernel
theorem x_348_113 : decode (q_code 348) 113 = .ok (.aload_n 0, 1) := by decide +kernel
theorem x_348_114 : decode (q_code 348) 114 = .ok (.getfield 677, 3) := by decide +kernel
theorem x_348_117 : decode (q_code 348) 117 = .ok (.if_icmp .ge 102, 3) := by decide +kernel
theorem x_348_120 : decode (q_code 348) 120 = .ok (.aload_n 0, 1) := by decide +kernel
theorem x_348_121 : decode (q_code 348) 121 = .ok (.invokevirtual 508, 3) := by decide +kernel
theorem x_348_124 : decode (q_code 348) 124 = .ok (.istore 4, 2) := by decide +kernel
theorem x_348_126 : decode (q_code 348) 126 = .ok (.aload_n 0, 1) := by decide +kernel
theorem x_348_127 : decode (q_code 348) 127 = .ok (.iload_n 2, 1) := by decide +kernel
theorem x_348_128 : decode (q_code 348) 128 = .ok (.iconst 1, 1) := by decide +kernel
theorem x_348_129 : decode (q_code 348) 129 = .ok (.iadd, 1) := by decide +kernel
theorem x_348_130 : decode (q_code 348) 130 = .ok (.aload_n 0, 1) := by decide +kernel
theorem x_348_131 : decode (q_code 348) 131 = .ok (.iload_n 2, 1) := by decide +kernel
theorem x_348_132 : decode (q_code 348) 132 = .ok (.invokevirtual 160, 3) := by decide +kernel
theorem x_348_135 : decode (q_code 348) 135 = .ok (.aload_n 0, 1) := by decide +kernel
theorem x_348_136 : decode (q_code 348) 136 = .ok (.iload_n 2, 1) := by decide +kernel
theorem x_348_137 : decode (q_code 348) 137 = .ok (.aload_n 0, 1) := by decide +kernel
theorem x_348_138 : decode (q_code 348) 138 = .ok (.getfield 25, 3) := by decide +kernel
theorem x_348_141 : decode (q_code 348) 141 = .ok (.aload_n 0, 1) := by decide +kernel
theorem x_348_142 : decode (q_code 348) 142 = .ok (.getfield 37, 3) := by decide +kernel
theorem x_348_145 : decode (q_code 348) 145 = .ok (.iload_n 3, 1) := by decide +kernel
theorem x_348_146 : decode (q_code 348) 146 = .ok (.iaload, 1) := by decide +kernel
theorem x_348_147 : decode (q_code 348) 147 = .ok (.iaload, 1) := by decide +kernel
theorem x_348_148 : decode (q_code 348) 148 = .ok (.invokevirtual 646, 3) := by decide +kernel
theorem x_348_151 : decode (q_code 348) 151 = .ok (.invokestatic 674, 3) := by decide +kernel
theorem x_348_154 : decode (q_code 348) 154 = .ok (.invokevirtual 649, 3) := by decide +kernel
theorem x_348_157 : decode (q_code 348) 157 = .ok (.aload_n 0, 1) := by decide +kernel
theorem x_348_158 : decode (q_code 348) 158 = .ok (.iload_n 2, 1) := by decide +kernel
theorem x_348_159 : decode (q_code 348) 159 = .ok (.invokevirtual 180, 3) := by decide +kernel
theorem x_348_162 : decode (q_code 348) 162 = .ok (.istore 5, 2) := by decide +kernel
theorem x_348_164 : decode (q_code 348) 164 = .ok (.iload 5, 2) := by decide +kernel
theorem x_348_166 : decode (q_code 348) 166 = .ok (.aload_n 0, 1) := by decide +kernel
theorem x_348_167 : decode (q_code 348) 167 = .ok (.iload_n 1, 1) := by decide +kernel
theorem x_348_168 : decode (q_code 348) 168 = .ok (.invokevirtual 177, 3) := by decide +kernel
theorem x_348_171 : decode (q_code 348) 171 = .ok (.if_icmp .ge 30, 3) := by decide +kernel
theorem x_348_174 : decode (q_code 348) 174 = .ok (.aload_n 0, 1) := by decide +kernel
theorem x_348_175 : decode (q_code 348) 175 = .ok (.iload 5, 2) := by decide +kernel
theorem x_348_177 : decode (q_code 348) 177 = .ok (.aload_n 0, 1) := by decide +kernel
theorem x_348_178 : decode (q_code 348) 178 = .ok (.iload 5, 2) := by decide +kernel
theorem x_348_180 : decode (q_code 348) 180 = .ok (.invokevirtual 163, 3) := by decide +kernel
theorem x_348_183 : decode (q_code 348) 183 = .ok (.invokestatic 174, 3) := by decide +kernel
theorem x_348_186 : decode (q_code 348) 186 = .ok (.iload_n 3, 1) := by decide +kernel
theorem x_348_187 : decode (q_code 348) 187 = .ok (.invokevirtual 686, 3) := by decide +kernel
theorem x_348_190 : decode (q_code 348) 190 = .ok (.aload_n 0, 1) := by decide +kernel
theorem x_348_191 : decode (q_code 348) 191 = .ok (.iload 5, 2) := by decide +kernel
theorem x_348_193 : decode (q_code 348) 193 = .ok (.invokevirtual 180, 3) := by decide +kernel
theorem x_348_196 : decode (q_code 348) 196 = .ok (.istore 5, 2) := by decide +kernel
theorem x_348_198 : decode (q_code 348) 198 = .ok (.goto (-34), 3) := by decide +kernel
theorem x_348_201 : decode (q_code 348) 201 = .ok (.aload_n 0, 1) := by decide +kernel
theorem x_348_202 : decode (q_code 348) 202 = .ok (.iload 4, 2) := by decide +kernel
theorem x_348_204 : decode (q_code 348) 204 = .ok (.invokevirtual 514, 3) := by decide +kernel
theorem x_348_207 : decode (q_code 348) 207 = .ok (.aload_n 0, 1) := by decide +kernel
theorem x_348_208 : decode (q_code 348) 208 = .ok (.iload 4, 2) := by decide +kernel
theorem x_348_210 : decode (q_code 348) 210 = .ok (.invokevirtual 652, 3) := by decide +kernel
theorem x_348_213 : decode (q_code 348) 213 = .ok (.iinc 3 1, 3) := by decide +kernel
theorem x_348_216 : decode (q_code 348) 216 = .ok (.goto (-104), 3) := by decide +kernel
theorem x_348_219 : decode (q_code 348) 219 = .ok (.aload_n 0, 1) := by decide +kernel
theorem x_348_220 : decode (q_code 348) 220 = .ok (.getfield 683, 3) := by decide +kernel
theorem x_348_223 : decode (q_code 348) 223 = .ok (.ireturn, 1) := by decide +kernel
theorem x_349_0 : decode (q_code 349) 0 = .ok (.aload_n 0, 1) := by decide +kernel
theorem x_349_1 : decode (q_code 349) 1 = .ok (.iload_n 1, 1) := by decide +kernel
theorem x_349_2 : decode (q_code 349) 2 = .ok (.invokevirtual 204, 3) := by decide +kernel
theorem x_349_5 : decode (q_code 349) 5 = .ok (.aload_n 0, 1) := by decide +kernel
theorem x_349_6 : decode (q_code 349) 6 = .ok (.iload_n 2, 1) := by decide +kernel
theorem x_349_7 : decode (q_code 349) 7 = .ok (.iconst 1, 1) := by decide +kernel
theorem x_349_8 : decode (q_code 349) 8 = .ok (.iadd, 1) := by decide +kernel
theorem x_349_9 : decode (q_code 349) 9 = .ok (.aload_n 0, 1) := by decide +kernel
theorem x_349_10 : decode (q_code 349) 10 = .ok (.iload_n 2, 1) := by decide +kernel
theorem x_349_11 : decode (q_code 349) 11 = .ok (.invokevirtual 160, 3) := by decide +kernel
theorem x_349_14 : decode (q_code 349) 14 = .ok (.invokevirtual 214, 3) := by decide +kernel
theorem x_349_17 : decode (q_code 349) 17 = .ok (.aload_n 0, 1) := by decide +kernel
theorem x_349_18 : decode (q_code 349) 18 = .ok (.iconst 0, 1) := by decide +kernel
theorem x_349_19 : decode (q_code 349) 19 = .ok (.invokevirtual 204, 3) := by decide +kernel
theorem x_349_22 : decode (q_code 349) 22 = .ok (.return_, 1) := by decide +kernel
theorem x_350_0 : decode (q_code 350) 0 = .ok (.aload_n 0, 1) := by decide +kernel
theorem x_350_1 : decode (q_code 350) 1 = .ok (.iload_n 2, 1) := by decide +kernel
theorem x_350_2 : decode (q_code 350) 2 = .ok (.ldc_w 596, 3) := by decide +kernel
theorem x_350_5 : decode (q_code 350) 5 = .ok (.invokevirtual 325, 3) := by decide +kernel
theorem x_350_8 : decode (q_code 350) 8 = .ok (.ifCond .ne 14, 3) := by decide +kernel
theorem x_350_11 : decode (q_code 350) 11 = .ok (.aload_n 0, 1) := by decide +kernel
theorem x_350_12 : decode (q_code 350) 12 = .ok (.iload_n 2, 1) := by decide +kernel
theorem x_350_13 : decode (q_code 350) 13 = .ok (.ldc_w 586, 3) := by decide +kernel
theorem x_350_16 : decode (q_code 350) 16 = .ok (.invokevirtual 325, 3) := by decide +kernel
theorem x_350_19 : decode (q_code 350) 19 = .ok (.ifCond .eq 13, 3) := by decide +kernel
theorem x_350_22 : decode (q_code 350) 22 = .ok (.aload_n 0, 1) := by decide +kernel
theorem x_350_23 : decode (q_code 350) 23 = .ok (.iload_n 1, 1) := by decide +kernel
theorem x_350_24 : decode (q_code 350) 24 = .ok (.iload_n 2, 1) := by decide +kernel
theorem x_350_25 : decode (q_code 350) 25 = .ok (.iload_n 3, 1) := by decide +kernel
theorem x_350_26 : decode (q_code 350) 26 = .ok (.invokevirtual 689, 3) := by decide +kernel
theorem x_350_29 : decode (q_code 350) 29 = .ok (.goto 139, 3) := by decide +kernel
theorem x_350_32 : decode (q_code 350) 32 = .ok (.aload_n 0, 1) := by decide +kernel
theorem x_350_33 : decode (q_code 350) 33 = .ok (.iload_n 2, 1) := by decide +kernel
theorem x_350_34 : decode (q_code 350) 34 = .ok (.ldc_w 435, 3) := by decide +kernel
theorem x_350_37 : decode (q_code 350) 37 = .ok (.invokevirtual 325, 3) := by decide +kernel
theorem x_350_40 : decode (q_code 350) 40 = .ok (.ifCond .ne 14, 3) := by decide +kernel
theorem x_350_43 : decode (q_code 350) 43 = .ok (.aload_n 0, 1) := by decide +kernel
theorem x_350_44 : decode (q_code 350) 44 = .ok (.iload_n 2, 1) := by decide +kernel
theorem x_350_45 : decode (q_code 350) 45 = .ok (.ldc_w 439, 3) := by decide +kernel
theorem x_350_48 : decode (q_code 350) 48 = .ok (.invokevirtual 325, 3) := by decide +kernel
theorem x_350_51 : decode (q_code 350) 51 = .ok (.ifCond .eq 26, 3) := by decide +kernel
theorem x_350_54 : decode (q_code 350) 54 = .ok (.aload_n 0, 1) := by decide +kernel
theorem x_350_55 : decode (q_code 350) 55 = .ok (.iconst 4, 1) := by decide +kernel
theorem x_350_56 : decode (q_code 350) 56 = .ok (.iload_n 1, 1) := by decide +kernel
theorem x_350_57 : decode (q_code 350) 57 = .ok (.invokevirtual 692, 3) := by decide +kernel
theorem x_350_60 : decode (q_code 350) 60 = .ok (.aload_n 0, 1) := by decide +kernel
theorem x_350_61 : decode (q_code 350) 61 = .ok (.iload_n 2, 1) := by decide +kernel
theorem x_350_62 : decode (q_code 350) 62 = .ok (.iload_n 3, 1) := by decide +kernel
theorem x_350_63 : decode (q_code 350) 63 = .ok (.aload_n 0, 1) := by decide +kernel
theorem x_350_64 : decode (q_code 350) 64 = .ok (.iload_n 2, 1) := by decide +kernel
theorem x_350_65 : decode (q_code 350) 65 = .ok (.ldc_w 439, 3) := by decide +kernel
theorem x_350_68 : decode (q_code 350) 68 = .ok (.invokevirtual 325, 3) := by decide +kernel
theorem x_350_71 : decode (q_code 350) 71 = .ok (.invokevirtual 695, 3) := by decide +kernel
theorem x_350_74 : decode (q_code 350) 74 = .ok (.goto 94, 3) := by decide +kernel
theorem x_350_77 : decode (q_code 350) 77 = .ok (.aload_n 0, 1) := by decide +kernel
theorem x_350_78 : decode (q_code 350) 78 = .ok (.iload_n 2, 1) := by decide +kernel
theorem x_350_79 : decode (q_code 350) 79 = .ok (.ldc_w 592, 3) := by decide +kernel
theorem x_350_82 : decode (q_code 350) 82 = .ok (.invokevirtual 325, 3) := by decide +kernel
theorem x_350_85 : decode (q_code 350) 85 = .ok (.ifCond .ne 14, 3) := by decide +kernel
theorem x_350_88 : decode (q_code 350) 88 = .ok (.aload_n 0, 1) := by decide +kernel
theorem x_350_89 : decode (q_code 350) 89 = .ok (.iload_n 2, 1) := by decide +kernel
theorem x_350_90 : decode (q_code 350) 90 = .ok (.ldc_w 594, 3) := by decide +kernel
theorem x_350_93 : decode (q_code 350) 93 = .ok (.invokevirtual 325, 3) := by decide +kernel
theorem x_350_96 : decode (q_code 350) 96 = .ok (.ifCond .eq 19, 3) := by decide +kernel
theorem x_350_99 : decode (q_code 350) 99 = .ok (.aload_n 0, 1) := by decide +kernel
theorem x_350_100 : decode (q_code 350) 100 = .ok (.iload_n 3, 1) := by decide +kernel
theorem x_350_101 : decode (q_code 350) 101 = .ok (.aload_n 0, 1) := by decide +kernel
theorem x_350_102 : decode (q_code 350) 102 = .ok (.iload_n 2, 1) := by decide +kernel
theorem x_350_103 : decode (q_code 350) 103 = .ok (.ldc_w 594, 3) := by decide +kernel
theorem x_350_106 : decode (q_code 350) 106 = .ok (.invokevirtual 325, 3) := by decide +kernel
theorem x_350_109 : decode (q_code 350) 109 = .ok (.invokevirtual 699, 3) := by decide +kernel
theorem x_350_112 : decode (q_code 350) 112 = .ok (.goto 17, 3) := by decide +kernel
theorem x_350_115 : decode (q_code 350) 115 = .ok (.aload_n 0, 1) := by decide +kernel
theorem x_350_116 : decode (q_code 350) 116 = .ok (.iload_n 2, 1) := by decide +kernel
theorem x_350_117 : decode (q_code 350) 117 = .ok (.iload_n 3, 1) := by decide +kernel
theorem x_350_118 : decode (q_code 350) 118 = .ok (.aload_n 0, 1) := by decide +kernel
theorem x_350_119 : decode (q_code 350) 119 = .ok (.iload_n 2, 1) := by decide +kernel
theorem x_350_120 : decode (q_code 350) 120 = .ok (.ldc_w 590, 3) := by decide +kernel
theorem x_350_123 : decode (q_code 350) 123 = .ok (.invokevirtual 325, 3) := by decide +kernel
theorem x_350_126 : decode (q_code 350) 126 = .ok (.invokevirtual 702, 3) := by decide +kernel
theorem x_350_129 : decode (q_code 350) 129 = .ok (.istore 4, 2) := by decide +kernel
theorem x_350_131 : decode (q_code 350) 131 = .ok (.aload_n 0, 1) := by decide +kernel
theorem x_350_132 : decode (q_code 350) 132 = .ok (.iload_n 1, 1) := by decide +kernel
theorem x_350_133 : decode (q_code 350) 133 = .ok (.iconst 1, 1) := by decide +kernel
theorem x_350_134 : decode (q_code 350) 134 = .ok (.iadd, 1) := by decide +kernel
theorem x_350_135 : decode (q_code 350) 135 = .ok (.aload_n 0, 1) := by decide +kernel
theorem x_350_136 : decode (q_code 350) 136 = .ok (.iload_n 1, 1) := by decide +kernel
theorem x_350_137 : decode (q_code 350) 137 = .ok (.invokevirtual 160, 3) := by decide +kernel
theorem x_350_140 : decode (q_code 350) 140 = .ok (.iload 4, 2) := by decide +kernel
theorem x_350_142 : decode (q_code 350) 142 = .ok (.ifCond .ge 8, 3) := by decide +kernel
theorem x_350_145 : decode (q_code 350) 145 = .ok (.ldc 136, 2) := by decide +kernel
theorem x_350_147 : decode (q_code 350) 147 = .ok (.goto 18, 3) := by decide +kernel
theorem x_350_150 : decode (q_code 350) 150 = .ok (.aload_n 0, 1) := by decide +kernel
theorem x_350_151 : decode (q_code 350) 151 = .ok (.iload_n 2, 1) := by decide +kernel
theorem x_350_152 : decode (q_code 350) 152 = .ok (.aload_n 0, 1) := by decide +kernel
theorem x_350_153 : decode (q_code 350) 153 = .ok (.getfield 25, 3) := by decide +kernel
theorem x_350_156 : decode (q_code 350) 156 = .ok (.iload 4, 2) := by decide +kernel
theorem x_350_158 : decode (q_code 350) 158 = .ok (.iaload, 1) := by decide +kernel
theorem x_350_159 : decode (q_code 350) 159 = .ok (.invokevirtual 646, 3) := by decide +kernel
theorem x_350_162 : decode (q_code 350) 162 = .ok (.invokestatic 674, 3) := by decide +kernel
theorem x_350_165 : decode (q_code 350) 165 = .ok (.invokevirtual 649, 3) := by decide +kernel
theorem x_350_168 : decode (q_code 350) 168 = .ok (.return_, 1) := by decide +kernel
theorem x_351_0 : decode (q_code 351) 0 = .ok (.aload_n 0, 1) := by decide +kernel
theorem x_351_1 : decode (q_code 351) 1 = .ok (.getfield 37, 3) := by decide +kernel
theorem x_351_4 : decode (q_code 351) 4 = .ok (.iload_n 1, 1) := by decide +kernel
theorem x_351_5 : decode (q_code 351) 5 = .ok (.iaload, 1) := by decide +kernel
theorem x_351_6 : decode (q_code 351) 6 = .ok (.istore_n 3, 1) := by decide +kernel
theorem x_351_7 : decode (q_code 351) 7 = .ok (.iconst 0, 1) := by decide +kernel
theorem x_351_8 : decode (q_code 351) 8 = .ok (.istore 4, 2) := by decide +kernel
theorem x_351_10 : decode (q_code 351) 10 = .ok (.iload 4, 2) := by decide +kernel
theorem x_351_12 : decode (q_code 351) 12 = .ok (.aload_n 0, 1) := by decide +kernel
theorem x_351_13 : decode (q_code 351) 13 = .ok (.getfield 622, 3) := by decide +kernel
theorem x_351_16 : decode (q_code 351) 16 = .ok (.if_icmp .ge 27, 3) := by decide +kernel
theorem x_351_19 : decode (q_code 351) 19 = .ok (.iload_n 2, 1) := by decide +kernel
theorem x_351_20 : decode (q_code 351) 20 = .ok (.ifCond .eq 23, 3) := by decide +kernel
theorem x_351_23 : decode (q_code 351) 23 = .ok (.aload_n 0, 1) := by decide +kernel
theorem x_351_24 : decode (q_code 351) 24 = .ok (.getfield 34, 3) := by decide +kernel
theorem x_351_27 : decode (q_code 351) 27 = .ok (.iload 4, 2) := by decide +kernel
theorem x_351_29 : decode (q_code 351) 29 = .ok (.iaload, 1) := by decide +kernel
theorem x_351_30 : decode (q_code 351) 30 = .ok (.iload_n 1, 1) := by decide +kernel
theorem x_351_31 : decode (q_code 351) 31 = .ok (.if_icmp .ne 6, 3) := by decide +kernel
theorem x_351_34 : decode (q_code 351) 34 = .ok (.iload 4, 2) := by decide +kernel
theorem x_351_36 : decode (q_code 351) 36 = .ok (.istore_n 3, 1) := by decide +kernel
theorem x_351_37 : decode (q_code 351) 37 = .ok (.iinc 4 1, 3) := by decide +kernel
theorem x_351_40 : decode (q_code 351) 40 = .ok (.goto (-30), 3) := by decide +kernel
theorem x_351_43 : decode (q_code 351) 43 = .ok (.iload_n 3, 1) := by decide +kernel
theorem x_351_44 : decode (q_code 351) 44 = .ok (.ireturn, 1) := by decide +kernel
theorem x_352_0 : decode (q_code 352) 0 = .ok (.iconst (-1), 1) := by decide +kernel
theorem x_352_1 : decode (q_code 352) 1 = .ok (.istore 4, 2) := by decide +kernel
theorem x_352_3 : decode (q_code 352) 3 = .ok (.iconst 0, 1) := by decide +kernel
theorem x_352_4 : decode (q_code 352) 4 = .ok (.istore 5, 2) := by decide +kernel
theorem x_352_6 : decode (q_code 352) 6 = .ok (.iload 5, 2) := by decide +kernel
theorem x_352_8 : decode (q_code 352) 8 = .ok (.aload_n 0, 1) := by decide +kernel
theorem x_352_9 : decode (q_code 352) 9 = .ok (.getfield 622, 3) := by decide +kernel
theorem x_352_12 : decode (q_code 352) 12 = .ok (.if_icmp .ge 99, 3) := by decide +kernel
theorem x_352_15 : decode (q_code 352) 15 = .ok (.aload_n 0, 1) := by decide +kernel
theorem x_352_16 : decode (q_code 352) 16 = .ok (.getfield 34, 3) := by decide +kernel
theorem x_352_19 : decode (q_code 352) 19 = .ok (.iload 5, 2) := by decide +kernel
theorem x_352_21 : decode (q_code 352) 21 = .ok (.iaload, 1) := by decide +kernel
theorem x_352_22 : decode (q_code 352) 22 = .ok (.iload_n 2, 1) := by decide +kernel
theorem x_352_23 : decode (q_code 352) 23 = .ok (.if_icmp .eq 6, 3) := by decide +kernel
theorem x_352_26 : decode (q_code 352) 26 = .ok (.goto 79, 3) := by decide +kernel
theorem x_352_29 : decode (q_code 352) 29 = .ok (.aload_n 0, 1) := by decide +kernel
theorem x_352_30 : decode (q_code 352) 30 = .ok (.iload_n 1, 1) := by decide +kernel
theorem x_352_31 : decode (q_code 352) 31 = .ok (.aload_n 0, 1) := by decide +kernel
theorem x_352_32 : decode (q_code 352) 32 = .ok (.getfield 25, 3) := by decide +kernel
theorem x_352_35 : decode (q_code 352) 35 = .ok (.iload 5, 2) := by decide +kernel
theorem x_352_37 : decode (q_code 352) 37 = .ok (.iaload, 1) := by decide +kernel
theorem x_352_38 : decode (q_code 352) 38 = .ok (.invokevirtual 646, 3) := by decide +kernel
theorem x_352_41 : decode (q_code 352) 41 = .ok (.istore 6, 2) := by decide +kernel
theorem x_352_43 : decode (q_code 352) 43 = .ok (.iload 6, 2) := by decide +kernel
theorem x_352_45 : decode (q_code 352) 45 = .ok (.iconst (-1), 1) := by decide +kernel
theorem x_352_46 : decode (q_code 352) 46 = .ok (.if_icmp .ne 6, 3) := by decide +kernel
theorem x_352_49 : decode (q_code 352) 49 = .ok (.goto 56, 3) := by decide +kernel
theorem x_352_52 : decode (q_code 352) 52 = .ok (.iload 4, 2) := by decide +kernel
theorem x_352_54 : decode (q_code 352) 54 = .ok (.ifCond .ge 10, 3) := by decide +kernel
theorem x_352_57 : decode (q_code 352) 57 = .ok (.iload 5, 2) := by decide +kernel
theorem x_352_59 : decode (q_code 352) 59 = .ok (.istore 4, 2) := by decide +kernel
theorem x_352_61 : decode (q_code 352) 61 = .ok (.goto 44, 3) := by decide +kernel
theorem x_352_64 : decode (q_code 352) 64 = .ok (.aload_n 0, 1) := by decide +kernel
theorem x_352_65 : decode (q_code 352) 65 = .ok (.iload 6, 2) := by decide +kernel
theorem x_352_67 : decode (q_code 352) 67 = .ok (.aload_n 0, 1) := by decide +kernel
theorem x_352_68 : decode (q_code 352) 68 = .ok (.iload_n 1, 1) := by decide +kernel
theorem x_352_69 : decode (q_code 352) 69 = .ok (.aload_n 0, 1) := by decide +kernel
theorem x_352_70 : decode (q_code 352) 70 = .ok (.getfield 25, 3) := by decide +kernel
theorem x_352_73 : decode (q_code 352) 73 = .ok (.iload 4, 2) := by decide +kernel
theorem x_352_75 : decode (q_code 352) 75 = .ok (.iaload, 1) := by decide +kernel
theorem x_352_76 : decode (q_code 352) 76 = .ok (.invokevirtual 551, 3) := by decide +kernel
theorem x_352_79 : decode (q_code 352) 79 = .ok (.invokevirtual 284, 3) := by decide +kernel
theorem x_352_82 : decode (q_code 352) 82 = .ok (.istore 7, 2) := by decide +kernel
theorem x_352_84 : decode (q_code 352) 84 = .ok (.iload_n 3, 1) := by decide +kernel
theorem x_352_85 : decode (q_code 352) 85 = .ok (.ifCond .eq 11, 3) := by decide +kernel
theorem x_352_88 : decode (q_code 352) 88 = .ok (.iload 7, 2) := by decide +kernel
theorem x_352_90 : decode (q_code 352) 90 = .ok (.ifCond .le 15, 3) := by decide +kernel
theorem x_352_93 : decode (q_code 352) 93 = .ok (.goto 8, 3) := by decide +kernel
theorem x_352_96 : decode (q_code 352) 96 = .ok (.iload 7, 2) := by decide +kernel
theorem x_352_98 : decode (q_code 352) 98 = .ok (.ifCond .ge 7, 3) := by decide +kernel
theorem x_352_101 : decode (q_code 352) 101 = .ok (.iload 5, 2) := by decide +kernel
theorem x_352_103 : decode (q_code 352) 103 = .ok (.istore 4, 2) := by decide +kernel
theorem x_352_105 : decode (q_code 352) 105 = .ok (.iinc 5 1, 3) := by decide +kernel
theorem x_352_108 : decode (q_code 352) 108 = .ok (.goto (-102), 3) := by decide +kernel
theorem x_352_111 : decode (q_code 352) 111 = .ok (.iload 4, 2) := by decide +kernel
theorem x_352_113 : decode (q_code 352) 113 = .ok (.ireturn, 1) := by decide +kernel
theorem x_353_0 : decode (q_code 353) 0 = .ok (.lconst 0, 1) := by decide +kernel
theorem x_353_1 : decode (q_code 353) 1 = .ok (.lstore 4, 2) := by decide +kernel
theorem x_353_3 : decode (q_code 353) 3 = .ok (.lconst 0, 1) := by decide +kernel
theorem x_353_4 : decode (q_code 353) 4 = .ok (.lstore 6, 2) := by decide +kernel
theorem x_353_6 : decode (q_code 353) 6 = .ok (.iconst 0, 1) := by decide +kernel
theorem x_353_7 : decode (q_code 353) 7 = .ok (.istore 8, 2) := by decide +kernel
theorem x_353_9 : decode (q_code 353) 9 = .ok (.iload 8, 2) := by decide +kernel
theorem x_353_11 : decode (q_code 353) 11 = .ok (.aload_n 0, 1) := by decide +kernel
theorem x_353_12 : decode (q_code 353) 12 = .ok (.getfield 622, 3) := by decide +kernel
theorem x_353_15 : decode (q_code 353) 15 = .ok (.if_icmp .ge 98, 3) := by decide +kernel
theorem x_353_18 : decode (q_code 353) 18 = .ok (.aload_n 0, 1) := by decide +kernel
theorem x_353_19 : decode (q_code 353) 19 = .ok (.getfield 34, 3) := by decide +kernel
theorem x_353_22 : decode (q_code 353) 22 = .ok (.iload 8, 2) := by decide +kernel
theorem x_353_24 : decode (q_code 353) 24 = .ok (.iaload, 1) := by decide +kernel
theorem x_353_25 : decode (q_code 353) 25 = .ok (.iload_n 3, 1) := by decide +kernel
theorem x_353_26 : decode (q_code 353) 26 = .ok (.if_icmp .eq 6, 3) := by decide +kernel
theorem x_353_29 : decode (q_code 353) 29 = .ok (.goto 78, 3) := by decide +kernel
theorem x_353_32 : decode (q_code 353) 32 = .ok (.lconst 1, 1) := by decide +kernel
theorem x_353_33 : decode (q_code 353) 33 = .ok (.lstore 9, 2) := by decide +kernel
theorem x_353_35 : decode (q_code 353) 35 = .ok (.aload_n 0, 1) := by decide +kernel
theorem x_353_36 : decode (q_code 353) 36 = .ok (.iload_n 2, 1) := by decide +kernel
theorem x_353_37 : decode (q_code 353) 37 = .ok (.ldc_w 586, 3) := by decide +kernel
theorem x_353_40 : decode (q_code 353) 40 = .ok (.invokevirtual 325, 3) := by decide +kernel
theorem x_353_43 : decode (q_code 353) 43 = .ok (.ifCond .eq 43, 3) := by decide +kernel
theorem x_353_46 : decode (q_code 353) 46 = .ok (.aload_n 0, 1) := by decide +kernel
theorem x_353_47 : decode (q_code 353) 47 = .ok (.iload_n 2, 1) := by decide +kernel
theorem x_353_48 : decode (q_code 353) 48 = .ok (.aload_n 0, 1) := by decide +kernel
theorem x_353_49 : decode (q_code 353) 49 = .ok (.getfield 25, 3) := by decide +kernel
theorem x_353_52 : decode (q_code 353) 52 = .ok (.iload 8, 2) := by decide +kernel
theorem x_353_54 : decode (q_code 353) 54 = .ok (.iaload, 1) := by decide +kernel
theorem x_353_55 : decode (q_code 353) 55 = .ok (.invokevirtual 646, 3) := by decide +kernel
theorem x_353_58 : decode (q_code 353) 58 = .ok (.istore 11, 2) := by decide +kernel
theorem x_353_60 : decode (q_code 353) 60 = .ok (.iload 11, 2) := by decide +kernel
theorem x_353_62 : decode (q_code 353) 62 = .ok (.iconst (-1), 1) := by decide +kernel
theorem x_353_63 : decode (q_code 353) 63 = .ok (.if_icmp .eq 44, 3) := by decide +kernel
theorem x_353_66 : decode (q_code 353) 66 = .ok (.aload_n 0, 1) := by decide +kernel
theorem x_353_67 : decode (q_code 353) 67 = .ok (.iload 11, 2) := by decide +kernel
theorem x_353_69 : decode (q_code 353) 69 = .ok (.invokevirtual 387, 3) := by decide +kernel
theorem x_353_72 : decode (q_code 353) 72 = .ok (.ifCond .ne 6, 3) := by decide +kernel
theorem x_353_75 : decode (q_code 353) 75 = .ok (.goto 32, 3) := by decide +kernel
theorem x_353_78 : decode (q_code 353) 78 = .ok (.aload_n 0, 1) := by decide +kernel
theorem x_353_79 : decode (q_code 353) 79 = .ok (.iload 11, 2) := by decide +kernel
theorem x_353_81 : decode (q_code 353) 81 = .ok (.invokevirtual 273, 3) := by decide +kernel
theorem x_353_84 : decode (q_code 353) 84 = .ok (.lstore 9, 2) := by decide +kernel
theorem x_353_86 : decode (q_code 353) 86 = .ok (.lload 4, 2) := by decide +kernel
theorem x_353_88 : decode (q_code 353) 88 = .ok (.lload 9, 2) := by decide +kernel
theorem x_353_90 : decode (q_code 353) 90 = .ok (.ldc2_w 148, 3) := by decide +kernel
theorem x_353_93 : decode (q_code 353) 93 = .ok (.land, 1) := by decide +kernel
theorem x_353_94 : decode (q_code 353) 94 = .ok (.ladd, 1) := by decide +kernel
theorem x_353_95 : decode (q_code 353) 95 = .ok (.lstore 4, 2) := by decide +kernel
theorem x_353_97 : decode (q_code 353) 97 = .ok (.lload 6, 2) := by decide +kernel
theorem x_353_99 : decode (q_code 353) 99 = .ok (.lload 9, 2) := by decide +kernel
theorem x_353_101 : decode (q_code 353) 101 = .ok (.bipush 32, 2) := by decide +kernel
theorem x_353_103 : decode (q_code 353) 103 = .ok (.lshr, 1) := by decide +kernel
theorem x_353_104 : decode (q_code 353) 104 = .ok (.ladd, 1) := by decide +kernel
theorem x_353_105 : decode (q_code 353) 105 = .ok (.lstore 6, 2) := by decide +kernel
theorem x_353_107 : decode (q_code 353) 107 = .ok (.iinc 8 1, 3) := by decide +kernel
theorem x_353_110 : decode (q_code 353) 110 = .ok (.goto (-101), 3) := by decide +kernel
theorem x_353_113 : decode (q_code 353) 113 = .ok (.lload 6, 2) := by decide +kernel
theorem x_353_115 : decode (q_code 353) 115 = .ok (.lload 4, 2) := by decide +kernel
theorem x_353_117 : decode (q_code 353) 117 = .ok (.bipush 32, 2) := by decide +kernel
theorem x_353_119 : decode (q_code 353) 119 = .ok (.lshr, 1) := by decide +kernel
theorem x_353_120 : decode (q_code 353) 120 = .ok (.ladd, 1) := by decide +kernel
theorem x_353_121 : decode (q_code 353) 121 = .ok (.lstore 6, 2) := by decide +kernel
theorem x_353_123 : decode (q_code 353) 123 = .ok (.lload 4, 2) := by decide +kernel
theorem x_353_125 : decode (q_code 353) 125 = .ok (.ldc2_w 148, 3) := by decide +kernel
theorem x_353_128 : decode (q_code 353) 128 = .ok (.land, 1) := by decide +kernel
theorem x_353_129 : decode (q_code 353) 129 = .ok (.lstore 4, 2) := by decide +kernel
theorem x_353_131 : decode (q_code 353) 131 = .ok (.aload_n 0, 1) := by decide +kernel
theorem x_353_132 : decode (q_code 353) 132 = .ok (.dup, 1) := by decide +kernel
theorem x_353_133 : decode (q_code 353) 133 = .ok (.getfield 683, 3) := by decide +kernel
theorem x_353_136 : decode (q_code 353) 136 = .ok (.lload 6, 2) := by decide +kernel
theorem x_353_138 : decode (q_code 353) 138 = .ok (.ldc2_w 504, 3) := by decide +kernel
theorem x_353_141 : decode (q_code 353) 141 = .ok (.lcmp, 1) := by decide +kernel
theorem x_353_142 : decode (q_code 353) 142 = .ok (.ifCond .lt 16, 3) := by decide +kernel
theorem x_353_145 : decode (q_code 353) 145 = .ok (.lload 6, 2) := by decide +kernel
theorem x_353_147 : decode (q_code 353) 147 = .ok (.ldc2_w 506, 3) := by decide +kernel
theorem x_353_150 : decode (q_code 353) 150 = .ok (.lcmp, 1) := by decide +kernel
theorem x_353_151 : decode (q_code 353) 151 = .ok (.ifCond .gt 7, 3) := by decide +kernel
theorem x_353_154 : decode (q_code 353) 154 = .ok (.iconst 1, 1) := by decide +kernel
theorem x_353_155 : decode (q_code 353) 155 = .ok (.goto 4, 3) := by decide +kernel
theorem x_353_158 : decode (q_code 353) 158 = .ok (.iconst 0, 1) := by decide +kernel
theorem x_353_159 : decode (q_code 353) 159 = .ok (.iand, 1) := by decide +kernel
theorem x_353_160 : decode (q_code 353) 160 = .ok (.putfield 683, 3) := by decide +kernel
theorem x_353_163 : decode (q_code 353) 163 = .ok (.aload_n 0, 1) := by decide +kernel
theorem x_353_164 : decode (q_code 353) 164 = .ok (.bipush 18, 2) := by decide +kernel
theorem x_353_166 : decode (q_code 353) 166 = .ok (.iload_n 1, 1) := by decide +kernel
theorem x_353_167 : decode (q_code 353) 167 = .ok (.invokevirtual 692, 3) := by decide +kernel
theorem x_353_170 : decode (q_code 353) 170 = .ok (.aload_n 0, 1) := by decide +kernel
theorem x_353_171 : decode (q_code 353) 171 = .ok (.lload 4, 2) := by decide +kernel
theorem x_353_173 : decode (q_code 353) 173 = .ok (.l2i, 1) := by decide +kernel
theorem x_353_174 : decode (q_code 353) 174 = .ok (.invokevirtual 207, 3) := by decide +kernel
theorem x_353_177 : decode (q_code 353) 177 = .ok (.aload_n 0, 1) := by decide +kernel
theorem x_353_178 : decode (q_code 353) 178 = .ok (.lload 6, 2) := by decide +kernel
theorem x_353_180 : decode (q_code 353) 180 = .ok (.l2i, 1) := by decide +kernel
theorem x_353_181 : decode (q_code 353) 181 = .ok (.invokevirtual 207, 3) := by decide +kernel
theorem x_353_184 : decode (q_code 353) 184 = .ok (.return_, 1) := by decide +kernel
theorem x_354_0 : decode (q_code 354) 0 = .ok (.aload_n 0, 1) := by decide +kernel
theorem x_354_1 : decode (q_code 354) 1 = .ok (.invokevirtual 508, 3) := by decide +kernel
theorem x_354_4 : decode (q_code 354) 4 = .ok (.istore 4, 2) := by decide +kernel
theorem x_354_6 : decode (q_code 354) 6 = .ok (.iconst 0, 1) := by decide +kernel
theorem x_354_7 : decode (q_code 354) 7 = .ok (.istore 5, 2) := by decide +kernel
theorem x_354_9 : decode (q_code 354) 9 = .ok (.iconst 0, 1) := by decide +kernel
theorem x_354_10 : decode (q_code 354) 10 = .ok (.istore 6, 2) := by decide +kernel
theorem x_354_12 : decode (q_code 354) 12 = .ok (.iload 6, 2) := by decide +kernel
theorem x_354_14 : decode (q_code 354) 14 = .ok (.aload_n 0, 1) := by decide +kernel
theorem x_354_15 : decode (q_code 354) 15 = .ok (.getfield 622, 3) := by decide +kernel
theorem x_354_18 : decode (q_code 354) 18 = .ok (.if_icmp .ge 89, 3) := by decide +kernel
theorem x_354_21 : decode (q_code 354) 21 = .ok (.aload_n 0, 1) := by decide +kernel
theorem x_354_22 : decode (q_code 354) 22 = .ok (.getfield 34, 3) := by decide +kernel
theorem x_354_25 : decode (q_code 354) 25 = .ok (.iload 6, 2) := by decide +kernel
theorem x_354_27 : decode (q_code 354) 27 = .ok (.iaload, 1) := by decide +kernel
theorem x_354_28 : decode (q_code 354) 28 = .ok (.iload_n 2, 1) := by decide +kernel
theorem x_354_29 : decode (q_code 354) 29 = .ok (.if_icmp .eq 6, 3) := by decide +kernel
theorem x_354_32 : decode (q_code 354) 32 = .ok (.goto 69, 3) := by decide +kernel
theorem x_354_35 : decode (q_code 354) 35 = .ok (.aload_n 0, 1) := by decide +kernel
theorem x_354_36 : decode (q_code 354) 36 = .ok (.iload_n 1, 1) := by decide +kernel
theorem x_354_37 : decode (q_code 354) 37 = .ok (.aload_n 0, 1) := by decide +kernel
theorem x_354_38 : decode (q_code 354) 38 = .ok (.getfield 25, 3) := by decide +kernel
theorem x_354_41 : decode (q_code 354) 41 = .ok (.iload 6, 2) := by decide +kernel
theorem x_354_43 : decode (q_code 354) 43 = .ok (.iaload, 1) := by decide +kernel
theorem x_354_44 : decode (q_code 354) 44 = .ok (.invokevirtual 646, 3) := by decide +kernel
theorem x_354_47 : decode (q_code 354) 47 = .ok (.istore 7, 2) := by decide +kernel
theorem x_354_49 : decode (q_code 354) 49 = .ok (.iload 7, 2) := by decide +kernel
theorem x_354_51 : decode (q_code 354) 51 = .ok (.iconst (-1), 1) := by decide +kernel
theorem x_354_52 : decode (q_code 354) 52 = .ok (.if_icmp .eq 49, 3) := by decide +kernel
theorem x_354_55 : decode (q_code 354) 55 = .ok (.iload_n 3, 1) := by decide +kernel
theorem x_354_56 : decode (q_code 354) 56 = .ok (.ifCond .eq 19, 3) := by decide +kernel
theorem x_354_59 : decode (q_code 354) 59 = .ok (.aload_n 0, 1) := by decide +kernel
theorem x_354_60 : decode (q_code 354) 60 = .ok (.iload_n 1, 1) := by decide +kernel
theorem x_354_61 : decode (q_code 354) 61 = .ok (.iload_n 2, 1) := by decide +kernel
theorem x_354_62 : decode (q_code 354) 62 = .ok (.iload 6, 2) := by decide +kernel
theorem x_354_64 : decode (q_code 354) 64 = .ok (.iload 7, 2) := by decide +kernel
theorem x_354_66 : decode (q_code 354) 66 = .ok (.invokevirtual 705, 3) := by decide +kernel
theorem x_354_69 : decode (q_code 354) 69 = .ok (.ifCond .eq 6, 3) := by decide +kernel
theorem x_354_72 : decode (q_code 354) 72 = .ok (.goto 29, 3) := by decide +kernel
theorem x_354_75 : decode (q_code 354) 75 = .ok (.aload_n 0, 1) := by decide +kernel
theorem x_354_76 : decode (q_code 354) 76 = .ok (.aload_n 0, 1) := by decide +kernel
theorem x_354_77 : decode (q_code 354) 77 = .ok (.getfield 10, 3) := by decide +kernel
theorem x_354_80 : decode (q_code 354) 80 = .ok (.iload 7, 2) := by decide +kernel
theorem x_354_82 : decode (q_code 354) 82 = .ok (.baload, 1) := by decide +kernel
theorem x_354_83 : decode (q_code 354) 83 = .ok (.invokevirtual 204, 3) := by decide +kernel
theorem x_354_86 : decode (q_code 354) 86 = .ok (.aload_n 0, 1) := by decide +kernel
theorem x_354_87 : decode (q_code 354) 87 = .ok (.iload 5, 2) := by decide +kernel
theorem x_354_89 : decode (q_code 354) 89 = .ok (.invokevirtual 511, 3) := by decide +kernel
theorem x_354_92 : decode (q_code 354) 92 = .ok (.aload_n 0, 1) := by decide +kernel
theorem x_354_93 : decode (q_code 354) 93 = .ok (.iload 7, 2) := by decide +kernel
theorem x_354_95 : decode (q_code 354) 95 = .ok (.invokevirtual 217, 3) := by decide +kernel
theorem x_354_98 : decode (q_code 354) 98 = .ok (.iinc 5 1, 3) := by decide +kernel
theorem x_354_101 : decode (q_code 354) 101 = .ok (.iinc 6 1, 3) := by decide +kernel
theorem x_354_104 : decode (q_code 354) 104 = .ok (.goto (-92), 3) := by decide +kernel
theorem x_354_107 : decode (q_code 354) 107 = .ok (.aload_n 0, 1) := by decide +kernel
theorem x_354_108 : decode (q_code 354) 108 = .ok (.iload 4, 2) := by decide +kernel
theorem x_354_110 : decode (q_code 354) 110 = .ok (.invokevirtual 514, 3) := by decide +kernel
theorem x_354_113 : decode (q_code 354) 113 = .ok (.return_, 1) := by decide +kernel
theorem x_355_0 : decode (q_code 355) 0 = .ok (.aload_n 0, 1) := by decide +kernel
theorem x_355_1 : decode (q_code 355) 1 = .ok (.getfield 548, 3) := by decide +kernel
theorem x_355_4 : decode (q_code 355) 4 = .ok (.istore 5, 2) := by decide +kernel
theorem x_355_6 : decode (q_code 355) 6 = .ok (.iconst 0, 1) := by decide +kernel
theorem x_355_7 : decode (q_code 355) 7 = .ok (.istore 6, 2) := by decide +kernel
theorem x_355_9 : decode (q_code 355) 9 = .ok (.iconst 0, 1) := by decide +kernel
theorem x_355_10 : decode (q_code 355) 10 = .ok (.istore 7, 2) := by decide +kernel
theorem x_355_12 : decode (q_code 355) 12 = .ok (.iload 7, 2) := by decide +kernel
theorem x_355_14 : decode (q_code 355) 14 = .ok (.iload_n 3, 1) := by decide +kernel
theorem x_355_15 : decode (q_code 355) 15 = .ok (.if_icmp .ge 72, 3) := by decide +kernel
theorem x_355_18 : decode (q_code 355) 18 = .ok (.iload 6, 2) := by decide +kernel
theorem x_355_20 : decode (q_code 355) 20 = .ok (.ifCond .ne 67, 3) := by decide +kernel
theorem x_355_23 : decode (q_code 355) 23 = .ok (.aload_n 0, 1) := by decide +kernel
theorem x_355_24 : decode (q_code 355) 24 = .ok (.getfield 34, 3) := by decide +kernel
theorem x_355_27 : decode (q_code 355) 27 = .ok (.iload 7, 2) := by decide +kernel
theorem x_355_29 : decode (q_code 355) 29 = .ok (.iaload, 1) := by decide +kernel
theorem x_355_30 : decode (q_code 355) 30 = .ok (.iload_n 2, 1) := by decide +kernel
theorem x_355_31 : decode (q_code 355) 31 = .ok (.if_icmp .eq 6, 3) := by decide +kernel
theorem x_355_34 : decode (q_code 355) 34 = .ok (.goto 47, 3) := by decide +kernel
theorem x_355_37 : decode (q_code 355) 37 = .ok (.aload_n 0, 1) := by decide +kernel
theorem x_355_38 : decode (q_code 355) 38 = .ok (.iload 5, 2) := by decide +kernel
theorem x_355_40 : decode (q_code 355) 40 = .ok (.putfield 548, 3) := by decide +kernel
theorem x_355_43 : decode (q_code 355) 43 = .ok (.aload_n 0, 1) := by decide +kernel
theorem x_355_44 : decode (q_code 355) 44 = .ok (.iload_n 1, 1) := by decide +kernel
theorem x_355_45 : decode (q_code 355) 45 = .ok (.aload_n 0, 1) := by decide +kernel
theorem x_355_46 : decode (q_code 355) 46 = .ok (.getfield 25, 3) := by decide +kernel
theorem x_355_49 : decode (q_code 355) 49 = .ok (.iload 7, 2) := by decide +kernel
theorem x_355_51 : decode (q_code 355) 51 = .ok (.iaload, 1) := by decide +kernel
theorem x_355_52 : decode (q_code 355) 52 = .ok (.invokevirtual 551, 3) := by decide +kernel
theorem x_355_55 : decode (q_code 355) 55 = .ok (.istore 8, 2) := by decide +kernel
theorem x_355_57 : decode (q_code 355) 57 = .ok (.iload 8, 2) := by decide +kernel
theorem x_355_59 : decode (q_code 355) 59 = .ok (.iconst (-1), 1) := by decide +kernel
theorem x_355_60 : decode (q_code 355) 60 = .ok (.if_icmp .eq 18, 3) := by decide +kernel
theorem x_355_63 : decode (q_code 355) 63 = .ok (.aload_n 0, 1) := by decide +kernel
theorem x_355_64 : decode (q_code 355) 64 = .ok (.iload 8, 2) := by decide +kernel
theorem x_355_66 : decode (q_code 355) 66 = .ok (.iload 4, 2) := by decide +kernel
theorem x_355_68 : decode (q_code 355) 68 = .ok (.invokevirtual 423, 3) := by decide +kernel
theorem x_355_71 : decode (q_code 355) 71 = .ok (.ifCond .eq 7, 3) := by decide +kernel
theorem x_355_74 : decode (q_code 355) 74 = .ok (.iconst 1, 1) := by decide +kernel
theorem x_355_75 : decode (q_code 355) 75 = .ok (.goto 4, 3) := by decide +kernel
theorem x_355_78 : decode (q_code 355) 78 = .ok (.iconst 0, 1) := by decide +kernel
theorem x_355_79 : decode (q_code 355) 79 = .ok (.istore 6, 2) := by decide +kernel
theorem x_355_81 : decode (q_code 355) 81 = .ok (.iinc 7 1, 3) := by decide +kernel
theorem x_355_84 : decode (q_code 355) 84 = .ok (.goto (-72), 3) := by decide +kernel
theorem x_355_87 : decode (q_code 355) 87 = .ok (.iload 6, 2) := by decide +kernel
theorem x_355_89 : decode (q_code 355) 89 = .ok (.ireturn, 1) := by decide +kernel
theorem x_356_0 : decode (q_code 356) 0 = .ok (.aload_n 0, 1) := by decide +kernel
theorem x_356_1 : decode (q_code 356) 1 = .ok (.iload_n 1, 1) := by decide +kernel
theorem x_356_2 : decode (q_code 356) 2 = .ok (.invokevirtual 360, 3) := by decide +kernel
theorem x_356_5 : decode (q_code 356) 5 = .ok (.istore_n 2, 1) := by decide +kernel
theorem x_356_6 : decode (q_code 356) 6 = .ok (.iconst 0, 1) := by decide +kernel
theorem x_356_7 : decode (q_code 356) 7 = .ok (.istore_n 3, 1) := by decide +kernel
theorem x_356_8 : decode (q_code 356) 8 = .ok (.iload_n 3, 1) := by decide +kernel
theorem x_356_9 : decode (q_code 356) 9 = .ok (.aload_n 0, 1) := by decide +kernel
theorem x_356_10 : decode (q_code 356) 10 = .ok (.getfield 622, 3) := by decide +kernel
theorem x_356_13 : decode (q_code 356) 13 = .ok (.if_icmp .ge 172, 3) := by decide +kernel
theorem x_356_16 : decode (q_code 356) 16 = .ok (.iconst 0, 1) := by decide +kernel
theorem x_356_17 : decode (q_code 356) 17 = .ok (.istore 4, 2) := by decide +kernel
theorem x_356_19 : decode (q_code 356) 19 = .ok (.iload 4, 2) := by decide +kernel
theorem x_356_21 : decode (q_code 356) 21 = .ok (.iload_n 2, 1) := by decide +kernel
theorem x_356_22 : decode (q_code 356) 22 = .ok (.if_icmp .ge 157, 3) := by decide +kernel
theorem x_356_25 : decode (q_code 356) 25 = .ok (.aload_n 0, 1) := by decide +kernel
theorem x_356_26 : decode (q_code 356) 26 = .ok (.iload_n 1, 1) := by decide +kernel
theorem x_356_27 : decode (q_code 356) 27 = .ok (.iload 4, 2) := by decide +kernel
theorem x_356_29 : decode (q_code 356) 29 = .ok (.invokevirtual 320, 3) := by decide +kernel
theorem x_356_32 : decode (q_code 356) 32 = .ok (.istore 5, 2) := by decide +kernel
theorem x_356_34 : decode (q_code 356) 34 = .ok (.aload_n 0, 1) := by decide +kernel
theorem x_356_35 : decode (q_code 356) 35 = .ok (.getfield 297, 3) := by decide +kernel
theorem x_356_38 : decode (q_code 356) 38 = .ok (.istore 6, 2) := by decide +kernel
theorem x_356_40 : decode (q_code 356) 40 = .ok (.aload_n 0, 1) := by decide +kernel
theorem x_356_41 : decode (q_code 356) 41 = .ok (.aload_n 0, 1) := by decide +kernel
theorem x_356_42 : decode (q_code 356) 42 = .ok (.getfield 25, 3) := by decide +kernel
theorem x_356_45 : decode (q_code 356) 45 = .ok (.iload_n 3, 1) := by decide +kernel
theorem x_356_46 : decode (q_code 356) 46 = .ok (.iaload, 1) := by decide +kernel
theorem x_356_47 : decode (q_code 356) 47 = .ok (.iload 5, 2) := by decide +kernel
theorem x_356_49 : decode (q_code 356) 49 = .ok (.iconst 1, 1) := by decide +kernel
theorem x_356_50 : decode (q_code 356) 50 = .ok (.iadd, 1) := by decide +kernel
theorem x_356_51 : decode (q_code 356) 51 = .ok (.aload_n 0, 1) := by decide +kernel
theorem x_356_52 : decode (q_code 356) 52 = .ok (.iload 5, 2) := by decide +kernel
theorem x_356_54 : decode (q_code 356) 54 = .ok (.invokevirtual 160, 3) := by decide +kernel
theorem x_356_57 : decode (q_code 356) 57 = .ok (.invokevirtual 665, 3) := by decide +kernel
theorem x_356_60 : decode (q_code 356) 60 = .ok (.istore 7, 2) := by decide +kernel
theorem x_356_62 : decode (q_code 356) 62 = .ok (.iload 7, 2) := by decide +kernel
theorem x_356_64 : decode (q_code 356) 64 = .ok (.aload_n 0, 1) := by decide +kernel
theorem x_356_65 : decode (q_code 356) 65 = .ok (.getfield 297, 3) := by decide +kernel
theorem x_356_68 : decode (q_code 356) 68 = .ok (.if_icmp .ne 8, 3) := by decide +kernel
theorem x_356_71 : decode (q_code 356) 71 = .ok (.aload_n 0, 1) := by decide +kernel
theorem x_356_72 : decode (q_code 356) 72 = .ok (.iconst (-1), 1) := by decide +kernel
theorem x_356_73 : decode (q_code 356) 73 = .ok (.invokevirtual 300, 3) := by decide +kernel
theorem x_356_76 : decode (q_code 356) 76 = .ok (.aload_n 0, 1) := by decide +kernel
theorem x_356_77 : decode (q_code 356) 77 = .ok (.getfield 19, 3) := by decide +kernel
theorem x_356_80 : decode (q_code 356) 80 = .ok (.iload 7, 2) := by decide +kernel
theorem x_356_82 : decode (q_code 356) 82 = .ok (.iaload, 1) := by decide +kernel
theorem x_356_83 : decode (q_code 356) 83 = .ok (.istore 8, 2) := by decide +kernel
theorem x_356_85 : decode (q_code 356) 85 = .ok (.iload 7, 2) := by decide +kernel
theorem x_356_87 : decode (q_code 356) 87 = .ok (.iconst 1, 1) := by decide +kernel
theorem x_356_88 : decode (q_code 356) 88 = .ok (.iadd, 1) := by decide +kernel
theorem x_356_89 : decode (q_code 356) 89 = .ok (.istore 9, 2) := by decide +kernel
theorem x_356_91 : decode (q_code 356) 91 = .ok (.iload 9, 2) := by decide +kernel
theorem x_356_93 : decode (q_code 356) 93 = .ok (.aload_n 0, 1) := by decide +kernel
theorem x_356_94 : decode (q_code 356) 94 = .ok (.getfield 297, 3) := by decide +kernel
theorem x_356_97 : decode (q_code 356) 97 = .ok (.if_icmp .ge 57, 3) := by decide +kernel
theorem x_356_100 : decode (q_code 356) 100 = .ok (.aload_n 0, 1) := by decide +kernel
theorem x_356_101 : decode (q_code 356) 101 = .ok (.aload_n 0, 1) := by decide +kernel
theorem x_356_102 : decode (q_code 356) 102 = .ok (.getfield 19, 3) := by decide +kernel
theorem x_356_105 : decode (q_code 356) 105 = .ok (.iload 9, 2) := by decide +kernel
theorem x_356_107 : decode (q_code 356) 107 = .ok (.iaload, 1) := by decide +kernel
theorem x_356_108 : decode (q_code 356) 108 = .ok (.iload 8, 2) := by decide +kernel
theorem x_356_110 : decode (q_code 356) 110 = .ok (.invokevirtual 284, 3) := by decide +kernel
theorem x_356_113 : decode (q_code 356) 113 = .ok (.istore 10, 2) := by decide +kernel
theorem x_356_115 : decode (q_code 356) 115 = .ok (.aload_n 0, 1) := by decide +kernel
theorem x_356_116 : decode (q_code 356) 116 = .ok (.iload 5, 2) := by decide +kernel
theorem x_356_118 : decode (q_code 356) 118 = .ok (.invokevirtual 273, 3) := by decide +kernel
theorem x_356_121 : decode (q_code 356) 121 = .ok (.lconst 0, 1) := by decide +kernel
theorem x_356_122 : decode (q_code 356) 122 = .ok (.lcmp, 1) := by decide +kernel
theorem x_356_123 : decode (q_code 356) 123 = .ok (.ifCond .le 11, 3) := by decide +kernel
theorem x_356_126 : decode (q_code 356) 126 = .ok (.iload 10, 2) := by decide +kernel
theorem x_356_128 : decode (q_code 356) 128 = .ok (.ifCond .ge 20, 3) := by decide +kernel
theorem x_356_131 : decode (q_code 356) 131 = .ok (.goto 8, 3) := by decide +kernel
theorem x_356_134 : decode (q_code 356) 134 = .ok (.iload 10, 2) := by decide +kernel
theorem x_356_136 : decode (q_code 356) 136 = .ok (.ifCond .le 12, 3) := by decide +kernel
theorem x_356_139 : decode (q_code 356) 139 = .ok (.aload_n 0, 1) := by decide +kernel
theorem x_356_140 : decode (q_code 356) 140 = .ok (.getfield 19, 3) := by decide +kernel
theorem x_356_143 : decode (q_code 356) 143 = .ok (.iload 9, 2) := by decide +kernel
theorem x_356_145 : decode (q_code 356) 145 = .ok (.iaload, 1) := by decide +kernel
theorem x_356_146 : decode (q_code 356) 146 = .ok (.istore 8, 2) := by decide +kernel
theorem x_356_148 : decode (q_code 356) 148 = .ok (.iinc 9 1, 3) := by decide +kernel
theorem x_356_151 : decode (q_code 356) 151 = .ok (.goto (-60), 3) := by decide +kernel
theorem x_356_154 : decode (q_code 356) 154 = .ok (.aload_n 0, 1) := by decide +kernel
theorem x_356_155 : decode (q_code 356) 155 = .ok (.iload 6, 2) := by decide +kernel
theorem x_356_157 : decode (q_code 356) 157 = .ok (.putfield 297, 3) := by decide +kernel
theorem x_356_160 : decode (q_code 356) 160 = .ok (.aload_n 0, 1) := by decide +kernel
theorem x_356_161 : decode (q_code 356) 161 = .ok (.getfield 40, 3) := by decide +kernel
theorem x_356_164 : decode (q_code 356) 164 = .ok (.iconst 4, 1) := by decide +kernel
theorem x_356_165 : decode (q_code 356) 165 = .ok (.iload_n 3, 1) := by decide +kernel
theorem x_356_166 : decode (q_code 356) 166 = .ok (.imul, 1) := by decide +kernel
theorem x_356_167 : decode (q_code 356) 167 = .ok (.iload 4, 2) := by decide +kernel
theorem x_356_169 : decode (q_code 356) 169 = .ok (.iadd, 1) := by decide +kernel
theorem x_356_170 : decode (q_code 356) 170 = .ok (.iload 8, 2) := by decide +kernel
theorem x_356_172 : decode (q_code 356) 172 = .ok (.iastore, 1) := by decide +kernel
theorem x_356_173 : decode (q_code 356) 173 = .ok (.iinc 4 1, 3) := by decide +kernel
theorem x_356_176 : decode (q_code 356) 176 = .ok (.goto (-157), 3) := by decide +kernel
theorem x_356_179 : decode (q_code 356) 179 = .ok (.iinc 3 1, 3) := by decide +kernel
theorem x_356_182 : decode (q_code 356) 182 = .ok (.goto (-174), 3) := by decide +kernel
theorem x_356_185 : decode (q_code 356) 185 = .ok (.iconst 0, 1) := by decide +kernel
theorem x_356_186 : decode (q_code 356) 186 = .ok (.istore_n 3, 1) := by decide +kernel
theorem x_356_187 : decode (q_code 356) 187 = .ok (.iload_n 3, 1) := by decide +kernel
theorem x_356_188 : decode (q_code 356) 188 = .ok (.aload_n 0, 1) := by decide +kernel
theorem x_356_189 : decode (q_code 356) 189 = .ok (.getfield 622, 3) := by decide +kernel
theorem x_356_192 : decode (q_code 356) 192 = .ok (.if_icmp .ge 16, 3) := by decide +kernel
theorem x_356_195 : decode (q_code 356) 195 = .ok (.aload_n 0, 1) := by decide +kernel
theorem x_356_196 : decode (q_code 356) 196 = .ok (.getfield 31, 3) := by decide +kernel
theorem x_356_199 : decode (q_code 356) 199 = .ok (.iload_n 3, 1) := by decide +kernel
theorem x_356_200 : decode (q_code 356) 200 = .ok (.iload_n 3, 1) := by decide +kernel
theorem x_356_201 : decode (q_code 356) 201 = .ok (.iastore, 1) := by decide +kernel
theorem x_356_202 : decode (q_code 356) 202 = .ok (.iinc 3 1, 3) := by decide +kernel
theorem x_356_205 : decode (q_code 356) 205 = .ok (.goto (-18), 3) := by decide +kernel
theorem x_356_208 : decode (q_code 356) 208 = .ok (.iconst 1, 1) := by decide +kernel
theorem x_356_209 : decode (q_code 356) 209 = .ok (.istore_n 3, 1) := by decide +kernel
theorem x_356_210 : decode (q_code 356) 210 = .ok (.iload_n 3, 1) := by decide +kernel
theorem x_356_211 : decode (q_code 356) 211 = .ok (.aload_n 0, 1) := by decide +kernel
theorem x_356_212 : decode (q_code 356) 212 = .ok (.getfield 622, 3) := by decide +kernel
theorem x_356_215 : decode (q_code 356) 215 = .ok (.if_icmp .ge 76, 3) := by decide +kernel
theorem x_356_218 : decode (q_code 356) 218 = .ok (.aload_n 0, 1) := by decide +kernel
theorem x_356_219 : decode (q_code 356) 219 = .ok (.getfield 31, 3) := by decide +kernel
theorem x_356_222 : decode (q_code 356) 222 = .ok (.iload_n 3, 1) := by decide +kernel
theorem x_356_223 : decode (q_code 356) 223 = .ok (.iaload, 1) := by decide +kernel
theorem x_356_224 : decode (q_code 356) 224 = .ok (.istore 4, 2) := by decide +kernel
theorem x_356_226 : decode (q_code 356) 226 = .ok (.iload_n 3, 1) := by decide +kernel
theorem x_356_227 : decode (q_code 356) 227 = .ok (.istore 5, 2) := by decide +kernel
theorem x_356_229 : decode (q_code 356) 229 = .ok (.iload 5, 2) := by decide +kernel
theorem x_356_231 : decode (q_code 356) 231 = .ok (.ifCond .le 45, 3) := by decide +kernel
theorem x_356_234 : decode (q_code 356) 234 = .ok (.aload_n 0, 1) := by decide +kernel
theorem x_356_235 : decode (q_code 356) 235 = .ok (.iload_n 1, 1) := by decide +kernel
theorem x_356_236 : decode (q_code 356) 236 = .ok (.iload_n 2, 1) := by decide +kernel
theorem x_356_237 : decode (q_code 356) 237 = .ok (.iload 4, 2) := by decide +kernel
theorem x_356_239 : decode (q_code 356) 239 = .ok (.aload_n 0, 1) := by decide +kernel
theorem x_356_240 : decode (q_code 356) 240 = .ok (.getfield 31, 3) := by decide +kernel
theorem x_356_243 : decode (q_code 356) 243 = .ok (.iload 5, 2) := by decide +kernel
theorem x_356_245 : decode (q_code 356) 245 = .ok (.iconst 1, 1) := by decide +kernel
theorem x_356_246 : decode (q_code 356) 246 = .ok (.isub, 1) := by decide +kernel
theorem x_356_247 : decode (q_code 356) 247 = .ok (.iaload, 1) := by decide +kernel
theorem x_356_248 : decode (q_code 356) 248 = .ok (.invokevirtual 708, 3) := by decide +kernel
theorem x_356_251 : decode (q_code 356) 251 = .ok (.ifCond .ge 25, 3) := by decide +kernel
theorem x_356_254 : decode (q_code 356) 254 = .ok (.aload_n 0, 1) := by decide +kernel
theorem x_356_255 : decode (q_code 356) 255 = .ok (.getfield 31, 3) := by decide +kernel
theorem x_356_258 : decode (q_code 356) 258 = .ok (.iload 5, 2) := by decide +kernel
theorem x_356_260 : decode (q_code 356) 260 = .ok (.aload_n 0, 1) := by decide +kernel
theorem x_356_261 : decode (q_code 356) 261 = .ok (.getfield 31, 3) := by decide +kernel
theorem x_356_264 : decode (q_code 356) 264 = .ok (.iload 5, 2) := by decide +kernel
theorem x_356_266 : decode (q_code 356) 266 = .ok (.iconst 1, 1) := by decide +kernel
theorem x_356_267 : decode (q_code 356) 267 = .ok (.isub, 1) := by decide +kernel
theorem x_356_268 : decode (q_code 356) 268 = .ok (.iaload, 1) := by decide +kernel
theorem x_356_269 : decode (q_code 356) 269 = .ok (.iastore, 1) := by decide +kernel
theorem x_356_270 : decode (q_code 356) 270 = .ok (.iinc 5 (-1), 3) := by decide +kernel
theorem x_356_273 : decode (q_code 356) 273 = .ok (.goto (-44), 3) := by decide +kernel
theorem x_356_276 : decode (q_code 356) 276 = .ok (.aload_n 0, 1) := by decide +kernel
theorem x_356_277 : decode (q_code 356) 277 = .ok (.getfield 31, 3) := by decide +kernel
theorem x_356_280 : decode (q_code 356) 280 = .ok (.iload 5, 2) := by decide +kernel
theorem x_356_282 : decode (q_code 356) 282 = .ok (.iload 4, 2) := by decide +kernel
theorem x_356_284 : decode (q_code 356) 284 = .ok (.iastore, 1) := by decide +kernel
theorem x_356_285 : decode (q_code 356) 285 = .ok (.iinc 3 1, 3) := by decide +kernel
theorem x_356_288 : decode (q_code 356) 288 = .ok (.goto (-78), 3) := by decide +kernel
theorem x_356_291 : decode (q_code 356) 291 = .ok (.iconst 0, 1) := by decide +kernel
theorem x_356_292 : decode (q_code 356) 292 = .ok (.istore_n 3, 1) := by decide +kernel
theorem x_356_293 : decode (q_code 356) 293 = .ok (.iload_n 3, 1) := by decide +kernel
theorem x_356_294 : decode (q_code 356) 294 = .ok (.aload_n 0, 1) := by decide +kernel
theorem x_356_295 : decode (q_code 356) 295 = .ok (.getfield 622, 3) := by decide +kernel
theorem x_356_298 : decode (q_code 356) 298 = .ok (.if_icmp .ge 26, 3) := by decide +kernel
theorem x_356_301 : decode (q_code 356) 301 = .ok (.aload_n 0, 1) := by decide +kernel
theorem x_356_302 : decode (q_code 356) 302 = .ok (.getfield 31, 3) := by decide +kernel
theorem x_356_305 : decode (q_code 356) 305 = .ok (.iload_n 3, 1) := by decide +kernel
theorem x_356_306 : decode (q_code 356) 306 = .ok (.aload_n 0, 1) := by decide +kernel
theorem x_356_307 : decode (q_code 356) 307 = .ok (.getfield 25, 3) := by decide +kernel
theorem x_356_310 : decode (q_code 356) 310 = .ok (.aload_n 0, 1) := by decide +kernel
theorem x_356_311 : decode (q_code 356) 311 = .ok (.getfield 31, 3) := by decide +kernel
theorem x_356_314 : decode (q_code 356) 314 = .ok (.iload_n 3, 1) := by decide +kernel
theorem x_356_315 : decode (q_code 356) 315 = .ok (.iaload, 1) := by decide +kernel
theorem x_356_316 : decode (q_code 356) 316 = .ok (.iaload, 1) := by decide +kernel
theorem x_356_317 : decode (q_code 356) 317 = .ok (.iastore, 1) := by decide +kernel
theorem x_356_318 : decode (q_code 356) 318 = .ok (.iinc 3 1, 3) := by decide +kernel
theorem x_356_321 : decode (q_code 356) 321 = .ok (.goto (-28), 3) := by decide +kernel
theorem x_356_324 : decode (q_code 356) 324 = .ok (.iconst 0, 1) := by decide +kernel
theorem x_356_325 : decode (q_code 356) 325 = .ok (.istore_n 3, 1) := by decide +kernel
theorem x_356_326 : decode (q_code 356) 326 = .ok (.iload_n 3, 1) := by decide +kernel
theorem x_356_327 : decode (q_code 356) 327 = .ok (.aload_n 0, 1) := by decide +kernel
theorem x_356_328 : decode (q_code 356) 328 = .ok (.getfield 622, 3) := by decide +kernel
theorem x_356_331 : decode (q_code 356) 331 = .ok (.if_icmp .ge 21, 3) := by decide +kernel
theorem x_356_334 : decode (q_code 356) 334 = .ok (.aload_n 0, 1) := by decide +kernel
theorem x_356_335 : decode (q_code 356) 335 = .ok (.getfield 25, 3) := by decide +kernel
theorem x_356_338 : decode (q_code 356) 338 = .ok (.iload_n 3, 1) := by decide +kernel
theorem x_356_339 : decode (q_code 356) 339 = .ok (.aload_n 0, 1) := by decide +kernel
theorem x_356_340 : decode (q_code 356) 340 = .ok (.getfield 31, 3) := by decide +kernel
theorem x_356_343 : decode (q_code 356) 343 = .ok (.iload_n 3, 1) := by decide +kernel
theorem x_356_344 : decode (q_code 356) 344 = .ok (.iaload, 1) := by decide +kernel
theorem x_356_345 : decode (q_code 356) 345 = .ok (.iastore, 1) := by decide +kernel
theorem x_356_346 : decode (q_code 356) 346 = .ok (.iinc 3 1, 3) := by decide +kernel
theorem x_356_349 : decode (q_code 356) 349 = .ok (.goto (-23), 3) := by decide +kernel
theorem x_356_352 : decode (q_code 356) 352 = .ok (.iconst 0, 1) := by decide +kernel
theorem x_356_353 : decode (q_code 356) 353 = .ok (.ireturn, 1) := by decide +kernel
theorem x_357_0 : decode (q_code 357) 0 = .ok (.iconst 0, 1) := by decide +kernel
theorem x_357_1 : decode (q_code 357) 1 = .ok (.istore 5, 2) := by decide +kernel
theorem x_357_3 : decode (q_code 357) 3 = .ok (.iload 5, 2) := by decide +kernel
theorem x_357_5 : decode (q_code 357) 5 = .ok (.iload_n 2, 1) := by decide +kernel
theorem x_357_6 : decode (q_code 357) 6 = .ok (.if_icmp .ge 68, 3) := by decide +kernel
theorem x_357_9 : decode (q_code 357) 9 = .ok (.aload_n 0, 1) := by decide +kernel
theorem x_357_10 : decode (q_code 357) 10 = .ok (.aload_n 0, 1) := by decide +kernel
theorem x_357_11 : decode (q_code 357) 11 = .ok (.getfield 40, 3) := by decide +kernel
theorem x_357_14 : decode (q_code 357) 14 = .ok (.iconst 4, 1) := by decide +kernel
theorem x_357_15 : decode (q_code 357) 15 = .ok (.iload_n 3, 1) := by decide +kernel
theorem x_357_16 : decode (q_code 357) 16 = .ok (.imul, 1) := by decide +kernel
theorem x_357_17 : decode (q_code 357) 17 = .ok (.iload 5, 2) := by decide +kernel
theorem x_357_19 : decode (q_code 357) 19 = .ok (.iadd, 1) := by decide +kernel
theorem x_357_20 : decode (q_code 357) 20 = .ok (.iaload, 1) := by decide +kernel
theorem x_357_21 : decode (q_code 357) 21 = .ok (.aload_n 0, 1) := by decide +kernel
theorem x_357_22 : decode (q_code 357) 22 = .ok (.getfield 40, 3) := by decide +kernel
theorem x_357_25 : decode (q_code 357) 25 = .ok (.iconst 4, 1) := by decide +kernel
theorem x_357_26 : decode (q_code 357) 26 = .ok (.iload 4, 2) := by decide +kernel
theorem x_357_28 : decode (q_code 357) 28 = .ok (.imul, 1) := by decide +kernel
theorem x_357_29 : decode (q_code 357) 29 = .ok (.iload 5, 2) := by decide +kernel
theorem x_357_31 : decode (q_code 357) 31 = .ok (.iadd, 1) := by decide +kernel
theorem x_357_32 : decode (q_code 357) 32 = .ok (.iaload, 1) := by decide +kernel
theorem x_357_33 : decode (q_code 357) 33 = .ok (.invokevirtual 284, 3) := by decide +kernel
theorem x_357_36 : decode (q_code 357) 36 = .ok (.istore 6, 2) := by decide +kernel
theorem x_357_38 : decode (q_code 357) 38 = .ok (.iload 6, 2) := by decide +kernel
theorem x_357_40 : decode (q_code 357) 40 = .ok (.ifCond .eq 28, 3) := by decide +kernel
theorem x_357_43 : decode (q_code 357) 43 = .ok (.aload_n 0, 1) := by decide +kernel
theorem x_357_44 : decode (q_code 357) 44 = .ok (.aload_n 0, 1) := by decide +kernel
theorem x_357_45 : decode (q_code 357) 45 = .ok (.iload_n 1, 1) := by decide +kernel
theorem x_357_46 : decode (q_code 357) 46 = .ok (.iload 5, 2) := by decide +kernel
theorem x_357_48 : decode (q_code 357) 48 = .ok (.invokevirtual 320, 3) := by decide +kernel
theorem x_357_51 : decode (q_code 357) 51 = .ok (.invokevirtual 273, 3) := by decide +kernel
theorem x_357_54 : decode (q_code 357) 54 = .ok (.lconst 0, 1) := by decide +kernel
theorem x_357_55 : decode (q_code 357) 55 = .ok (.lcmp, 1) := by decide +kernel
theorem x_357_56 : decode (q_code 357) 56 = .ok (.ifCond .le 8, 3) := by decide +kernel
theorem x_357_59 : decode (q_code 357) 59 = .ok (.iload 6, 2) := by decide +kernel
theorem x_357_61 : decode (q_code 357) 61 = .ok (.goto 6, 3) := by decide +kernel
theorem x_357_64 : decode (q_code 357) 64 = .ok (.iload 6, 2) := by decide +kernel
theorem x_357_66 : decode (q_code 357) 66 = .ok (.ineg, 1) := by decide +kernel
theorem x_357_67 : decode (q_code 357) 67 = .ok (.ireturn, 1) := by decide +kernel
theorem x_357_68 : decode (q_code 357) 68 = .ok (.iinc 5 1, 3) := by decide +kernel
theorem x_357_71 : decode (q_code 357) 71 = .ok (.goto (-68), 3) := by decide +kernel
theorem x_357_74 : decode (q_code 357) 74 = .ok (.iconst 0, 1) := by decide +kernel
theorem x_357_75 : decode (q_code 357) 75 = .ok (.ireturn, 1) := by decide +kernel
theorem x_358_0 : decode (q_code 358) 0 = .ok (.ldc_w 711, 3) := by decide +kernel
theorem x_358_3 : decode (q_code 358) 3 = .ok (.sipush 2000, 3) := by decide +kernel
theorem x_358_6 : decode (q_code 358) 6 = .ok (.iconst 2, 1) := by decide +kernel
theorem x_358_7 : decode (q_code 358) 7 = .ok (.iload_n 1, 1) := by decide +kernel
theorem x_358_8 : decode (q_code 358) 8 = .ok (.imul, 1) := by decide +kernel
theorem x_358_9 : decode (q_code 358) 9 = .ok (.iload_n 2, 1) := by decide +kernel
theorem x_358_10 : decode (q_code 358) 10 = .ok (.iadd, 1) := by decide +kernel
theorem x_358_11 : decode (q_code 358) 11 = .ok (.imul, 1) := by decide +kernel
theorem x_358_12 : decode (q_code 358) 12 = .ok (.iadd, 1) := by decide +kernel
theorem x_358_13 : decode (q_code 358) 13 = .ok (.ireturn, 1) := by decide +kernel
theorem x_359_0 : decode (q_code 359) 0 = .ok (.aload_n 0, 1) := by decide +kernel
theorem x_359_1 : decode (q_code 359) 1 = .ok (.iload_n 2, 1) := by decide +kernel
theorem x_359_2 : decode (q_code 359) 2 = .ok (.invokevirtual 163, 3) := by decide +kernel
theorem x_359_5 : decode (q_code 359) 5 = .ok (.istore_n 3, 1) := by decide +kernel
theorem x_359_6 : decode (q_code 359) 6 = .ok (.aload_n 0, 1) := by decide +kernel
theorem x_359_7 : decode (q_code 359) 7 = .ok (.dup, 1) := by decide +kernel
theorem x_359_8 : decode (q_code 359) 8 = .ok (.getfield 712, 3) := by decide +kernel
theorem x_359_11 : decode (q_code 359) 11 = .ok (.aload_n 0, 1) := by decide +kernel
theorem x_359_12 : decode (q_code 359) 12 = .ok (.aload_n 0, 1) := by decide +kernel
theorem x_359_13 : decode (q_code 359) 13 = .ok (.getfield 10, 3) := by decide +kernel
theorem x_359_16 : decode (q_code 359) 16 = .ok (.iload_n 2, 1) := by decide +kernel
theorem x_359_17 : decode (q_code 359) 17 = .ok (.baload, 1) := by decide +kernel
theorem x_359_18 : decode (q_code 359) 18 = .ok (.iload_n 3, 1) := by decide +kernel
theorem x_359_19 : decode (q_code 359) 19 = .ok (.invokevirtual 166, 3) := by decide +kernel
theorem x_359_22 : decode (q_code 359) 22 = .ok (.bipush 64, 2) := by decide +kernel
theorem x_359_24 : decode (q_code 359) 24 = .ok (.if_icmp .le 7, 3) := by decide +kernel
theorem x_359_27 : decode (q_code 359) 27 = .ok (.iconst 1, 1) := by decide +kernel
theorem x_359_28 : decode (q_code 359) 28 = .ok (.goto 4, 3) := by decide +kernel
theorem x_359_31 : decode (q_code 359) 31 = .ok (.iconst 0, 1) := by decide +kernel
theorem x_359_32 : decode (q_code 359) 32 = .ok (.ior, 1) := by decide +kernel
theorem x_359_33 : decode (q_code 359) 33 = .ok (.putfield 712, 3) := by decide +kernel
theorem x_359_36 : decode (q_code 359) 36 = .ok (.iload_n 1, 1) := by decide +kernel
theorem x_359_37 : decode (q_code 359) 37 = .ok (.istore 4, 2) := by decide +kernel
theorem x_359_39 : decode (q_code 359) 39 = .ok (.iload 4, 2) := by decide +kernel
theorem x_359_41 : decode (q_code 359) 41 = .ok (.aload_n 0, 1) := by decide +kernel
theorem x_359_42 : decode (q_code 359) 42 = .ok (.getfield 297, 3) := by decide +kernel
theorem x_359_45 : decode (q_code 359) 45 = .ok (.if_icmp .ge 25, 3) := by decide +kernel
theorem x_359_48 : decode (q_code 359) 48 = .ok (.aload_n 0, 1) := by decide +kernel
theorem x_359_49 : decode (q_code 359) 49 = .ok (.aload_n 0, 1) := by decide +kernel
theorem x_359_50 : decode (q_code 359) 50 = .ok (.getfield 19, 3) := by decide +kernel
theorem x_359_53 : decode (q_code 359) 53 = .ok (.iload 4, 2) := by decide +kernel
theorem x_359_55 : decode (q_code 359) 55 = .ok (.iaload, 1) := by decide +kernel
theorem x_359_56 : decode (q_code 359) 56 = .ok (.iload_n 2, 1) := by decide +kernel
theorem x_359_57 : decode (q_code 359) 57 = .ok (.invokevirtual 423, 3) := by decide +kernel
theorem x_359_60 : decode (q_code 359) 60 = .ok (.ifCond .eq 4, 3) := by decide +kernel
theorem x_359_63 : decode (q_code 359) 63 = .ok (.return_, 1) := by decide +kernel
theorem x_359_64 : decode (q_code 359) 64 = .ok (.iinc 4 1, 3) := by decide +kernel
theorem x_359_67 : decode (q_code 359) 67 = .ok (.goto (-28), 3) := by decide +kernel
theorem x_359_70 : decode (q_code 359) 70 = .ok (.aload_n 0, 1) := by decide +kernel
theorem x_359_71 : decode (q_code 359) 71 = .ok (.iload_n 2, 1) := by decide +kernel
theorem x_359_72 : decode (q_code 359) 72 = .ok (.invokevirtual 300, 3) := by decide +kernel
theorem x_359_75 : decode (q_code 359) 75 = .ok (.return_, 1) := by decide +kernel
theorem x_360_0 : decode (q_code 360) 0 = .ok (.aload_n 0, 1) := by decide +kernel
theorem x_360_1 : decode (q_code 360) 1 = .ok (.getfield 297, 3) := by decide +kernel
theorem x_360_4 : decode (q_code 360) 4 = .ok (.istore 4, 2) := by decide +kernel
theorem x_360_6 : decode (q_code 360) 6 = .ok (.aload_n 0, 1) := by decide +kernel
theorem x_360_7 : decode (q_code 360) 7 = .ok (.iload_n 1, 1) := by decide +kernel
theorem x_360_8 : decode (q_code 360) 8 = .ok (.iload_n 2, 1) := by decide +kernel
theorem x_360_9 : decode (q_code 360) 9 = .ok (.iload_n 3, 1) := by decide +kernel
theorem x_360_10 : decode (q_code 360) 10 = .ok (.invokevirtual 303, 3) := by decide +kernel
theorem x_360_13 : decode (q_code 360) 13 = .ok (.aload_n 0, 1) := by decide +kernel
theorem x_360_14 : decode (q_code 360) 14 = .ok (.getfield 297, 3) := by decide +kernel
theorem x_360_17 : decode (q_code 360) 17 = .ok (.istore 5, 2) := by decide +kernel
theorem x_360_19 : decode (q_code 360) 19 = .ok (.iload 4, 2) := by decide +kernel
theorem x_360_21 : decode (q_code 360) 21 = .ok (.istore 6, 2) := by decide +kernel
theorem x_360_23 : decode (q_code 360) 23 = .ok (.iload 6, 2) := by decide +kernel
theorem x_360_25 : decode (q_code 360) 25 = .ok (.iload 5, 2) := by decide +kernel
theorem x_360_27 : decode (q_code 360) 27 = .ok (.if_icmp .ge 123, 3) := by decide +kernel
theorem x_360_30 : decode (q_code 360) 30 = .ok (.aload_n 0, 1) := by decide +kernel
theorem x_360_31 : decode (q_code 360) 31 = .ok (.getfield 19, 3) := by decide +kernel
theorem x_360_34 : decode (q_code 360) 34 = .ok (.iload 6, 2) := by decide +kernel
theorem x_360_36 : decode (q_code 360) 36 = .ok (.iaload, 1) := by decide +kernel
theorem x_360_37 : decode (q_code 360) 37 = .ok (.istore 7, 2) := by decide +kernel
theorem x_360_39 : decode (q_code 360) 39 = .ok (.iload 7, 2) := by decide +kernel
theorem x_360_41 : decode (q_code 360) 41 = .ok (.iconst (-1), 1) := by decide +kernel
theorem x_360_42 : decode (q_code 360) 42 = .ok (.if_icmp .ne 14, 3) := by decide +kernel
theorem x_360_45 : decode (q_code 360) 45 = .ok (.aload_n 0, 1) := by decide +kernel
theorem x_360_46 : decode (q_code 360) 46 = .ok (.iload 5, 2) := by decide +kernel
theorem x_360_48 : decode (q_code 360) 48 = .ok (.ldc 136, 2) := by decide +kernel
theorem x_360_50 : decode (q_code 360) 50 = .ok (.invokevirtual 715, 3) := by decide +kernel
theorem x_360_53 : decode (q_code 360) 53 = .ok (.goto 91, 3) := by decide +kernel
theorem x_360_56 : decode (q_code 360) 56 = .ok (.aload_n 0, 1) := by decide +kernel
theorem x_360_57 : decode (q_code 360) 57 = .ok (.getfield 10, 3) := by decide +kernel
theorem x_360_60 : decode (q_code 360) 60 = .ok (.iload 7, 2) := by decide +kernel
theorem x_360_62 : decode (q_code 360) 62 = .ok (.baload, 1) := by decide +kernel
theorem x_360_63 : decode (q_code 360) 63 = .ok (.iconst 4, 1) := by decide +kernel
theorem x_360_64 : decode (q_code 360) 64 = .ok (.if_icmp .eq 14, 3) := by decide +kernel
theorem x_360_67 : decode (q_code 360) 67 = .ok (.aload_n 0, 1) := by decide +kernel
theorem x_360_68 : decode (q_code 360) 68 = .ok (.iload 5, 2) := by decide +kernel
theorem x_360_70 : decode (q_code 360) 70 = .ok (.iload 7, 2) := by decide +kernel
theorem x_360_72 : decode (q_code 360) 72 = .ok (.invokevirtual 715, 3) := by decide +kernel
theorem x_360_75 : decode (q_code 360) 75 = .ok (.goto 69, 3) := by decide +kernel
theorem x_360_78 : decode (q_code 360) 78 = .ok (.aload_n 0, 1) := by decide +kernel
theorem x_360_79 : decode (q_code 360) 79 = .ok (.aload_n 0, 1) := by decide +kernel
theorem x_360_80 : decode (q_code 360) 80 = .ok (.iload 7, 2) := by decide +kernel
theorem x_360_82 : decode (q_code 360) 82 = .ok (.invokevirtual 163, 3) := by decide +kernel
theorem x_360_85 : decode (q_code 360) 85 = .ok (.invokevirtual 360, 3) := by decide +kernel
theorem x_360_88 : decode (q_code 360) 88 = .ok (.ifCond .ne 11, 3) := by decide +kernel
theorem x_360_91 : decode (q_code 360) 91 = .ok (.aload_n 0, 1) := by decide +kernel
theorem x_360_92 : decode (q_code 360) 92 = .ok (.iload 5, 2) := by decide +kernel
theorem x_360_94 : decode (q_code 360) 94 = .ok (.ldc 136, 2) := by decide +kernel
theorem x_360_96 : decode (q_code 360) 96 = .ok (.invokevirtual 715, 3) := by decide +kernel
theorem x_360_99 : decode (q_code 360) 99 = .ok (.aload_n 0, 1) := by decide +kernel
theorem x_360_100 : decode (q_code 360) 100 = .ok (.iload 7, 2) := by decide +kernel
theorem x_360_102 : decode (q_code 360) 102 = .ok (.invokevirtual 163, 3) := by decide +kernel
theorem x_360_105 : decode (q_code 360) 105 = .ok (.invokestatic 174, 3) := by decide +kernel
theorem x_360_108 : decode (q_code 360) 108 = .ok (.istore 8, 2) := by decide +kernel
theorem x_360_110 : decode (q_code 360) 110 = .ok (.iload 8, 2) := by decide +kernel
theorem x_360_112 : decode (q_code 360) 112 = .ok (.aload_n 0, 1) := by decide +kernel
theorem x_360_113 : decode (q_code 360) 113 = .ok (.aload_n 0, 1) := by decide +kernel
theorem x_360_114 : decode (q_code 360) 114 = .ok (.iload 7, 2) := by decide +kernel
theorem x_360_116 : decode (q_code 360) 116 = .ok (.invokevirtual 163, 3) := by decide +kernel
theorem x_360_119 : decode (q_code 360) 119 = .ok (.invokevirtual 177, 3) := by decide +kernel
theorem x_360_122 : decode (q_code 360) 122 = .ok (.if_icmp .ge 22, 3) := by decide +kernel
theorem x_360_125 : decode (q_code 360) 125 = .ok (.aload_n 0, 1) := by decide +kernel
theorem x_360_126 : decode (q_code 360) 126 = .ok (.iload 5, 2) := by decide +kernel
theorem x_360_128 : decode (q_code 360) 128 = .ok (.iload 8, 2) := by decide +kernel
theorem x_360_130 : decode (q_code 360) 130 = .ok (.invokevirtual 715, 3) := by decide +kernel
theorem x_360_133 : decode (q_code 360) 133 = .ok (.aload_n 0, 1) := by decide +kernel
theorem x_360_134 : decode (q_code 360) 134 = .ok (.iload 8, 2) := by decide +kernel
theorem x_360_136 : decode (q_code 360) 136 = .ok (.invokevirtual 180, 3) := by decide +kernel
theorem x_360_139 : decode (q_code 360) 139 = .ok (.istore 8, 2) := by decide +kernel
theorem x_360_141 : decode (q_code 360) 141 = .ok (.goto (-31), 3) := by decide +kernel
theorem x_360_144 : decode (q_code 360) 144 = .ok (.iinc 6 1, 3) := by decide +kernel
theorem x_360_147 : decode (q_code 360) 147 = .ok (.goto (-124), 3) := by decide +kernel
theorem x_360_150 : decode (q_code 360) 150 = .ok (.iload 5, 2) := by decide +kernel
theorem x_360_152 : decode (q_code 360) 152 = .ok (.iload 4, 2) := by decide +kernel
theorem x_360_154 : decode (q_code 360) 154 = .ok (.if_icmp .ne 11, 3) := by decide +kernel
theorem x_360_157 : decode (q_code 360) 157 = .ok (.aload_n 0, 1) := by decide +kernel
theorem x_360_158 : decode (q_code 360) 158 = .ok (.iload 5, 2) := by decide +kernel
theorem x_360_160 : decode (q_code 360) 160 = .ok (.ldc 136, 2) := by decide +kernel
theorem x_360_162 : decode (q_code 360) 162 = .ok (.invokevirtual 715, 3) := by decide +kernel
theorem x_360_165 : decode (q_code 360) 165 = .ok (.iload 5, 2) := by decide +kernel
theorem x_360_167 : decode (q_code 360) 167 = .ok (.ireturn, 1) := by decide +kernel
theorem x_361_0 : decode (q_code 361) 0 = .ok (.aload_n 0, 1) := by decide +kernel
theorem x_361_1 : decode (q_code 361) 1 = .ok (.iload_n 2, 1) := by decide +kernel
theorem x_361_2 : decode (q_code 361) 2 = .ok (.aload_n 0, 1) := by decide +kernel
theorem x_361_3 : decode (q_code 361) 3 = .ok (.iload_n 1, 1) := by decide +kernel
theorem x_361_4 : decode (q_code 361) 4 = .ok (.iconst 0, 1) := by decide +kernel
theorem x_361_5 : decode (q_code 361) 5 = .ok (.invokevirtual 718, 3) := by decide +kernel
theorem x_361_8 : decode (q_code 361) 8 = .ok (.aload_n 0, 1) := by decide +kernel
theorem x_361_9 : decode (q_code 361) 9 = .ok (.getfield 50, 3) := by decide +kernel
theorem x_361_12 : decode (q_code 361) 12 = .ok (.iconst 2, 1) := by decide +kernel
theorem x_361_13 : decode (q_code 361) 13 = .ok (.iload_n 1, 1) := by decide +kernel
theorem x_361_14 : decode (q_code 361) 14 = .ok (.imul, 1) := by decide +kernel
theorem x_361_15 : decode (q_code 361) 15 = .ok (.iaload, 1) := by decide +kernel
theorem x_361_16 : decode (q_code 361) 16 = .ok (.invokevirtual 721, 3) := by decide +kernel
theorem x_361_19 : decode (q_code 361) 19 = .ok (.istore_n 3, 1) := by decide +kernel
theorem x_361_20 : decode (q_code 361) 20 = .ok (.aload_n 0, 1) := by decide +kernel
theorem x_361_21 : decode (q_code 361) 21 = .ok (.aload_n 0, 1) := by decide +kernel
theorem x_361_22 : decode (q_code 361) 22 = .ok (.getfield 297, 3) := by decide +kernel
theorem x_361_25 : decode (q_code 361) 25 = .ok (.iload_n 3, 1) := by decide +kernel
theorem x_361_26 : decode (q_code 361) 26 = .ok (.isub, 1) := by decide +kernel
theorem x_361_27 : decode (q_code 361) 27 = .ok (.putfield 724, 3) := by decide +kernel
theorem x_361_30 : decode (q_code 361) 30 = .ok (.aload_n 0, 1) := by decide +kernel
theorem x_361_31 : decode (q_code 361) 31 = .ok (.getfield 47, 3) := by decide +kernel
theorem x_361_34 : decode (q_code 361) 34 = .ok (.iload_n 1, 1) := by decide +kernel
theorem x_361_35 : decode (q_code 361) 35 = .ok (.iaload, 1) := by decide +kernel
theorem x_361_36 : decode (q_code 361) 36 = .ok (.iconst 2, 1) := by decide +kernel
theorem x_361_37 : decode (q_code 361) 37 = .ok (.if_icmp .ge 20, 3) := by decide +kernel
theorem x_361_40 : decode (q_code 361) 40 = .ok (.aload_n 0, 1) := by decide +kernel
theorem x_361_41 : decode (q_code 361) 41 = .ok (.aload_n 0, 1) := by decide +kernel
theorem x_361_42 : decode (q_code 361) 42 = .ok (.getfield 297, 3) := by decide +kernel
theorem x_361_45 : decode (q_code 361) 45 = .ok (.putfield 727, 3) := by decide +kernel
theorem x_361_48 : decode (q_code 361) 48 = .ok (.aload_n 0, 1) := by decide +kernel
theorem x_361_49 : decode (q_code 361) 49 = .ok (.ldc 136, 2) := by decide +kernel
theorem x_361_51 : decode (q_code 361) 51 = .ok (.invokevirtual 300, 3) := by decide +kernel
theorem x_361_54 : decode (q_code 361) 54 = .ok (.goto 28, 3) := by decide +kernel
theorem x_361_57 : decode (q_code 361) 57 = .ok (.aload_n 0, 1) := by decide +kernel
theorem x_361_58 : decode (q_code 361) 58 = .ok (.aload_n 0, 1) := by decide +kernel
theorem x_361_59 : decode (q_code 361) 59 = .ok (.iload_n 2, 1) := by decide +kernel
theorem x_361_60 : decode (q_code 361) 60 = .ok (.aload_n 0, 1) := by decide +kernel
theorem x_361_61 : decode (q_code 361) 61 = .ok (.iload_n 1, 1) := by decide +kernel
theorem x_361_62 : decode (q_code 361) 62 = .ok (.iconst 1, 1) := by decide +kernel
theorem x_361_63 : decode (q_code 361) 63 = .ok (.invokevirtual 718, 3) := by decide +kernel
theorem x_361_66 : decode (q_code 361) 66 = .ok (.aload_n 0, 1) := by decide +kernel
theorem x_361_67 : decode (q_code 361) 67 = .ok (.getfield 50, 3) := by decide +kernel
theorem x_361_70 : decode (q_code 361) 70 = .ok (.iconst 2, 1) := by decide +kernel
theorem x_361_71 : decode (q_code 361) 71 = .ok (.iload_n 1, 1) := by decide +kernel
theorem x_361_72 : decode (q_code 361) 72 = .ok (.imul, 1) := by decide +kernel
theorem x_361_73 : decode (q_code 361) 73 = .ok (.iconst 1, 1) := by decide +kernel
theorem x_361_74 : decode (q_code 361) 74 = .ok (.iadd, 1) := by decide +kernel
theorem x_361_75 : decode (q_code 361) 75 = .ok (.iaload, 1) := by decide +kernel
theorem x_361_76 : decode (q_code 361) 76 = .ok (.invokevirtual 721, 3) := by decide +kernel
theorem x_361_79 : decode (q_code 361) 79 = .ok (.putfield 727, 3) := by decide +kernel
theorem x_361_82 : decode (q_code 361) 82 = .ok (.aload_n 0, 1) := by decide +kernel
theorem x_361_83 : decode (q_code 361) 83 = .ok (.iload_n 3, 1) := by decide +kernel
theorem x_361_84 : decode (q_code 361) 84 = .ok (.putfield 730, 3) := by decide +kernel
theorem x_361_87 : decode (q_code 361) 87 = .ok (.aload_n 0, 1) := by decide +kernel
theorem x_361_88 : decode (q_code 361) 88 = .ok (.aload_n 0, 1) := by decide +kernel
theorem x_361_89 : decode (q_code 361) 89 = .ok (.getfield 297, 3) := by decide +kernel
theorem x_361_92 : decode (q_code 361) 92 = .ok (.putfield 733, 3) := by decide +kernel
theorem x_361_95 : decode (q_code 361) 95 = .ok (.aload_n 0, 1) := by decide +kernel
theorem x_361_96 : decode (q_code 361) 96 = .ok (.getfield 724, 3) := by decide +kernel
theorem x_361_99 : decode (q_code 361) 99 = .ok (.aload_n 0, 1) := by decide +kernel
theorem x_361_100 : decode (q_code 361) 100 = .ok (.getfield 733, 3) := by decide +kernel
theorem x_361_103 : decode (q_code 361) 103 = .ok (.aload_n 0, 1) := by decide +kernel
theorem x_361_104 : decode (q_code 361) 104 = .ok (.getfield 727, 3) := by decide +kernel
theorem x_361_107 : decode (q_code 361) 107 = .ok (.isub, 1) := by decide +kernel
theorem x_361_108 : decode (q_code 361) 108 = .ok (.imul, 1) := by decide +kernel
theorem x_361_109 : decode (q_code 361) 109 = .ok (.ireturn, 1) := by decide +kernel
theorem x_362_0 : decode (q_code 362) 0 = .ok (.aload_n 0, 1) := by decide +kernel
theorem x_362_1 : decode (q_code 362) 1 = .ok (.getfield 297, 3) := by decide +kernel
theorem x_362_4 : decode (q_code 362) 4 = .ok (.istore_n 3, 1) := by decide +kernel
theorem x_362_5 : decode (q_code 362) 5 = .ok (.aload_n 0, 1) := by decide +kernel
theorem x_362_6 : decode (q_code 362) 6 = .ok (.iload_n 1, 1) := by decide +kernel
theorem x_362_7 : decode (q_code 362) 7 = .ok (.iload_n 2, 1) := by decide +kernel
theorem x_362_8 : decode (q_code 362) 8 = .ok (.invokevirtual 736, 3) := by decide +kernel
theorem x_362_11 : decode (q_code 362) 11 = .ok (.pop, 1) := by decide +kernel
theorem x_362_12 : decode (q_code 362) 12 = .ok (.aload_n 0, 1) := by decide +kernel
theorem x_362_13 : decode (q_code 362) 13 = .ok (.getfield 56, 3) := by decide +kernel
theorem x_362_16 : decode (q_code 362) 16 = .ok (.iconst 2, 1) := by decide +kernel
theorem x_362_17 : decode (q_code 362) 17 = .ok (.iload_n 1, 1) := by decide +kernel
theorem x_362_18 : decode (q_code 362) 18 = .ok (.imul, 1) := by decide +kernel
theorem x_362_19 : decode (q_code 362) 19 = .ok (.dup2, 1) := by decide +kernel
theorem x_362_20 : decode (q_code 362) 20 = .ok (.baload, 1) := by decide +kernel
theorem x_362_21 : decode (q_code 362) 21 = .ok (.aload_n 0, 1) := by decide +kernel
theorem x_362_22 : decode (q_code 362) 22 = .ok (.getfield 724, 3) := by decide +kernel
theorem x_362_25 : decode (q_code 362) 25 = .ok (.iconst 1, 1) := by decide +kernel
theorem x_362_26 : decode (q_code 362) 26 = .ok (.if_icmp .le 7, 3) := by decide +kernel
theorem x_362_29 : decode (q_code 362) 29 = .ok (.iconst 1, 1) := by decide +kernel
theorem x_362_30 : decode (q_code 362) 30 = .ok (.goto 4, 3) := by decide +kernel
theorem x_362_33 : decode (q_code 362) 33 = .ok (.iconst 0, 1) := by decide +kernel
theorem x_362_34 : decode (q_code 362) 34 = .ok (.ior, 1) := by decide +kernel
theorem x_362_35 : decode (q_code 362) 35 = .ok (.bastore, 1) := by decide +kernel
theorem x_362_36 : decode (q_code 362) 36 = .ok (.aload_n 0, 1) := by decide +kernel
theorem x_362_37 : decode (q_code 362) 37 = .ok (.getfield 56, 3) := by decide +kernel
theorem x_362_40 : decode (q_code 362) 40 = .ok (.iconst 2, 1) := by decide +kernel
theorem x_362_41 : decode (q_code 362) 41 = .ok (.iload_n 1, 1) := by decide +kernel
theorem x_362_42 : decode (q_code 362) 42 = .ok (.imul, 1) := by decide +kernel
theorem x_362_43 : decode (q_code 362) 43 = .ok (.iconst 1, 1) := by decide +kernel
theorem x_362_44 : decode (q_code 362) 44 = .ok (.iadd, 1) := by decide +kernel
theorem x_362_45 : decode (q_code 362) 45 = .ok (.dup2, 1) := by decide +kernel
theorem x_362_46 : decode (q_code 362) 46 = .ok (.baload, 1) := by decide +kernel
theorem x_362_47 : decode (q_code 362) 47 = .ok (.aload_n 0, 1) := by decide +kernel
theorem x_362_48 : decode (q_code 362) 48 = .ok (.getfield 47, 3) := by decide +kernel
theorem x_362_51 : decode (q_code 362) 51 = .ok (.iload_n 1, 1) := by decide +kernel
theorem x_362_52 : decode (q_code 362) 52 = .ok (.iaload, 1) := by decide +kernel
theorem x_362_53 : decode (q_code 362) 53 = .ok (.iconst 1, 1) := by decide +kernel
theorem x_362_54 : decode (q_code 362) 54 = .ok (.if_icmp .le 20, 3) := by decide +kernel
theorem x_362_57 : decode (q_code 362) 57 = .ok (.aload_n 0, 1) := by decide +kernel
theorem x_362_58 : decode (q_code 362) 58 = .ok (.getfield 733, 3) := by decide +kernel
theorem x_362_61 : decode (q_code 362) 61 = .ok (.aload_n 0, 1) := by decide +kernel
theorem x_362_62 : decode (q_code 362) 62 = .ok (.getfield 727, 3) := by decide +kernel
theorem x_362_65 : decode (q_code 362) 65 = .ok (.isub, 1) := by decide +kernel
theorem x_362_66 : decode (q_code 362) 66 = .ok (.iconst 1, 1) := by decide +kernel
theorem x_362_67 : decode (q_code 362) 67 = .ok (.if_icmp .le 7, 3) := by decide +kernel
theorem x_362_70 : decode (q_code 362) 70 = .ok (.iconst 1, 1) := by decide +kernel
theorem x_362_71 : decode (q_code 362) 71 = .ok (.goto 4, 3) := by decide +kernel
theorem x_362_74 : decode (q_code 362) 74 = .ok (.iconst 0, 1) := by decide +kernel
theorem x_362_75 : decode (q_code 362) 75 = .ok (.ior, 1) := by decide +kernel
theorem x_362_76 : decode (q_code 362) 76 = .ok (.bastore, 1) := by decide +kernel
theorem x_362_77 : decode (q_code 362) 77 = .ok (.aload_n 0, 1) := by decide +kernel
theorem x_362_78 : decode (q_code 362) 78 = .ok (.iload_n 3, 1) := by decide +kernel
theorem x_362_79 : decode (q_code 362) 79 = .ok (.putfield 297, 3) := by decide +kernel
theorem x_362_82 : decode (q_code 362) 82 = .ok (.return_, 1) := by decide +kernel
theorem x_363_0 : decode (q_code 363) 0 = .ok (.ldc_w 739, 3) := by decide +kernel
theorem x_363_3 : decode (q_code 363) 3 = .ok (.iload_n 1, 1) := by decide +kernel
theorem x_363_4 : decode (q_code 363) 4 = .ok (.sipush 1500, 3) := by decide +kernel
theorem x_363_7 : decode (q_code 363) 7 = .ok (.imul, 1) := by decide +kernel
theorem x_363_8 : decode (q_code 363) 8 = .ok (.iload_n 2, 1) := by decide +kernel
theorem x_363_9 : decode (q_code 363) 9 = .ok (.iadd, 1) := by decide +kernel
theorem x_363_10 : decode (q_code 363) 10 = .ok (.sipush 132, 3) := by decide +kernel
theorem x_363_13 : decode (q_code 363) 13 = .ok (.imul, 1) := by decide +kernel
theorem x_363_14 : decode (q_code 363) 14 = .ok (.iadd, 1) := by decide +kernel
theorem x_363_15 : decode (q_code 363) 15 = .ok (.bipush 66, 2) := by decide +kernel
theorem x_363_17 : decode (q_code 363) 17 = .ok (.iload_n 3, 1) := by decide +kernel
theorem x_363_18 : decode (q_code 363) 18 = .ok (.imul, 1) := by decide +kernel
theorem x_363_19 : decode (q_code 363) 19 = .ok (.iadd, 1) := by decide +kernel
theorem x_363_20 : decode (q_code 363) 20 = .ok (.ireturn, 1) := by decide +kernel
theorem x_364_0 : decode (q_code 364) 0 = .ok (.iconst 0, 1) := by decide +kernel
theorem x_364_1 : decode (q_code 364) 1 = .ok (.istore 5, 2) := by decide +kernel
theorem x_364_3 : decode (q_code 364) 3 = .ok (.iload 5, 2) := by decide +kernel
theorem x_364_5 : decode (q_code 364) 5 = .ok (.sipush 1500, 3) := by decide +kernel
theorem x_364_8 : decode (q_code 364) 8 = .ok (.if_icmp .ge 25, 3) := by decide +kernel
theorem x_364_11 : decode (q_code 364) 11 = .ok (.aload_n 0, 1) := by decide +kernel
theorem x_364_12 : decode (q_code 364) 12 = .ok (.getfield 59, 3) := by decide +kernel
theorem x_364_15 : decode (q_code 364) 15 = .ok (.iload_n 1, 1) := by decide +kernel
theorem x_364_16 : decode (q_code 364) 16 = .ok (.sipush 1500, 3) := by decide +kernel
theorem x_364_19 : decode (q_code 364) 19 = .ok (.imul, 1) := by decide +kernel
theorem x_364_20 : decode (q_code 364) 20 = .ok (.iload 5, 2) := by decide +kernel
theorem x_364_22 : decode (q_code 364) 22 = .ok (.iadd, 1) := by decide +kernel
theorem x_364_23 : decode (q_code 364) 23 = .ok (.baload, 1) := by decide +kernel
theorem x_364_24 : decode (q_code 364) 24 = .ok (.ifCond .eq 9, 3) := by decide +kernel
theorem x_364_27 : decode (q_code 364) 27 = .ok (.iinc 5 1, 3) := by decide +kernel
theorem x_364_30 : decode (q_code 364) 30 = .ok (.goto (-27), 3) := by decide +kernel
theorem x_364_33 : decode (q_code 364) 33 = .ok (.iload 5, 2) := by decide +kernel
theorem x_364_35 : decode (q_code 364) 35 = .ok (.sipush 1500, 3) := by decide +kernel
theorem x_364_38 : decode (q_code 364) 38 = .ok (.if_icmp .ne 33, 3) := by decide +kernel
theorem x_364_41 : decode (q_code 364) 41 = .ok (.aload_n 0, 1) := by decide +kernel
theorem x_364_42 : decode (q_code 364) 42 = .ok (.iload_n 1, 1) := by decide +kernel
theorem x_364_43 : decode (q_code 364) 43 = .ok (.invokevirtual 740, 3) := by decide +kernel
theorem x_364_46 : decode (q_code 364) 46 = .ok (.iconst 0, 1) := by decide +kernel
theorem x_364_47 : decode (q_code 364) 47 = .ok (.istore 5, 2) := by decide +kernel
theorem x_364_49 : decode (q_code 364) 49 = .ok (.aload_n 0, 1) := by decide +kernel
theorem x_364_50 : decode (q_code 364) 50 = .ok (.getfield 59, 3) := by decide +kernel
theorem x_364_53 : decode (q_code 364) 53 = .ok (.iload_n 1, 1) := by decide +kernel
theorem x_364_54 : decode (q_code 364) 54 = .ok (.sipush 1500, 3) := by decide +kernel
theorem x_364_57 : decode (q_code 364) 57 = .ok (.imul, 1) := by decide +kernel
theorem x_364_58 : decode (q_code 364) 58 = .ok (.iload 5, 2) := by decide +kernel
theorem x_364_60 : decode (q_code 364) 60 = .ok (.iadd, 1) := by decide +kernel
theorem x_364_61 : decode (q_code 364) 61 = .ok (.baload, 1) := by decide +kernel
theorem x_364_62 : decode (q_code 364) 62 = .ok (.ifCond .eq 9, 3) := by decide +kernel
theorem x_364_65 : decode (q_code 364) 65 = .ok (.iinc 5 1, 3) := by decide +kernel
theorem x_364_68 : decode (q_code 364) 68 = .ok (.goto (-19), 3) := by decide +kernel
theorem x_364_71 : decode (q_code 364) 71 = .ok (.aload_n 0, 1) := by decide +kernel
theorem x_364_72 : decode (q_code 364) 72 = .ok (.getfield 59, 3) := by decide +kernel
theorem x_364_75 : decode (q_code 364) 75 = .ok (.iload_n 1, 1) := by decide +kernel
theorem x_364_76 : decode (q_code 364) 76 = .ok (.sipush 1500, 3) := by decide +kernel
theorem x_364_79 : decode (q_code 364) 79 = .ok (.imul, 1) := by decide +kernel
theorem x_364_80 : decode (q_code 364) 80 = .ok (.iload 5, 2) := by decide +kernel
theorem x_364_82 : decode (q_code 364) 82 = .ok (.iadd, 1) := by decide +kernel
theorem x_364_83 : decode (q_code 364) 83 = .ok (.iconst 1, 1) := by decide +kernel
theorem x_364_84 : decode (q_code 364) 84 = .ok (.bastore, 1) := by decide +kernel
theorem x_364_85 : decode (q_code 364) 85 = .ok (.aload_n 0, 1) := by decide +kernel
theorem x_364_86 : decode (q_code 364) 86 = .ok (.getfield 62, 3) := by decide +kernel
theorem x_364_89 : decode (q_code 364) 89 = .ok (.iload_n 1, 1) := by decide +kernel
theorem x_364_90 : decode (q_code 364) 90 = .ok (.sipush 1500, 3) := by decide +kernel
theorem x_364_93 : decode (q_code 364) 93 = .ok (.imul, 1) := by decide +kernel
theorem x_364_94 : decode (q_code 364) 94 = .ok (.iload 5, 2) := by decide +kernel
theorem x_364_96 : decode (q_code 364) 96 = .ok (.iadd, 1) := by decide +kernel
theorem x_364_97 : decode (q_code 364) 97 = .ok (.iload 4, 2) := by decide +kernel
theorem x_364_99 : decode (q_code 364) 99 = .ok (.iastore, 1) := by decide +kernel
theorem x_364_100 : decode (q_code 364) 100 = .ok (.aload_n 0, 1) := by decide +kernel
theorem x_364_101 : decode (q_code 364) 101 = .ok (.aload_n 0, 1) := by decide +kernel
theorem x_364_102 : decode (q_code 364) 102 = .ok (.iload_n 1, 1) := by decide +kernel
theorem x_364_103 : decode (q_code 364) 103 = .ok (.iload 5, 2) := by decide +kernel
theorem x_364_105 : decode (q_code 364) 105 = .ok (.iconst 0, 1) := by decide +kernel
theorem x_364_106 : decode (q_code 364) 106 = .ok (.invokevirtual 743, 3) := by decide +kernel
theorem x_364_109 : decode (q_code 364) 109 = .ok (.aload_n 0, 1) := by decide +kernel
theorem x_364_110 : decode (q_code 364) 110 = .ok (.iload_n 1, 1) := by decide +kernel
theorem x_364_111 : decode (q_code 364) 111 = .ok (.iload 5, 2) := by decide +kernel
theorem x_364_113 : decode (q_code 364) 113 = .ok (.iconst 1, 1) := by decide +kernel
theorem x_364_114 : decode (q_code 364) 114 = .ok (.invokevirtual 743, 3) := by decide +kernel
theorem x_364_117 : decode (q_code 364) 117 = .ok (.invokevirtual 456, 3) := by decide +kernel
theorem x_364_120 : decode (q_code 364) 120 = .ok (.aload_n 0, 1) := by decide +kernel
theorem x_364_121 : decode (q_code 364) 121 = .ok (.aload_n 0, 1) := by decide +kernel
theorem x_364_122 : decode (q_code 364) 122 = .ok (.getfield 10, 3) := by decide +kernel
theorem x_364_125 : decode (q_code 364) 125 = .ok (.iload_n 2, 1) := by decide +kernel
theorem x_364_126 : decode (q_code 364) 126 = .ok (.baload, 1) := by decide +kernel
theorem x_364_127 : decode (q_code 364) 127 = .ok (.invokevirtual 204, 3) := by decide +kernel
theorem x_364_130 : decode (q_code 364) 130 = .ok (.aload_n 0, 1) := by decide +kernel
theorem x_364_131 : decode (q_code 364) 131 = .ok (.iconst 0, 1) := by decide +kernel
theorem x_364_132 : decode (q_code 364) 132 = .ok (.invokevirtual 204, 3) := by decide +kernel
theorem x_364_135 : decode (q_code 364) 135 = .ok (.aload_n 0, 1) := by decide +kernel
theorem x_364_136 : decode (q_code 364) 136 = .ok (.iload_n 2, 1) := by decide +kernel
theorem x_364_137 : decode (q_code 364) 137 = .ok (.invokevirtual 217, 3) := by decide +kernel
theorem x_364_140 : decode (q_code 364) 140 = .ok (.aload_n 0, 1) := by decide +kernel
theorem x_364_141 : decode (q_code 364) 141 = .ok (.aload_n 0, 1) := by decide +kernel
theorem x_364_142 : decode (q_code 364) 142 = .ok (.iload_n 1, 1) := by decide +kernel
theorem x_364_143 : decode (q_code 364) 143 = .ok (.iload 5, 2) := by decide +kernel
theorem x_364_145 : decode (q_code 364) 145 = .ok (.iconst 1, 1) := by decide +kernel
theorem x_364_146 : decode (q_code 364) 146 = .ok (.invokevirtual 743, 3) := by decide +kernel
theorem x_364_149 : decode (q_code 364) 149 = .ok (.aload_n 0, 1) := by decide +kernel
theorem x_364_150 : decode (q_code 364) 150 = .ok (.iload_n 1, 1) := by decide +kernel
theorem x_364_151 : decode (q_code 364) 151 = .ok (.iload 5, 2) := by decide +kernel
theorem x_364_153 : decode (q_code 364) 153 = .ok (.iconst 1, 1) := by decide +kernel
theorem x_364_154 : decode (q_code 364) 154 = .ok (.invokevirtual 743, 3) := by decide +kernel
theorem x_364_157 : decode (q_code 364) 157 = .ok (.bipush 66, 2) := by decide +kernel
theorem x_364_159 : decode (q_code 364) 159 = .ok (.iadd, 1) := by decide +kernel
theorem x_364_160 : decode (q_code 364) 160 = .ok (.invokevirtual 456, 3) := by decide +kernel
theorem x_364_163 : decode (q_code 364) 163 = .ok (.aload_n 0, 1) := by decide +kernel
theorem x_364_164 : decode (q_code 364) 164 = .ok (.aload_n 0, 1) := by decide +kernel
theorem x_364_165 : decode (q_code 364) 165 = .ok (.getfield 10, 3) := by decide +kernel
theorem x_364_168 : decode (q_code 364) 168 = .ok (.iload_n 3, 1) := by decide +kernel
theorem x_364_169 : decode (q_code 364) 169 = .ok (.baload, 1) := by decide +kernel
theorem x_364_170 : decode (q_code 364) 170 = .ok (.invokevirtual 204, 3) := by decide +kernel
theorem x_364_173 : decode (q_code 364) 173 = .ok (.aload_n 0, 1) := by decide +kernel
theorem x_364_174 : decode (q_code 364) 174 = .ok (.iconst 0, 1) := by decide +kernel
theorem x_364_175 : decode (q_code 364) 175 = .ok (.invokevirtual 204, 3) := by decide +kernel
theorem x_364_178 : decode (q_code 364) 178 = .ok (.aload_n 0, 1) := by decide +kernel
theorem x_364_179 : decode (q_code 364) 179 = .ok (.iload_n 3, 1) := by decide +kernel
theorem x_364_180 : decode (q_code 364) 180 = .ok (.invokevirtual 217, 3) := by decide +kernel
theorem x_364_183 : decode (q_code 364) 183 = .ok (.iload 5, 2) := by decide +kernel
theorem x_364_185 : decode (q_code 364) 185 = .ok (.ireturn, 1) := by decide +kernel
theorem x_365_0 : decode (q_code 365) 0 = .ok (.iconst 0, 1) := by decide +kernel
theorem x_365_1 : decode (q_code 365) 1 = .ok (.istore_n 2, 1) := by decide +kernel
theorem x_365_2 : decode (q_code 365) 2 = .ok (.iload_n 2, 1) := by decide +kernel
theorem x_365_3 : decode (q_code 365) 3 = .ok (.sipush 1500, 3) := by decide +kernel
theorem x_365_6 : decode (q_code 365) 6 = .ok (.if_icmp .ge 22, 3) := by decide +kernel
theorem x_365_9 : decode (q_code 365) 9 = .ok (.aload_n 0, 1) := by decide +kernel
theorem x_365_10 : decode (q_code 365) 10 = .ok (.getfield 59, 3) := by decide +kernel
theorem x_365_13 : decode (q_code 365) 13 = .ok (.iload_n 1, 1) := by decide +kernel
theorem x_365_14 : decode (q_code 365) 14 = .ok (.sipush 1500, 3) := by decide +kernel
theorem x_365_17 : decode (q_code 365) 17 = .ok (.imul, 1) := by decide +kernel
theorem x_365_18 : decode (q_code 365) 18 = .ok (.iload_n 2, 1) := by decide +kernel
theorem x_365_19 : decode (q_code 365) 19 = .ok (.iadd, 1) := by decide +kernel
theorem x_365_20 : decode (q_code 365) 20 = .ok (.iconst 0, 1) := by decide +kernel
theorem x_365_21 : decode (q_code 365) 21 = .ok (.bastore, 1) := by decide +kernel
theorem x_365_22 : decode (q_code 365) 22 = .ok (.iinc 2 1, 3) := by decide +kernel
theorem x_365_25 : decode (q_code 365) 25 = .ok (.goto (-23), 3) := by decide +kernel
theorem x_365_28 : decode (q_code 365) 28 = .ok (.iconst 0, 1) := by decide +kernel
theorem x_365_29 : decode (q_code 365) 29 = .ok (.istore_n 2, 1) := by decide +kernel
theorem x_365_30 : decode (q_code 365) 30 = .ok (.iload_n 2, 1) := by decide +kernel
theorem x_365_31 : decode (q_code 365) 31 = .ok (.sipush 600, 3) := by decide +kernel
theorem x_365_34 : decode (q_code 365) 34 = .ok (.if_icmp .ge 127, 3) := by decide +kernel
theorem x_365_37 : decode (q_code 365) 37 = .ok (.aload_n 0, 1) := by decide +kernel
theorem x_365_38 : decode (q_code 365) 38 = .ok (.getfield 69, 3) := by decide +kernel
theorem x_365_41 : decode (q_code 365) 41 = .ok (.iload_n 1, 1) := by decide +kernel
theorem x_365_42 : decode (q_code 365) 42 = .ok (.sipush 600, 3) := by decide +kernel
theorem x_365_45 : decode (q_code 365) 45 = .ok (.imul, 1) := by decide +kernel
theorem x_365_46 : decode (q_code 365) 46 = .ok (.iload_n 2, 1) := by decide +kernel
theorem x_365_47 : decode (q_code 365) 47 = .ok (.iadd, 1) := by decide +kernel
theorem x_365_48 : decode (q_code 365) 48 = .ok (.baload, 1) := by decide +kernel
theorem x_365_49 : decode (q_code 365) 49 = .ok (.ifCond .ne 6, 3) := by decide +kernel
theorem x_365_52 : decode (q_code 365) 52 = .ok (.goto 103, 3) := by decide +kernel
theorem x_365_55 : decode (q_code 365) 55 = .ok (.bipush 10, 2) := by decide +kernel
theorem x_365_57 : decode (q_code 365) 57 = .ok (.iload_n 1, 1) := by decide +kernel
theorem x_365_58 : decode (q_code 365) 58 = .ok (.sipush 600, 3) := by decide +kernel
theorem x_365_61 : decode (q_code 365) 61 = .ok (.imul, 1) := by decide +kernel
theorem x_365_62 : decode (q_code 365) 62 = .ok (.iload_n 2, 1) := by decide +kernel
theorem x_365_63 : decode (q_code 365) 63 = .ok (.iadd, 1) := by decide +kernel
theorem x_365_64 : decode (q_code 365) 64 = .ok (.imul, 1) := by decide +kernel
theorem x_365_65 : decode (q_code 365) 65 = .ok (.istore_n 3, 1) := by decide +kernel
theorem x_365_66 : decode (q_code 365) 66 = .ok (.aload_n 0, 1) := by decide +kernel
theorem x_365_67 : decode (q_code 365) 67 = .ok (.iload_n 1, 1) := by decide +kernel
theorem x_365_68 : decode (q_code 365) 68 = .ok (.iload_n 2, 1) := by decide +kernel
theorem x_365_69 : decode (q_code 365) 69 = .ok (.invokevirtual 746, 3) := by decide +kernel
theorem x_365_72 : decode (q_code 365) 72 = .ok (.istore 4, 2) := by decide +kernel
theorem x_365_74 : decode (q_code 365) 74 = .ok (.iconst 0, 1) := by decide +kernel
theorem x_365_75 : decode (q_code 365) 75 = .ok (.istore 5, 2) := by decide +kernel
theorem x_365_77 : decode (q_code 365) 77 = .ok (.iload 5, 2) := by decide +kernel
theorem x_365_79 : decode (q_code 365) 79 = .ok (.iload 4, 2) := by decide +kernel
theorem x_365_81 : decode (q_code 365) 81 = .ok (.if_icmp .ge 74, 3) := by decide +kernel
theorem x_365_84 : decode (q_code 365) 84 = .ok (.aload_n 0, 1) := by decide +kernel
theorem x_365_85 : decode (q_code 365) 85 = .ok (.getfield 72, 3) := by decide +kernel
theorem x_365_88 : decode (q_code 365) 88 = .ok (.iload_n 1, 1) := by decide +kernel
theorem x_365_89 : decode (q_code 365) 89 = .ok (.sipush 600, 3) := by decide +kernel
theorem x_365_92 : decode (q_code 365) 92 = .ok (.imul, 1) := by decide +kernel
theorem x_365_93 : decode (q_code 365) 93 = .ok (.iload_n 2, 1) := by decide +kernel
theorem x_365_94 : decode (q_code 365) 94 = .ok (.iadd, 1) := by decide +kernel
theorem x_365_95 : decode (q_code 365) 95 = .ok (.baload, 1) := by decide +kernel
theorem x_365_96 : decode (q_code 365) 96 = .ok (.ifCond .eq 27, 3) := by decide +kernel
theorem x_365_99 : decode (q_code 365) 99 = .ok (.aload_n 0, 1) := by decide +kernel
theorem x_365_100 : decode (q_code 365) 100 = .ok (.getfield 59, 3) := by decide +kernel
theorem x_365_103 : decode (q_code 365) 103 = .ok (.iload_n 1, 1) := by decide +kernel
theorem x_365_104 : decode (q_code 365) 104 = .ok (.sipush 1500, 3) := by decide +kernel
theorem x_365_107 : decode (q_code 365) 107 = .ok (.imul, 1) := by decide +kernel
theorem x_365_108 : decode (q_code 365) 108 = .ok (.aload_n 0, 1) := by decide +kernel
theorem x_365_109 : decode (q_code 365) 109 = .ok (.getfield 79, 3) := by decide +kernel
theorem x_365_112 : decode (q_code 365) 112 = .ok (.iload_n 3, 1) := by decide +kernel
theorem x_365_113 : decode (q_code 365) 113 = .ok (.iload 5, 2) := by decide +kernel
theorem x_365_115 : decode (q_code 365) 115 = .ok (.iadd, 1) := by decide +kernel
theorem x_365_116 : decode (q_code 365) 116 = .ok (.iaload, 1) := by decide +kernel
theorem x_365_117 : decode (q_code 365) 117 = .ok (.iadd, 1) := by decide +kernel
theorem x_365_118 : decode (q_code 365) 118 = .ok (.iconst 1, 1) := by decide +kernel
theorem x_365_119 : decode (q_code 365) 119 = .ok (.bastore, 1) := by decide +kernel
theorem x_365_120 : decode (q_code 365) 120 = .ok (.goto 29, 3) := by decide +kernel
theorem x_365_123 : decode (q_code 365) 123 = .ok (.iload 5, 2) := by decide +kernel
theorem x_365_125 : decode (q_code 365) 125 = .ok (.ifCond .le 24, 3) := by decide +kernel
theorem x_365_128 : decode (q_code 365) 128 = .ok (.aload_n 0, 1) := by decide +kernel
theorem x_365_129 : decode (q_code 365) 129 = .ok (.getfield 59, 3) := by decide +kernel
theorem x_365_132 : decode (q_code 365) 132 = .ok (.iload_n 1, 1) := by decide +kernel
theorem x_365_133 : decode (q_code 365) 133 = .ok (.sipush 1500, 3) := by decide +kernel
theorem x_365_136 : decode (q_code 365) 136 = .ok (.imul, 1) := by decide +kernel
theorem x_365_137 : decode (q_code 365) 137 = .ok (.aload_n 0, 1) := by decide +kernel
theorem x_365_138 : decode (q_code 365) 138 = .ok (.getfield 82, 3) := by decide +kernel
theorem x_365_141 : decode (q_code 365) 141 = .ok (.iload_n 3, 1) := by decide +kernel
theorem x_365_142 : decode (q_code 365) 142 = .ok (.iload 5, 2) := by decide +kernel
theorem x_365_144 : decode (q_code 365) 144 = .ok (.iadd, 1) := by decide +kernel
theorem x_365_145 : decode (q_code 365) 145 = .ok (.iaload, 1) := by decide +kernel
theorem x_365_146 : decode (q_code 365) 146 = .ok (.iadd, 1) := by decide +kernel
theorem x_365_147 : decode (q_code 365) 147 = .ok (.iconst 1, 1) := by decide +kernel
theorem x_365_148 : decode (q_code 365) 148 = .ok (.bastore, 1) := by decide +kernel
theorem x_365_149 : decode (q_code 365) 149 = .ok (.iinc 5 1, 3) := by decide +kernel
theorem x_365_152 : decode (q_code 365) 152 = .ok (.goto (-75), 3) := by decide +kernel
theorem x_365_155 : decode (q_code 365) 155 = .ok (.iinc 2 1, 3) := by decide +kernel
theorem x_365_158 : decode (q_code 365) 158 = .ok (.goto (-128), 3) := by decide +kernel
theorem x_365_161 : decode (q_code 365) 161 = .ok (.aload_n 0, 1) := by decide +kernel
theorem x_365_162 : decode (q_code 365) 162 = .ok (.getfield 65, 3) := by decide +kernel
theorem x_365_165 : decode (q_code 365) 165 = .ok (.ifCond .lt 19, 3) := by decide +kernel
theorem x_365_168 : decode (q_code 365) 168 = .ok (.aload_n 0, 1) := by decide +kernel
theorem x_365_169 : decode (q_code 365) 169 = .ok (.getfield 59, 3) := by decide +kernel
theorem x_365_172 : decode (q_code 365) 172 = .ok (.iload_n 1, 1) := by decide +kernel
theorem x_365_173 : decode (q_code 365) 173 = .ok (.sipush 1500, 3) := by decide +kernel
theorem x_365_176 : decode (q_code 365) 176 = .ok (.imul, 1) := by decide +kernel
theorem x_365_177 : decode (q_code 365) 177 = .ok (.aload_n 0, 1) := by decide +kernel
theorem x_365_178 : decode (q_code 365) 178 = .ok (.getfield 65, 3) := by decide +kernel
theorem x_365_181 : decode (q_code 365) 181 = .ok (.iadd, 1) := by decide +kernel
theorem x_365_182 : decode (q_code 365) 182 = .ok (.iconst 1, 1) := by decide +kernel
theorem x_365_183 : decode (q_code 365) 183 = .ok (.bastore, 1) := by decide +kernel
theorem x_365_184 : decode (q_code 365) 184 = .ok (.return_, 1) := by decide +kernel
theorem x_366_0 : decode (q_code 366) 0 = .ok (.iconst 0, 1) := by decide +kernel
theorem x_366_1 : decode (q_code 366) 1 = .ok (.istore 4, 2) := by decide +kernel
theorem x_366_3 : decode (q_code 366) 3 = .ok (.iload 4, 2) := by decide +kernel
theorem x_366_5 : decode (q_code 366) 5 = .ok (.iconst 2, 1) := by decide +kernel
theorem x_366_6 : decode (q_code 366) 6 = .ok (.if_icmp .ge 59, 3) := by decide +kernel
theorem x_366_9 : decode (q_code 366) 9 = .ok (.aload_n 0, 1) := by decide +kernel
theorem x_366_10 : decode (q_code 366) 10 = .ok (.aload_n 0, 1) := by decide +kernel
theorem x_366_11 : decode (q_code 366) 11 = .ok (.iload_n 1, 1) := by decide +kernel
theorem x_366_12 : decode (q_code 366) 12 = .ok (.iload_n 2, 1) := by decide +kernel
theorem x_366_13 : decode (q_code 366) 13 = .ok (.iload 4, 2) := by decide +kernel
theorem x_366_15 : decode (q_code 366) 15 = .ok (.invokevirtual 743, 3) := by decide +kernel
theorem x_366_18 : decode (q_code 366) 18 = .ok (.aload_n 0, 1) := by decide +kernel
theorem x_366_19 : decode (q_code 366) 19 = .ok (.iload_n 1, 1) := by decide +kernel
theorem x_366_20 : decode (q_code 366) 20 = .ok (.iload_n 3, 1) := by decide +kernel
theorem x_366_21 : decode (q_code 366) 21 = .ok (.iload 4, 2) := by decide +kernel
theorem x_366_23 : decode (q_code 366) 23 = .ok (.invokevirtual 743, 3) := by decide +kernel
theorem x_366_26 : decode (q_code 366) 26 = .ok (.invokevirtual 284, 3) := by decide +kernel
theorem x_366_29 : decode (q_code 366) 29 = .ok (.istore 5, 2) := by decide +kernel
theorem x_366_31 : decode (q_code 366) 31 = .ok (.iload 5, 2) := by decide +kernel
theorem x_366_33 : decode (q_code 366) 33 = .ok (.ifCond .eq 26, 3) := by decide +kernel
theorem x_366_36 : decode (q_code 366) 36 = .ok (.aload_n 0, 1) := by decide +kernel
theorem x_366_37 : decode (q_code 366) 37 = .ok (.getfield 53, 3) := by decide +kernel
theorem x_366_40 : decode (q_code 366) 40 = .ok (.iconst 2, 1) := by decide +kernel
theorem x_366_41 : decode (q_code 366) 41 = .ok (.iload_n 1, 1) := by decide +kernel
theorem x_366_42 : decode (q_code 366) 42 = .ok (.imul, 1) := by decide +kernel
theorem x_366_43 : decode (q_code 366) 43 = .ok (.iload 4, 2) := by decide +kernel
theorem x_366_45 : decode (q_code 366) 45 = .ok (.iadd, 1) := by decide +kernel
theorem x_366_46 : decode (q_code 366) 46 = .ok (.baload, 1) := by decide +kernel
theorem x_366_47 : decode (q_code 366) 47 = .ok (.ifCond .eq 9, 3) := by decide +kernel
theorem x_366_50 : decode (q_code 366) 50 = .ok (.iload 5, 2) := by decide +kernel
theorem x_366_52 : decode (q_code 366) 52 = .ok (.ineg, 1) := by decide +kernel
theorem x_366_53 : decode (q_code 366) 53 = .ok (.goto 5, 3) := by decide +kernel
theorem x_366_56 : decode (q_code 366) 56 = .ok (.iload 5, 2) := by decide +kernel
theorem x_366_58 : decode (q_code 366) 58 = .ok (.ireturn, 1) := by decide +kernel
theorem x_366_59 : decode (q_code 366) 59 = .ok (.iinc 4 1, 3) := by decide +kernel
theorem x_366_62 : decode (q_code 366) 62 = .ok (.goto (-59), 3) := by decide +kernel
theorem x_366_65 : decode (q_code 366) 65 = .ok (.aload_n 0, 1) := by decide +kernel
theorem x_366_66 : decode (q_code 366) 66 = .ok (.getfield 62, 3) := by decide +kernel
theorem x_366_69 : decode (q_code 366) 69 = .ok (.iload_n 1, 1) := by decide +kernel
theorem x_366_70 : decode (q_code 366) 70 = .ok (.sipush 1500, 3) := by decide +kernel
theorem x_366_73 : decode (q_code 366) 73 = .ok (.imul, 1) := by decide +kernel
theorem x_366_74 : decode (q_code 366) 74 = .ok (.iload_n 2, 1) := by decide +kernel
theorem x_366_75 : decode (q_code 366) 75 = .ok (.iadd, 1) := by decide +kernel
theorem x_366_76 : decode (q_code 366) 76 = .ok (.iaload, 1) := by decide +kernel
theorem x_366_77 : decode (q_code 366) 77 = .ok (.aload_n 0, 1) := by decide +kernel
theorem x_366_78 : decode (q_code 366) 78 = .ok (.getfield 62, 3) := by decide +kernel
theorem x_366_81 : decode (q_code 366) 81 = .ok (.iload_n 1, 1) := by decide +kernel
theorem x_366_82 : decode (q_code 366) 82 = .ok (.sipush 1500, 3) := by decide +kernel
theorem x_366_85 : decode (q_code 366) 85 = .ok (.imul, 1) := by decide +kernel
theorem x_366_86 : decode (q_code 366) 86 = .ok (.iload_n 3, 1) := by decide +kernel
theorem x_366_87 : decode (q_code 366) 87 = .ok (.iadd, 1) := by decide +kernel
theorem x_366_88 : decode (q_code 366) 88 = .ok (.iaload, 1) := by decide +kernel
theorem x_366_89 : decode (q_code 366) 89 = .ok (.isub, 1) := by decide +kernel
theorem x_366_90 : decode (q_code 366) 90 = .ok (.ireturn, 1) := by decide +kernel
theorem x_367_0 : decode (q_code 367) 0 = .ok (.aload_n 0, 1) := by decide +kernel
theorem x_367_1 : decode (q_code 367) 1 = .ok (.getfield 75, 3) := by decide +kernel
theorem x_367_4 : decode (q_code 367) 4 = .ok (.iload_n 1, 1) := by decide +kernel
theorem x_367_5 : decode (q_code 367) 5 = .ok (.sipush 600, 3) := by decide +kernel
theorem x_367_8 : decode (q_code 367) 8 = .ok (.imul, 1) := by decide +kernel
theorem x_367_9 : decode (q_code 367) 9 = .ok (.iload_n 2, 1) := by decide +kernel
theorem x_367_10 : decode (q_code 367) 10 = .ok (.iadd, 1) := by decide +kernel
theorem x_367_11 : decode (q_code 367) 11 = .ok (.iaload, 1) := by decide +kernel
theorem x_367_12 : decode (q_code 367) 12 = .ok (.ireturn, 1) := by decide +kernel
theorem x_368_0 : decode (q_code 368) 0 = .ok (.aload_n 0, 1) := by decide +kernel
theorem x_368_1 : decode (q_code 368) 1 = .ok (.getfield 75, 3) := by decide +kernel
theorem x_368_4 : decode (q_code 368) 4 = .ok (.iload_n 1, 1) := by decide +kernel
theorem x_368_5 : decode (q_code 368) 5 = .ok (.sipush 600, 3) := by decide +kernel
theorem x_368_8 : decode (q_code 368) 8 = .ok (.imul, 1) := by decide +kernel
theorem x_368_9 : decode (q_code 368) 9 = .ok (.iload_n 2, 1) := by decide +kernel
theorem x_368_10 : decode (q_code 368) 10 = .ok (.iadd, 1) := by decide +kernel
theorem x_368_11 : decode (q_code 368) 11 = .ok (.iload_n 3, 1) := by decide +kernel
theorem x_368_12 : decode (q_code 368) 12 = .ok (.iastore, 1) := by decide +kernel
theorem x_368_13 : decode (q_code 368) 13 = .ok (.return_, 1) := by decide +kernel
theorem x_369_0 : decode (q_code 369) 0 = .ok (.bipush 10, 2) := by decide +kernel
theorem x_369_2 : decode (q_code 369) 2 = .ok (.iload_n 1, 1) := by decide +kernel
theorem x_369_3 : decode (q_code 369) 3 = .ok (.sipush 600, 3) := by decide +kernel
theorem x_369_6 : decode (q_code 369) 6 = .ok (.imul, 1) := by decide +kernel
theorem x_369_7 : decode (q_code 369) 7 = .ok (.iload_n 2, 1) := by decide +kernel
theorem x_369_8 : decode (q_code 369) 8 = .ok (.iadd, 1) := by decide +kernel
theorem x_369_9 : decode (q_code 369) 9 = .ok (.imul, 1) := by decide +kernel
theorem x_369_10 : decode (q_code 369) 10 = .ok (.iload_n 3, 1) := by decide +kernel
theorem x_369_11 : decode (q_code 369) 11 = .ok (.iadd, 1) := by decide +kernel
theorem x_369_12 : decode (q_code 369) 12 = .ok (.ireturn, 1) := by decide +kernel
theorem x_370_0 : decode (q_code 370) 0 = .ok (.iconst 0, 1) := by decide +kernel
theorem x_370_1 : decode (q_code 370) 1 = .ok (.istore_n 3, 1) := by decide +kernel
theorem x_370_2 : decode (q_code 370) 2 = .ok (.aload_n 0, 1) := by decide +kernel
theorem x_370_3 : decode (q_code 370) 3 = .ok (.getfield 69, 3) := by decide +kernel
theorem x_370_6 : decode (q_code 370) 6 = .ok (.iload_n 1, 1) := by decide +kernel
theorem x_370_7 : decode (q_code 370) 7 = .ok (.sipush 600, 3) := by decide +kernel
theorem x_370_10 : decode (q_code 370) 10 = .ok (.imul, 1) := by decide +kernel
theorem x_370_11 : decode (q_code 370) 11 = .ok (.iload_n 3, 1) := by decide +kernel
theorem x_370_12 : decode (q_code 370) 12 = .ok (.iadd, 1) := by decide +kernel
theorem x_370_13 : decode (q_code 370) 13 = .ok (.baload, 1) := by decide +kernel
theorem x_370_14 : decode (q_code 370) 14 = .ok (.ifCond .eq 9, 3) := by decide +kernel
theorem x_370_17 : decode (q_code 370) 17 = .ok (.iinc 3 1, 3) := by decide +kernel
theorem x_370_20 : decode (q_code 370) 20 = .ok (.goto (-18), 3) := by decide +kernel
theorem x_370_23 : decode (q_code 370) 23 = .ok (.aload_n 0, 1) := by decide +kernel
theorem x_370_24 : decode (q_code 370) 24 = .ok (.getfield 69, 3) := by decide +kernel
theorem x_370_27 : decode (q_code 370) 27 = .ok (.iload_n 1, 1) := by decide +kernel
theorem x_370_28 : decode (q_code 370) 28 = .ok (.sipush 600, 3) := by decide +kernel
theorem x_370_31 : decode (q_code 370) 31 = .ok (.imul, 1) := by decide +kernel
theorem x_370_32 : decode (q_code 370) 32 = .ok (.iload_n 3, 1) := by decide +kernel
theorem x_370_33 : decode (q_code 370) 33 = .ok (.iadd, 1) := by decide +kernel
theorem x_370_34 : decode (q_code 370) 34 = .ok (.iconst 1, 1) := by decide +kernel
theorem x_370_35 : decode (q_code 370) 35 = .ok (.bastore, 1) := by decide +kernel
theorem x_370_36 : decode (q_code 370) 36 = .ok (.aload_n 0, 1) := by decide +kernel
theorem x_370_37 : decode (q_code 370) 37 = .ok (.getfield 72, 3) := by decide +kernel
theorem x_370_40 : decode (q_code 370) 40 = .ok (.iload_n 1, 1) := by decide +kernel
theorem x_370_41 : decode (q_code 370) 41 = .ok (.sipush 600, 3) := by decide +kernel
theorem x_370_44 : decode (q_code 370) 44 = .ok (.imul, 1) := by decide +kernel
theorem x_370_45 : decode (q_code 370) 45 = .ok (.iload_n 3, 1) := by decide +kernel
theorem x_370_46 : decode (q_code 370) 46 = .ok (.iadd, 1) := by decide +kernel
theorem x_370_47 : decode (q_code 370) 47 = .ok (.iload_n 2, 1) := by decide +kernel
theorem x_370_48 : decode (q_code 370) 48 = .ok (.bastore, 1) := by decide +kernel
theorem x_370_49 : decode (q_code 370) 49 = .ok (.aload_n 0, 1) := by decide +kernel
theorem x_370_50 : decode (q_code 370) 50 = .ok (.iload_n 1, 1) := by decide +kernel
theorem x_370_51 : decode (q_code 370) 51 = .ok (.iload_n 3, 1) := by decide +kernel
theorem x_370_52 : decode (q_code 370) 52 = .ok (.iconst 0, 1) := by decide +kernel
theorem x_370_53 : decode (q_code 370) 53 = .ok (.invokevirtual 749, 3) := by decide +kernel
theorem x_370_56 : decode (q_code 370) 56 = .ok (.iload_n 3, 1) := by decide +kernel
theorem x_370_57 : decode (q_code 370) 57 = .ok (.ireturn, 1) := by decide +kernel
theorem x_371_0 : decode (q_code 371) 0 = .ok (.iconst 0, 1) := by decide +kernel
theorem x_371_1 : decode (q_code 371) 1 = .ok (.istore_n 2, 1) := by decide +kernel
theorem x_371_2 : decode (q_code 371) 2 = .ok (.iload_n 2, 1) := by decide +kernel
theorem x_371_3 : decode (q_code 371) 3 = .ok (.sipush 600, 3) := by decide +kernel
theorem x_371_6 : decode (q_code 371) 6 = .ok (.if_icmp .ge 22, 3) := by decide +kernel
theorem x_371_9 : decode (q_code 371) 9 = .ok (.aload_n 0, 1) := by decide +kernel
theorem x_371_10 : decode (q_code 371) 10 = .ok (.getfield 69, 3) := by decide +kernel
theorem x_371_13 : decode (q_code 371) 13 = .ok (.iload_n 1, 1) := by decide +kernel
theorem x_371_14 : decode (q_code 371) 14 = .ok (.sipush 600, 3) := by decide +kernel
theorem x_371_17 : decode (q_code 371) 17 = .ok (.imul, 1) := by decide +kernel
theorem x_371_18 : decode (q_code 371) 18 = .ok (.iload_n 2, 1) := by decide +kernel
theorem x_371_19 : decode (q_code 371) 19 = .ok (.iadd, 1) := by decide +kernel
theorem x_371_20 : decode (q_code 371) 20 = .ok (.iconst 0, 1) := by decide +kernel
theorem x_371_21 : decode (q_code 371) 21 = .ok (.bastore, 1) := by decide +kernel
theorem x_371_22 : decode (q_code 371) 22 = .ok (.iinc 2 1, 3) := by decide +kernel
theorem x_371_25 : decode (q_code 371) 25 = .ok (.goto (-23), 3) := by decide +kernel
theorem x_371_28 : decode (q_code 371) 28 = .ok (.iconst 0, 1) := by decide +kernel
theorem x_371_29 : decode (q_code 371) 29 = .ok (.istore_n 2, 1) := by decide +kernel
theorem x_371_30 : decode (q_code 371) 30 = .ok (.iload_n 2, 1) := by decide +kernel
theorem x_371_31 : decode (q_code 371) 31 = .ok (.sipush 1500, 3) := by decide +kernel
theorem x_371_34 : decode (q_code 371) 34 = .ok (.if_icmp .ge 22, 3) := by decide +kernel
theorem x_371_37 : decode (q_code 371) 37 = .ok (.aload_n 0, 1) := by decide +kernel
theorem x_371_38 : decode (q_code 371) 38 = .ok (.getfield 59, 3) := by decide +kernel
theorem x_371_41 : decode (q_code 371) 41 = .ok (.iload_n 1, 1) := by decide +kernel
theorem x_371_42 : decode (q_code 371) 42 = .ok (.sipush 1500, 3) := by decide +kernel
theorem x_371_45 : decode (q_code 371) 45 = .ok (.imul, 1) := by decide +kernel
theorem x_371_46 : decode (q_code 371) 46 = .ok (.iload_n 2, 1) := by decide +kernel
theorem x_371_47 : decode (q_code 371) 47 = .ok (.iadd, 1) := by decide +kernel
theorem x_371_48 : decode (q_code 371) 48 = .ok (.iconst 0, 1) := by decide +kernel
theorem x_371_49 : decode (q_code 371) 49 = .ok (.bastore, 1) := by decide +kernel
theorem x_371_50 : decode (q_code 371) 50 = .ok (.iinc 2 1, 3) := by decide +kernel
theorem x_371_53 : decode (q_code 371) 53 = .ok (.goto (-23), 3) := by decide +kernel
theorem x_371_56 : decode (q_code 371) 56 = .ok (.aload_n 0, 1) := by decide +kernel
theorem x_371_57 : decode (q_code 371) 57 = .ok (.getfield 88, 3) := by decide +kernel
theorem x_371_60 : decode (q_code 371) 60 = .ok (.iload_n 1, 1) := by decide +kernel
theorem x_371_61 : decode (q_code 371) 61 = .ok (.iconst 0, 1) := by decide +kernel
theorem x_371_62 : decode (q_code 371) 62 = .ok (.iastore, 1) := by decide +kernel
theorem x_371_63 : decode (q_code 371) 63 = .ok (.aload_n 0, 1) := by decide +kernel
theorem x_371_64 : decode (q_code 371) 64 = .ok (.getfield 85, 3) := by decide +kernel
theorem x_371_67 : decode (q_code 371) 67 = .ok (.iload_n 1, 1) := by decide +kernel
theorem x_371_68 : decode (q_code 371) 68 = .ok (.aload_n 0, 1) := by decide +kernel
theorem x_371_69 : decode (q_code 371) 69 = .ok (.iload_n 1, 1) := by decide +kernel
theorem x_371_70 : decode (q_code 371) 70 = .ok (.iconst 1, 1) := by decide +kernel
theorem x_371_71 : decode (q_code 371) 71 = .ok (.invokevirtual 752, 3) := by decide +kernel
theorem x_371_74 : decode (q_code 371) 74 = .ok (.iastore, 1) := by decide +kernel
theorem x_371_75 : decode (q_code 371) 75 = .ok (.return_, 1) := by decide +kernel
theorem x_372_0 : decode (q_code 372) 0 = .ok (.aload_n 0, 1) := by decide +kernel
theorem x_372_1 : decode (q_code 372) 1 = .ok (.iload_n 1, 1) := by decide +kernel
theorem x_372_2 : decode (q_code 372) 2 = .ok (.iload_n 2, 1) := by decide +kernel
theorem x_372_3 : decode (q_code 372) 3 = .ok (.invokevirtual 746, 3) := by decide +kernel
theorem x_372_6 : decode (q_code 372) 6 = .ok (.istore 6, 2) := by decide +kernel
theorem x_372_8 : decode (q_code 372) 8 = .ok (.iload 6, 2) := by decide +kernel
theorem x_372_10 : decode (q_code 372) 10 = .ok (.istore 7, 2) := by decide +kernel
theorem x_372_12 : decode (q_code 372) 12 = .ok (.iload 7, 2) := by decide +kernel
theorem x_372_14 : decode (q_code 372) 14 = .ok (.iload_n 3, 1) := by decide +kernel
theorem x_372_15 : decode (q_code 372) 15 = .ok (.if_icmp .le 65, 3) := by decide +kernel
theorem x_372_18 : decode (q_code 372) 18 = .ok (.aload_n 0, 1) := by decide +kernel
theorem x_372_19 : decode (q_code 372) 19 = .ok (.getfield 79, 3) := by decide +kernel
theorem x_372_22 : decode (q_code 372) 22 = .ok (.aload_n 0, 1) := by decide +kernel
theorem x_372_23 : decode (q_code 372) 23 = .ok (.iload_n 1, 1) := by decide +kernel
theorem x_372_24 : decode (q_code 372) 24 = .ok (.iload_n 2, 1) := by decide +kernel
theorem x_372_25 : decode (q_code 372) 25 = .ok (.iload 7, 2) := by decide +kernel
theorem x_372_27 : decode (q_code 372) 27 = .ok (.invokevirtual 755, 3) := by decide +kernel
theorem x_372_30 : decode (q_code 372) 30 = .ok (.aload_n 0, 1) := by decide +kernel
theorem x_372_31 : decode (q_code 372) 31 = .ok (.getfield 79, 3) := by decide +kernel
theorem x_372_34 : decode (q_code 372) 34 = .ok (.aload_n 0, 1) := by decide +kernel
theorem x_372_35 : decode (q_code 372) 35 = .ok (.iload_n 1, 1) := by decide +kernel
theorem x_372_36 : decode (q_code 372) 36 = .ok (.iload_n 2, 1) := by decide +kernel
theorem x_372_37 : decode (q_code 372) 37 = .ok (.iload 7, 2) := by decide +kernel
theorem x_372_39 : decode (q_code 372) 39 = .ok (.iconst 1, 1) := by decide +kernel
theorem x_372_40 : decode (q_code 372) 40 = .ok (.isub, 1) := by decide +kernel
theorem x_372_41 : decode (q_code 372) 41 = .ok (.invokevirtual 755, 3) := by decide +kernel
theorem x_372_44 : decode (q_code 372) 44 = .ok (.iaload, 1) := by decide +kernel
theorem x_372_45 : decode (q_code 372) 45 = .ok (.iastore, 1) := by decide +kernel
theorem x_372_46 : decode (q_code 372) 46 = .ok (.aload_n 0, 1) := by decide +kernel
theorem x_372_47 : decode (q_code 372) 47 = .ok (.getfield 82, 3) := by decide +kernel
theorem x_372_50 : decode (q_code 372) 50 = .ok (.aload_n 0, 1) := by decide +kernel
theorem x_372_51 : decode (q_code 372) 51 = .ok (.iload_n 1, 1) := by decide +kernel
theorem x_372_52 : decode (q_code 372) 52 = .ok (.iload_n 2, 1) := by decide +kernel
theorem x_372_53 : decode (q_code 372) 53 = .ok (.iload 7, 2) := by decide +kernel
theorem x_372_55 : decode (q_code 372) 55 = .ok (.invokevirtual 755, 3) := by decide +kernel
theorem x_372_58 : decode (q_code 372) 58 = .ok (.aload_n 0, 1) := by decide +kernel
theorem x_372_59 : decode (q_code 372) 59 = .ok (.getfield 82, 3) := by decide +kernel
theorem x_372_62 : decode (q_code 372) 62 = .ok (.aload_n 0, 1) := by decide +kernel
theorem x_372_63 : decode (q_code 372) 63 = .ok (.iload_n 1, 1) := by decide +kernel
theorem x_372_64 : decode (q_code 372) 64 = .ok (.iload_n 2, 1) := by decide +kernel
theorem x_372_65 : decode (q_code 372) 65 = .ok (.iload 7, 2) := by decide +kernel
theorem x_372_67 : decode (q_code 372) 67 = .ok (.iconst 1, 1) := by decide +kernel
theorem x_372_68 : decode (q_code 372) 68 = .ok (.isub, 1) := by decide +kernel
theorem x_372_69 : decode (q_code 372) 69 = .ok (.invokevirtual 755, 3) := by decide +kernel
theorem x_372_72 : decode (q_code 372) 72 = .ok (.iaload, 1) := by decide +kernel
theorem x_372_73 : decode (q_code 372) 73 = .ok (.iastore, 1) := by decide +kernel
theorem x_372_74 : decode (q_code 372) 74 = .ok (.iinc 7 (-1), 3) := by decide +kernel
theorem x_372_77 : decode (q_code 372) 77 = .ok (.goto (-65), 3) := by decide +kernel
theorem x_372_80 : decode (q_code 372) 80 = .ok (.aload_n 0, 1) := by decide +kernel
theorem x_372_81 : decode (q_code 372) 81 = .ok (.getfield 79, 3) := by decide +kernel
theorem x_372_84 : decode (q_code 372) 84 = .ok (.aload_n 0, 1) := by decide +kernel
theorem x_372_85 : decode (q_code 372) 85 = .ok (.iload_n 1, 1) := by decide +kernel
theorem x_372_86 : decode (q_code 372) 86 = .ok (.iload_n 2, 1) := by decide +kernel
theorem x_372_87 : decode (q_code 372) 87 = .ok (.iload_n 3, 1) := by decide +kernel
theorem x_372_88 : decode (q_code 372) 88 = .ok (.invokevirtual 755, 3) := by decide +kernel
theorem x_372_91 : decode (q_code 372) 91 = .ok (.iload 4, 2) := by decide +kernel
theorem x_372_93 : decode (q_code 372) 93 = .ok (.iastore, 1) := by decide +kernel
theorem x_372_94 : decode (q_code 372) 94 = .ok (.aload_n 0, 1) := by decide +kernel
theorem x_372_95 : decode (q_code 372) 95 = .ok (.getfield 82, 3) := by decide +kernel
theorem x_372_98 : decode (q_code 372) 98 = .ok (.aload_n 0, 1) := by decide +kernel
theorem x_372_99 : decode (q_code 372) 99 = .ok (.iload_n 1, 1) := by decide +kernel
theorem x_372_100 : decode (q_code 372) 100 = .ok (.iload_n 2, 1) := by decide +kernel
theorem x_372_101 : decode (q_code 372) 101 = .ok (.iload_n 3, 1) := by decide +kernel
theorem x_372_102 : decode (q_code 372) 102 = .ok (.invokevirtual 755, 3) := by decide +kernel
theorem x_372_105 : decode (q_code 372) 105 = .ok (.iload 5, 2) := by decide +kernel
theorem x_372_107 : decode (q_code 372) 107 = .ok (.iastore, 1) := by decide +kernel
theorem x_372_108 : decode (q_code 372) 108 = .ok (.aload_n 0, 1) := by decide +kernel
theorem x_372_109 : decode (q_code 372) 109 = .ok (.iload_n 1, 1) := by decide +kernel
theorem x_372_110 : decode (q_code 372) 110 = .ok (.iload_n 2, 1) := by decide +kernel
theorem x_372_111 : decode (q_code 372) 111 = .ok (.iload 6, 2) := by decide +kernel
theorem x_372_113 : decode (q_code 372) 113 = .ok (.iconst 1, 1) := by decide +kernel
theorem x_372_114 : decode (q_code 372) 114 = .ok (.iadd, 1) := by decide +kernel
theorem x_372_115 : decode (q_code 372) 115 = .ok (.invokevirtual 749, 3) := by decide +kernel
theorem x_372_118 : decode (q_code 372) 118 = .ok (.return_, 1) := by decide +kernel
theorem x_373_0 : decode (q_code 373) 0 = .ok (.aload_n 0, 1) := by decide +kernel
theorem x_373_1 : decode (q_code 373) 1 = .ok (.iload_n 1, 1) := by decide +kernel
theorem x_373_2 : decode (q_code 373) 2 = .ok (.iload_n 2, 1) := by decide +kernel
theorem x_373_3 : decode (q_code 373) 3 = .ok (.invokevirtual 746, 3) := by decide +kernel
theorem x_373_6 : decode (q_code 373) 6 = .ok (.iconst 1, 1) := by decide +kernel
theorem x_373_7 : decode (q_code 373) 7 = .ok (.isub, 1) := by decide +kernel
theorem x_373_8 : decode (q_code 373) 8 = .ok (.istore 4, 2) := by decide +kernel
theorem x_373_10 : decode (q_code 373) 10 = .ok (.iload_n 3, 1) := by decide +kernel
theorem x_373_11 : decode (q_code 373) 11 = .ok (.istore 5, 2) := by decide +kernel
theorem x_373_13 : decode (q_code 373) 13 = .ok (.iload 5, 2) := by decide +kernel
theorem x_373_15 : decode (q_code 373) 15 = .ok (.iload 4, 2) := by decide +kernel
theorem x_373_17 : decode (q_code 373) 17 = .ok (.if_icmp .ge 65, 3) := by decide +kernel
theorem x_373_20 : decode (q_code 373) 20 = .ok (.aload_n 0, 1) := by decide +kernel
theorem x_373_21 : decode (q_code 373) 21 = .ok (.getfield 79, 3) := by decide +kernel
theorem x_373_24 : decode (q_code 373) 24 = .ok (.aload_n 0, 1) := by decide +kernel
theorem x_373_25 : decode (q_code 373) 25 = .ok (.iload_n 1, 1) := by decide +kernel
theorem x_373_26 : decode (q_code 373) 26 = .ok (.iload_n 2, 1) := by decide +kernel
theorem x_373_27 : decode (q_code 373) 27 = .ok (.iload 5, 2) := by decide +kernel
theorem x_373_29 : decode (q_code 373) 29 = .ok (.invokevirtual 755, 3) := by decide +kernel
theorem x_373_32 : decode (q_code 373) 32 = .ok (.aload_n 0, 1) := by decide +kernel
theorem x_373_33 : decode (q_code 373) 33 = .ok (.getfield 79, 3) := by decide +kernel
theorem x_373_36 : decode (q_code 373) 36 = .ok (.aload_n 0, 1) := by decide +kernel
theorem x_373_37 : decode (q_code 373) 37 = .ok (.iload_n 1, 1) := by decide +kernel
theorem x_373_38 : decode (q_code 373) 38 = .ok (.iload_n 2, 1) := by decide +kernel
theorem x_373_39 : decode (q_code 373) 39 = .ok (.iload 5, 2) := by decide +kernel
theorem x_373_41 : decode (q_code 373) 41 = .ok (.iconst 1, 1) := by decide +kernel
theorem x_373_42 : decode (q_code 373) 42 = .ok (.iadd, 1) := by decide +kernel
theorem x_373_43 : decode (q_code 373) 43 = .ok (.invokevirtual 755, 3) := by decide +kernel
theorem x_373_46 : decode (q_code 373) 46 = .ok (.iaload, 1) := by decide +kernel
theorem x_373_47 : decode (q_code 373) 47 = .ok (.iastore, 1) := by decide +kernel
theorem x_373_48 : decode (q_code 373) 48 = .ok (.aload_n 0, 1) := by decide +kernel
theorem x_373_49 : decode (q_code 373) 49 = .ok (.getfield 82, 3) := by decide +kernel
theorem x_373_52 : decode (q_code 373) 52 = .ok (.aload_n 0, 1) := by decide +kernel
theorem x_373_53 : decode (q_code 373) 53 = .ok (.iload_n 1, 1) := by decide +kernel
theorem x_373_54 : decode (q_code 373) 54 = .ok (.iload_n 2, 1) := by decide +kernel
theorem x_373_55 : decode (q_code 373) 55 = .ok (.iload 5, 2) := by decide +kernel
theorem x_373_57 : decode (q_code 373) 57 = .ok (.invokevirtual 755, 3) := by decide +kernel
theorem x_373_60 : decode (q_code 373) 60 = .ok (.aload_n 0, 1) := by decide +kernel
theorem x_373_61 : decode (q_code 373) 61 = .ok (.getfield 82, 3) := by decide +kernel
theorem x_373_64 : decode (q_code 373) 64 = .ok (.aload_n 0, 1) := by decide +kernel
theorem x_373_65 : decode (q_code 373) 65 = .ok (.iload_n 1, 1) := by decide +kernel
theorem x_373_66 : decode (q_code 373) 66 = .ok (.iload_n 2, 1) := by decide +kernel
theorem x_373_67 : decode (q_code 373) 67 = .ok (.iload 5, 2) := by decide +kernel
theorem x_373_69 : decode (q_code 373) 69 = .ok (.iconst 1, 1) := by decide +kernel
theorem x_373_70 : decode (q_code 373) 70 = .ok (.iadd, 1) := by decide +kernel
theorem x_373_71 : decode (q_code 373) 71 = .ok (.invokevirtual 755, 3) := by decide +kernel
theorem x_373_74 : decode (q_code 373) 74 = .ok (.iaload, 1) := by decide +kernel
theorem x_373_75 : decode (q_code 373) 75 = .ok (.iastore, 1) := by decide +kernel
theorem x_373_76 : decode (q_code 373) 76 = .ok (.iinc 5 1, 3) := by decide +kernel
theorem x_373_79 : decode (q_code 373) 79 = .ok (.goto (-66), 3) := by decide +kernel
theorem x_373_82 : decode (q_code 373) 82 = .ok (.aload_n 0, 1) := by decide +kernel
theorem x_373_83 : decode (q_code 373) 83 = .ok (.iload_n 1, 1) := by decide +kernel
theorem x_373_84 : decode (q_code 373) 84 = .ok (.iload_n 2, 1) := by decide +kernel
theorem x_373_85 : decode (q_code 373) 85 = .ok (.iload 4, 2) := by decide +kernel
theorem x_373_87 : decode (q_code 373) 87 = .ok (.invokevirtual 749, 3) := by decide +kernel
theorem x_373_90 : decode (q_code 373) 90 = .ok (.return_, 1) := by decide +kernel
theorem x_374_0 : decode (q_code 374) 0 = .ok (.iconst 0, 1) := by decide +kernel
theorem x_374_1 : decode (q_code 374) 1 = .ok (.istore 4, 2) := by decide +kernel
theorem x_374_3 : decode (q_code 374) 3 = .ok (.iload 4, 2) := by decide +kernel
theorem x_374_5 : decode (q_code 374) 5 = .ok (.iconst 1, 1) := by decide +kernel
theorem x_374_6 : decode (q_code 374) 6 = .ok (.iadd, 1) := by decide +kernel
theorem x_374_7 : decode (q_code 374) 7 = .ok (.aload_n 0, 1) := by decide +kernel
theorem x_374_8 : decode (q_code 374) 8 = .ok (.iload_n 1, 1) := by decide +kernel
theorem x_374_9 : decode (q_code 374) 9 = .ok (.iload_n 2, 1) := by decide +kernel
theorem x_374_10 : decode (q_code 374) 10 = .ok (.invokevirtual 746, 3) := by decide +kernel
theorem x_374_13 : decode (q_code 374) 13 = .ok (.if_icmp .ge 33, 3) := by decide +kernel
theorem x_374_16 : decode (q_code 374) 16 = .ok (.aload_n 0, 1) := by decide +kernel
theorem x_374_17 : decode (q_code 374) 17 = .ok (.iload_n 1, 1) := by decide +kernel
theorem x_374_18 : decode (q_code 374) 18 = .ok (.aload_n 0, 1) := by decide +kernel
theorem x_374_19 : decode (q_code 374) 19 = .ok (.getfield 82, 3) := by decide +kernel
theorem x_374_22 : decode (q_code 374) 22 = .ok (.aload_n 0, 1) := by decide +kernel
theorem x_374_23 : decode (q_code 374) 23 = .ok (.iload_n 1, 1) := by decide +kernel
theorem x_374_24 : decode (q_code 374) 24 = .ok (.iload_n 2, 1) := by decide +kernel
theorem x_374_25 : decode (q_code 374) 25 = .ok (.iload 4, 2) := by decide +kernel
theorem x_374_27 : decode (q_code 374) 27 = .ok (.iconst 1, 1) := by decide +kernel
theorem x_374_28 : decode (q_code 374) 28 = .ok (.iadd, 1) := by decide +kernel
theorem x_374_29 : decode (q_code 374) 29 = .ok (.invokevirtual 755, 3) := by decide +kernel
theorem x_374_32 : decode (q_code 374) 32 = .ok (.iaload, 1) := by decide +kernel
theorem x_374_33 : decode (q_code 374) 33 = .ok (.iload_n 3, 1) := by decide +kernel
theorem x_374_34 : decode (q_code 374) 34 = .ok (.invokevirtual 757, 3) := by decide +kernel
theorem x_374_37 : decode (q_code 374) 37 = .ok (.ifCond .gt 9, 3) := by decide +kernel
theorem x_374_40 : decode (q_code 374) 40 = .ok (.iinc 4 1, 3) := by decide +kernel
theorem x_374_43 : decode (q_code 374) 43 = .ok (.goto (-40), 3) := by decide +kernel
theorem x_374_46 : decode (q_code 374) 46 = .ok (.iload 4, 2) := by decide +kernel
theorem x_374_48 : decode (q_code 374) 48 = .ok (.ireturn, 1) := by decide +kernel
theorem x_375_0 : decode (q_code 375) 0 = .ok (.iconst 0, 1) := by decide +kernel
theorem x_375_1 : decode (q_code 375) 1 = .ok (.istore 4, 2) := by decide +kernel
theorem x_375_3 : decode (q_code 375) 3 = .ok (.iload 4, 2) := by decide +kernel
theorem x_375_5 : decode (q_code 375) 5 = .ok (.aload_n 0, 1) := by decide +kernel
theorem x_375_6 : decode (q_code 375) 6 = .ok (.iload_n 1, 1) := by decide +kernel
theorem x_375_7 : decode (q_code 375) 7 = .ok (.iload_n 2, 1) := by decide +kernel
theorem x_375_8 : decode (q_code 375) 8 = .ok (.invokevirtual 746, 3) := by decide +kernel
theorem x_375_11 : decode (q_code 375) 11 = .ok (.if_icmp .ge 31, 3) := by decide +kernel
theorem x_375_14 : decode (q_code 375) 14 = .ok (.aload_n 0, 1) := by decide +kernel
theorem x_375_15 : decode (q_code 375) 15 = .ok (.iload_n 1, 1) := by decide +kernel
theorem x_375_16 : decode (q_code 375) 16 = .ok (.aload_n 0, 1) := by decide +kernel
theorem x_375_17 : decode (q_code 375) 17 = .ok (.getfield 79, 3) := by decide +kernel
theorem x_375_20 : decode (q_code 375) 20 = .ok (.aload_n 0, 1) := by decide +kernel
theorem x_375_21 : decode (q_code 375) 21 = .ok (.iload_n 1, 1) := by decide +kernel
theorem x_375_22 : decode (q_code 375) 22 = .ok (.iload_n 2, 1) := by decide +kernel
theorem x_375_23 : decode (q_code 375) 23 = .ok (.iload 4, 2) := by decide +kernel
theorem x_375_25 : decode (q_code 375) 25 = .ok (.invokevirtual 755, 3) := by decide +kernel
theorem x_375_28 : decode (q_code 375) 28 = .ok (.iaload, 1) := by decide +kernel
theorem x_375_29 : decode (q_code 375) 29 = .ok (.iload_n 3, 1) := by decide +kernel
theorem x_375_30 : decode (q_code 375) 30 = .ok (.invokevirtual 757, 3) := by decide +kernel
theorem x_375_33 : decode (q_code 375) 33 = .ok (.ifCond .ge 9, 3) := by decide +kernel
theorem x_375_36 : decode (q_code 375) 36 = .ok (.iinc 4 1, 3) := by decide +kernel
theorem x_375_39 : decode (q_code 375) 39 = .ok (.goto (-36), 3) := by decide +kernel
theorem x_375_42 : decode (q_code 375) 42 = .ok (.iload 4, 2) := by decide +kernel
theorem x_375_44 : decode (q_code 375) 44 = .ok (.ireturn, 1) := by decide +kernel
theorem x_376_0 : decode (q_code 376) 0 = .ok (.aload_n 0, 1) := by decide +kernel
theorem x_376_1 : decode (q_code 376) 1 = .ok (.getfield 72, 3) := by decide +kernel
theorem x_376_4 : decode (q_code 376) 4 = .ok (.iload_n 1, 1) := by decide +kernel
theorem x_376_5 : decode (q_code 376) 5 = .ok (.sipush 600, 3) := by decide +kernel
theorem x_376_8 : decode (q_code 376) 8 = .ok (.imul, 1) := by decide +kernel
theorem x_376_9 : decode (q_code 376) 9 = .ok (.iload_n 2, 1) := by decide +kernel
theorem x_376_10 : decode (q_code 376) 10 = .ok (.iadd, 1) := by decide +kernel
theorem x_376_11 : decode (q_code 376) 11 = .ok (.baload, 1) := by decide +kernel
theorem x_376_12 : decode (q_code 376) 12 = .ok (.ireturn, 1) := by decide +kernel
theorem x_377_0 : decode (q_code 377) 0 = .ok (.aload_n 0, 1) := by decide +kernel
theorem x_377_1 : decode (q_code 377) 1 = .ok (.iload_n 1, 1) := by decide +kernel
theorem x_377_2 : decode (q_code 377) 2 = .ok (.iload_n 2, 1) := by decide +kernel
theorem x_377_3 : decode (q_code 377) 3 = .ok (.invokevirtual 760, 3) := by decide +kernel
theorem x_377_6 : decode (q_code 377) 6 = .ok (.ifCond .eq 21, 3) := by decide +kernel
theorem x_377_9 : decode (q_code 377) 9 = .ok (.aload_n 0, 1) := by decide +kernel
theorem x_377_10 : decode (q_code 377) 10 = .ok (.iload_n 1, 1) := by decide +kernel
theorem x_377_11 : decode (q_code 377) 11 = .ok (.iload_n 2, 1) := by decide +kernel
theorem x_377_12 : decode (q_code 377) 12 = .ok (.aload_n 0, 1) := by decide +kernel
theorem x_377_13 : decode (q_code 377) 13 = .ok (.iload_n 1, 1) := by decide +kernel
theorem x_377_14 : decode (q_code 377) 14 = .ok (.iload_n 2, 1) := by decide +kernel
theorem x_377_15 : decode (q_code 377) 15 = .ok (.iload_n 3, 1) := by decide +kernel
theorem x_377_16 : decode (q_code 377) 16 = .ok (.invokevirtual 763, 3) := by decide +kernel
theorem x_377_19 : decode (q_code 377) 19 = .ok (.iload_n 3, 1) := by decide +kernel
theorem x_377_20 : decode (q_code 377) 20 = .ok (.iconst 0, 1) := by decide +kernel
theorem x_377_21 : decode (q_code 377) 21 = .ok (.invokevirtual 766, 3) := by decide +kernel
theorem x_377_24 : decode (q_code 377) 24 = .ok (.goto 52, 3) := by decide +kernel
theorem x_377_27 : decode (q_code 377) 27 = .ok (.aload_n 0, 1) := by decide +kernel
theorem x_377_28 : decode (q_code 377) 28 = .ok (.iload_n 1, 1) := by decide +kernel
theorem x_377_29 : decode (q_code 377) 29 = .ok (.iload_n 2, 1) := by decide +kernel
theorem x_377_30 : decode (q_code 377) 30 = .ok (.iload_n 3, 1) := by decide +kernel
theorem x_377_31 : decode (q_code 377) 31 = .ok (.invokevirtual 769, 3) := by decide +kernel
theorem x_377_34 : decode (q_code 377) 34 = .ok (.istore 4, 2) := by decide +kernel
theorem x_377_36 : decode (q_code 377) 36 = .ok (.aload_n 0, 1) := by decide +kernel
theorem x_377_37 : decode (q_code 377) 37 = .ok (.iload_n 1, 1) := by decide +kernel
theorem x_377_38 : decode (q_code 377) 38 = .ok (.aload_n 0, 1) := by decide +kernel
theorem x_377_39 : decode (q_code 377) 39 = .ok (.getfield 79, 3) := by decide +kernel
theorem x_377_42 : decode (q_code 377) 42 = .ok (.aload_n 0, 1) := by decide +kernel
theorem x_377_43 : decode (q_code 377) 43 = .ok (.iload_n 1, 1) := by decide +kernel
theorem x_377_44 : decode (q_code 377) 44 = .ok (.iload_n 2, 1) := by decide +kernel
theorem x_377_45 : decode (q_code 377) 45 = .ok (.iload 4, 2) := by decide +kernel
theorem x_377_47 : decode (q_code 377) 47 = .ok (.invokevirtual 755, 3) := by decide +kernel
theorem x_377_50 : decode (q_code 377) 50 = .ok (.iaload, 1) := by decide +kernel
theorem x_377_51 : decode (q_code 377) 51 = .ok (.iload_n 3, 1) := by decide +kernel
theorem x_377_52 : decode (q_code 377) 52 = .ok (.invokevirtual 772, 3) := by decide +kernel
theorem x_377_55 : decode (q_code 377) 55 = .ok (.ifCond .eq 21, 3) := by decide +kernel
theorem x_377_58 : decode (q_code 377) 58 = .ok (.aload_n 0, 1) := by decide +kernel
theorem x_377_59 : decode (q_code 377) 59 = .ok (.iload_n 1, 1) := by decide +kernel
theorem x_377_60 : decode (q_code 377) 60 = .ok (.iload_n 2, 1) := by decide +kernel
theorem x_377_61 : decode (q_code 377) 61 = .ok (.iload 4, 2) := by decide +kernel
theorem x_377_63 : decode (q_code 377) 63 = .ok (.iconst 1, 1) := by decide +kernel
theorem x_377_64 : decode (q_code 377) 64 = .ok (.iadd, 1) := by decide +kernel
theorem x_377_65 : decode (q_code 377) 65 = .ok (.aload_n 0, 1) := by decide +kernel
theorem x_377_66 : decode (q_code 377) 66 = .ok (.getfield 775, 3) := by decide +kernel
theorem x_377_69 : decode (q_code 377) 69 = .ok (.aload_n 0, 1) := by decide +kernel
theorem x_377_70 : decode (q_code 377) 70 = .ok (.getfield 778, 3) := by decide +kernel
theorem x_377_73 : decode (q_code 377) 73 = .ok (.invokevirtual 766, 3) := by decide +kernel
theorem x_377_76 : decode (q_code 377) 76 = .ok (.aload_n 0, 1) := by decide +kernel
theorem x_377_77 : decode (q_code 377) 77 = .ok (.iload_n 1, 1) := by decide +kernel
theorem x_377_78 : decode (q_code 377) 78 = .ok (.iload_n 2, 1) := by decide +kernel
theorem x_377_79 : decode (q_code 377) 79 = .ok (.invokevirtual 746, 3) := by decide +kernel
theorem x_377_82 : decode (q_code 377) 82 = .ok (.bipush 8, 2) := by decide +kernel
theorem x_377_84 : decode (q_code 377) 84 = .ok (.if_icmp .gt 5, 3) := by decide +kernel
theorem x_377_87 : decode (q_code 377) 87 = .ok (.iconst 0, 1) := by decide +kernel
theorem x_377_88 : decode (q_code 377) 88 = .ok (.ireturn, 1) := by decide +kernel
theorem x_377_89 : decode (q_code 377) 89 = .ok (.aload_n 0, 1) := by decide +kernel
theorem x_377_90 : decode (q_code 377) 90 = .ok (.iload_n 1, 1) := by decide +kernel
theorem x_377_91 : decode (q_code 377) 91 = .ok (.aload_n 0, 1) := by decide +kernel
theorem x_377_92 : decode (q_code 377) 92 = .ok (.iload_n 1, 1) := by decide +kernel
theorem x_377_93 : decode (q_code 377) 93 = .ok (.iload_n 2, 1) := by decide +kernel
theorem x_377_94 : decode (q_code 377) 94 = .ok (.invokevirtual 760, 3) := by decide +kernel
theorem x_377_97 : decode (q_code 377) 97 = .ok (.invokevirtual 752, 3) := by decide +kernel
theorem x_377_100 : decode (q_code 377) 100 = .ok (.istore 4, 2) := by decide +kernel
theorem x_377_102 : decode (q_code 377) 102 = .ok (.aload_n 0, 1) := by decide +kernel
theorem x_377_103 : decode (q_code 377) 103 = .ok (.iload_n 1, 1) := by decide +kernel
theorem x_377_104 : decode (q_code 377) 104 = .ok (.iload_n 2, 1) := by decide +kernel
theorem x_377_105 : decode (q_code 377) 105 = .ok (.invokevirtual 746, 3) := by decide +kernel
theorem x_377_108 : decode (q_code 377) 108 = .ok (.istore 5, 2) := by decide +kernel
theorem x_377_110 : decode (q_code 377) 110 = .ok (.iconst 4, 1) := by decide +kernel
theorem x_377_111 : decode (q_code 377) 111 = .ok (.istore 6, 2) := by decide +kernel
theorem x_377_113 : decode (q_code 377) 113 = .ok (.iload 6, 2) := by decide +kernel
theorem x_377_115 : decode (q_code 377) 115 = .ok (.iload 5, 2) := by decide +kernel
theorem x_377_117 : decode (q_code 377) 117 = .ok (.if_icmp .ge 46, 3) := by decide +kernel
theorem x_377_120 : decode (q_code 377) 120 = .ok (.aload_n 0, 1) := by decide +kernel
theorem x_377_121 : decode (q_code 377) 121 = .ok (.iload_n 1, 1) := by decide +kernel
theorem x_377_122 : decode (q_code 377) 122 = .ok (.iload 4, 2) := by decide +kernel
theorem x_377_124 : decode (q_code 377) 124 = .ok (.iload 6, 2) := by decide +kernel
theorem x_377_126 : decode (q_code 377) 126 = .ok (.iconst 4, 1) := by decide +kernel
theorem x_377_127 : decode (q_code 377) 127 = .ok (.isub, 1) := by decide +kernel
theorem x_377_128 : decode (q_code 377) 128 = .ok (.aload_n 0, 1) := by decide +kernel
theorem x_377_129 : decode (q_code 377) 129 = .ok (.getfield 79, 3) := by decide +kernel
theorem x_377_132 : decode (q_code 377) 132 = .ok (.aload_n 0, 1) := by decide +kernel
theorem x_377_133 : decode (q_code 377) 133 = .ok (.iload_n 1, 1) := by decide +kernel
theorem x_377_134 : decode (q_code 377) 134 = .ok (.iload_n 2, 1) := by decide +kernel
theorem x_377_135 : decode (q_code 377) 135 = .ok (.iload 6, 2) := by decide +kernel
theorem x_377_137 : decode (q_code 377) 137 = .ok (.invokevirtual 755, 3) := by decide +kernel
theorem x_377_140 : decode (q_code 377) 140 = .ok (.iaload, 1) := by decide +kernel
theorem x_377_141 : decode (q_code 377) 141 = .ok (.aload_n 0, 1) := by decide +kernel
theorem x_377_142 : decode (q_code 377) 142 = .ok (.getfield 82, 3) := by decide +kernel
theorem x_377_145 : decode (q_code 377) 145 = .ok (.aload_n 0, 1) := by decide +kernel
theorem x_377_146 : decode (q_code 377) 146 = .ok (.iload_n 1, 1) := by decide +kernel
theorem x_377_147 : decode (q_code 377) 147 = .ok (.iload_n 2, 1) := by decide +kernel
theorem x_377_148 : decode (q_code 377) 148 = .ok (.iload 6, 2) := by decide +kernel
theorem x_377_150 : decode (q_code 377) 150 = .ok (.invokevirtual 755, 3) := by decide +kernel
theorem x_377_153 : decode (q_code 377) 153 = .ok (.iaload, 1) := by decide +kernel
theorem x_377_154 : decode (q_code 377) 154 = .ok (.invokevirtual 766, 3) := by decide +kernel
theorem x_377_157 : decode (q_code 377) 157 = .ok (.iinc 6 1, 3) := by decide +kernel
theorem x_377_160 : decode (q_code 377) 160 = .ok (.goto (-47), 3) := by decide +kernel
theorem x_377_163 : decode (q_code 377) 163 = .ok (.aload_n 0, 1) := by decide +kernel
theorem x_377_164 : decode (q_code 377) 164 = .ok (.iload_n 1, 1) := by decide +kernel
theorem x_377_165 : decode (q_code 377) 165 = .ok (.iload_n 2, 1) := by decide +kernel
theorem x_377_166 : decode (q_code 377) 166 = .ok (.iconst 4, 1) := by decide +kernel
theorem x_377_167 : decode (q_code 377) 167 = .ok (.invokevirtual 749, 3) := by decide +kernel
theorem x_377_170 : decode (q_code 377) 170 = .ok (.aload_n 0, 1) := by decide +kernel
theorem x_377_171 : decode (q_code 377) 171 = .ok (.iload 4, 2) := by decide +kernel
theorem x_377_173 : decode (q_code 377) 173 = .ok (.putfield 775, 3) := by decide +kernel
theorem x_377_176 : decode (q_code 377) 176 = .ok (.aload_n 0, 1) := by decide +kernel
theorem x_377_177 : decode (q_code 377) 177 = .ok (.aload_n 0, 1) := by decide +kernel
theorem x_377_178 : decode (q_code 377) 178 = .ok (.iload_n 1, 1) := by decide +kernel
theorem x_377_179 : decode (q_code 377) 179 = .ok (.iload_n 2, 1) := by decide +kernel
theorem x_377_180 : decode (q_code 377) 180 = .ok (.invokevirtual 760, 3) := by decide +kernel
theorem x_377_183 : decode (q_code 377) 183 = .ok (.ifCond .eq 19, 3) := by decide +kernel
theorem x_377_186 : decode (q_code 377) 186 = .ok (.aload_n 0, 1) := by decide +kernel
theorem x_377_187 : decode (q_code 377) 187 = .ok (.getfield 79, 3) := by decide +kernel
theorem x_377_190 : decode (q_code 377) 190 = .ok (.aload_n 0, 1) := by decide +kernel
theorem x_377_191 : decode (q_code 377) 191 = .ok (.iload_n 1, 1) := by decide +kernel
theorem x_377_192 : decode (q_code 377) 192 = .ok (.iload 4, 2) := by decide +kernel
theorem x_377_194 : decode (q_code 377) 194 = .ok (.iconst 0, 1) := by decide +kernel
theorem x_377_195 : decode (q_code 377) 195 = .ok (.invokevirtual 755, 3) := by decide +kernel
theorem x_377_198 : decode (q_code 377) 198 = .ok (.iaload, 1) := by decide +kernel
theorem x_377_199 : decode (q_code 377) 199 = .ok (.goto 16, 3) := by decide +kernel
theorem x_377_202 : decode (q_code 377) 202 = .ok (.aload_n 0, 1) := by decide +kernel
theorem x_377_203 : decode (q_code 377) 203 = .ok (.getfield 82, 3) := by decide +kernel
theorem x_377_206 : decode (q_code 377) 206 = .ok (.aload_n 0, 1) := by decide +kernel
theorem x_377_207 : decode (q_code 377) 207 = .ok (.iload_n 1, 1) := by decide +kernel
theorem x_377_208 : decode (q_code 377) 208 = .ok (.iload 4, 2) := by decide +kernel
theorem x_377_210 : decode (q_code 377) 210 = .ok (.iconst 0, 1) := by decide +kernel
theorem x_377_211 : decode (q_code 377) 211 = .ok (.invokevirtual 755, 3) := by decide +kernel
theorem x_377_214 : decode (q_code 377) 214 = .ok (.iaload, 1) := by decide +kernel
theorem x_377_215 : decode (q_code 377) 215 = .ok (.putfield 778, 3) := by decide +kernel
theorem x_377_218 : decode (q_code 377) 218 = .ok (.iconst 1, 1) := by decide +kernel
theorem x_377_219 : decode (q_code 377) 219 = .ok (.ireturn, 1) := by decide +kernel
theorem x_378_0 : decode (q_code 378) 0 = .ok (.aload_n 0, 1) := by decide +kernel
theorem x_378_1 : decode (q_code 378) 1 = .ok (.iload_n 1, 1) := by decide +kernel
theorem x_378_2 : decode (q_code 378) 2 = .ok (.iload_n 2, 1) := by decide +kernel
theorem x_378_3 : decode (q_code 378) 3 = .ok (.iload_n 3, 1) := by decide +kernel
theorem x_378_4 : decode (q_code 378) 4 = .ok (.iload 4, 2) := by decide +kernel
theorem x_378_6 : decode (q_code 378) 6 = .ok (.invokevirtual 781, 3) := by decide +kernel
theorem x_378_9 : decode (q_code 378) 9 = .ok (.istore 5, 2) := by decide +kernel
theorem x_378_11 : decode (q_code 378) 11 = .ok (.aload_n 0, 1) := by decide +kernel
theorem x_378_12 : decode (q_code 378) 12 = .ok (.iload 5, 2) := by decide +kernel
theorem x_378_14 : decode (q_code 378) 14 = .ok (.putfield 65, 3) := by decide +kernel
theorem x_378_17 : decode (q_code 378) 17 = .ok (.aload_n 0, 1) := by decide +kernel
theorem x_378_18 : decode (q_code 378) 18 = .ok (.iload_n 1, 1) := by decide +kernel
theorem x_378_19 : decode (q_code 378) 19 = .ok (.aload_n 0, 1) := by decide +kernel
theorem x_378_20 : decode (q_code 378) 20 = .ok (.getfield 85, 3) := by decide +kernel
theorem x_378_23 : decode (q_code 378) 23 = .ok (.iload_n 1, 1) := by decide +kernel
theorem x_378_24 : decode (q_code 378) 24 = .ok (.iaload, 1) := by decide +kernel
theorem x_378_25 : decode (q_code 378) 25 = .ok (.iload 5, 2) := by decide +kernel
theorem x_378_27 : decode (q_code 378) 27 = .ok (.invokevirtual 772, 3) := by decide +kernel
theorem x_378_30 : decode (q_code 378) 30 = .ok (.ifCond .eq 54, 3) := by decide +kernel
theorem x_378_33 : decode (q_code 378) 33 = .ok (.aload_n 0, 1) := by decide +kernel
theorem x_378_34 : decode (q_code 378) 34 = .ok (.getfield 85, 3) := by decide +kernel
theorem x_378_37 : decode (q_code 378) 37 = .ok (.iload_n 1, 1) := by decide +kernel
theorem x_378_38 : decode (q_code 378) 38 = .ok (.iaload, 1) := by decide +kernel
theorem x_378_39 : decode (q_code 378) 39 = .ok (.istore 6, 2) := by decide +kernel
theorem x_378_41 : decode (q_code 378) 41 = .ok (.aload_n 0, 1) := by decide +kernel
theorem x_378_42 : decode (q_code 378) 42 = .ok (.iload_n 1, 1) := by decide +kernel
theorem x_378_43 : decode (q_code 378) 43 = .ok (.iconst 0, 1) := by decide +kernel
theorem x_378_44 : decode (q_code 378) 44 = .ok (.invokevirtual 752, 3) := by decide +kernel
theorem x_378_47 : decode (q_code 378) 47 = .ok (.istore 7, 2) := by decide +kernel
theorem x_378_49 : decode (q_code 378) 49 = .ok (.aload_n 0, 1) := by decide +kernel
theorem x_378_50 : decode (q_code 378) 50 = .ok (.iload_n 1, 1) := by decide +kernel
theorem x_378_51 : decode (q_code 378) 51 = .ok (.iload 7, 2) := by decide +kernel
theorem x_378_53 : decode (q_code 378) 53 = .ok (.iconst 0, 1) := by decide +kernel
theorem x_378_54 : decode (q_code 378) 54 = .ok (.iload 6, 2) := by decide +kernel
theorem x_378_56 : decode (q_code 378) 56 = .ok (.iconst 0, 1) := by decide +kernel
theorem x_378_57 : decode (q_code 378) 57 = .ok (.invokevirtual 766, 3) := by decide +kernel
theorem x_378_60 : decode (q_code 378) 60 = .ok (.aload_n 0, 1) := by decide +kernel
theorem x_378_61 : decode (q_code 378) 61 = .ok (.iload_n 1, 1) := by decide +kernel
theorem x_378_62 : decode (q_code 378) 62 = .ok (.iload 7, 2) := by decide +kernel
theorem x_378_64 : decode (q_code 378) 64 = .ok (.iconst 1, 1) := by decide +kernel
theorem x_378_65 : decode (q_code 378) 65 = .ok (.aload_n 0, 1) := by decide +kernel
theorem x_378_66 : decode (q_code 378) 66 = .ok (.getfield 775, 3) := by decide +kernel
theorem x_378_69 : decode (q_code 378) 69 = .ok (.aload_n 0, 1) := by decide +kernel
theorem x_378_70 : decode (q_code 378) 70 = .ok (.getfield 778, 3) := by decide +kernel
theorem x_378_73 : decode (q_code 378) 73 = .ok (.invokevirtual 766, 3) := by decide +kernel
theorem x_378_76 : decode (q_code 378) 76 = .ok (.aload_n 0, 1) := by decide +kernel
theorem x_378_77 : decode (q_code 378) 77 = .ok (.getfield 85, 3) := by decide +kernel
theorem x_378_80 : decode (q_code 378) 80 = .ok (.iload_n 1, 1) := by decide +kernel
theorem x_378_81 : decode (q_code 378) 81 = .ok (.iload 7, 2) := by decide +kernel
theorem x_378_83 : decode (q_code 378) 83 = .ok (.iastore, 1) := by decide +kernel
theorem x_378_84 : decode (q_code 378) 84 = .ok (.aload_n 0, 1) := by decide +kernel
theorem x_378_85 : decode (q_code 378) 85 = .ok (.iconst (-1), 1) := by decide +kernel
theorem x_378_86 : decode (q_code 378) 86 = .ok (.putfield 65, 3) := by decide +kernel
theorem x_378_89 : decode (q_code 378) 89 = .ok (.aload_n 0, 1) := by decide +kernel
theorem x_378_90 : decode (q_code 378) 90 = .ok (.getfield 88, 3) := by decide +kernel
theorem x_378_93 : decode (q_code 378) 93 = .ok (.iload_n 1, 1) := by decide +kernel
theorem x_378_94 : decode (q_code 378) 94 = .ok (.dup2, 1) := by decide +kernel
theorem x_378_95 : decode (q_code 378) 95 = .ok (.iaload, 1) := by decide +kernel
theorem x_378_96 : decode (q_code 378) 96 = .ok (.iconst 1, 1) := by decide +kernel
theorem x_378_97 : decode (q_code 378) 97 = .ok (.iadd, 1) := by decide +kernel
theorem x_378_98 : decode (q_code 378) 98 = .ok (.iastore, 1) := by decide +kernel
theorem x_378_99 : decode (q_code 378) 99 = .ok (.return_, 1) := by decide +kernel
theorem x_379_0 : decode (q_code 379) 0 = .ok (.aload_n 0, 1) := by decide +kernel
theorem x_379_1 : decode (q_code 379) 1 = .ok (.iload_n 1, 1) := by decide +kernel
theorem x_379_2 : decode (q_code 379) 2 = .ok (.iload_n 2, 1) := by decide +kernel
theorem x_379_3 : decode (q_code 379) 3 = .ok (.invokevirtual 760, 3) := by decide +kernel
theorem x_379_6 : decode (q_code 379) 6 = .ok (.ifCond .eq 17, 3) := by decide +kernel
theorem x_379_9 : decode (q_code 379) 9 = .ok (.aload_n 0, 1) := by decide +kernel
theorem x_379_10 : decode (q_code 379) 10 = .ok (.iload_n 1, 1) := by decide +kernel
theorem x_379_11 : decode (q_code 379) 11 = .ok (.iload_n 2, 1) := by decide +kernel
theorem x_379_12 : decode (q_code 379) 12 = .ok (.aload_n 0, 1) := by decide +kernel
theorem x_379_13 : decode (q_code 379) 13 = .ok (.iload_n 1, 1) := by decide +kernel
theorem x_379_14 : decode (q_code 379) 14 = .ok (.iload_n 2, 1) := by decide +kernel
theorem x_379_15 : decode (q_code 379) 15 = .ok (.iload_n 3, 1) := by decide +kernel
theorem x_379_16 : decode (q_code 379) 16 = .ok (.invokevirtual 763, 3) := by decide +kernel
theorem x_379_19 : decode (q_code 379) 19 = .ok (.invokevirtual 784, 3) := by decide +kernel
theorem x_379_22 : decode (q_code 379) 22 = .ok (.return_, 1) := by decide +kernel
theorem x_379_23 : decode (q_code 379) 23 = .ok (.aload_n 0, 1) := by decide +kernel
theorem x_379_24 : decode (q_code 379) 24 = .ok (.iload_n 1, 1) := by decide +kernel
theorem x_379_25 : decode (q_code 379) 25 = .ok (.iload_n 2, 1) := by decide +kernel
theorem x_379_26 : decode (q_code 379) 26 = .ok (.iload_n 3, 1) := by decide +kernel
theorem x_379_27 : decode (q_code 379) 27 = .ok (.invokevirtual 769, 3) := by decide +kernel
theorem x_379_30 : decode (q_code 379) 30 = .ok (.istore 4, 2) := by decide +kernel
theorem x_379_32 : decode (q_code 379) 32 = .ok (.aload_n 0, 1) := by decide +kernel
theorem x_379_33 : decode (q_code 379) 33 = .ok (.getfield 79, 3) := by decide +kernel
theorem x_379_36 : decode (q_code 379) 36 = .ok (.aload_n 0, 1) := by decide +kernel
theorem x_379_37 : decode (q_code 379) 37 = .ok (.iload_n 1, 1) := by decide +kernel
theorem x_379_38 : decode (q_code 379) 38 = .ok (.iload_n 2, 1) := by decide +kernel
theorem x_379_39 : decode (q_code 379) 39 = .ok (.iload 4, 2) := by decide +kernel
theorem x_379_41 : decode (q_code 379) 41 = .ok (.invokevirtual 755, 3) := by decide +kernel
theorem x_379_44 : decode (q_code 379) 44 = .ok (.iaload, 1) := by decide +kernel
theorem x_379_45 : decode (q_code 379) 45 = .ok (.istore 5, 2) := by decide +kernel
theorem x_379_47 : decode (q_code 379) 47 = .ok (.aload_n 0, 1) := by decide +kernel
theorem x_379_48 : decode (q_code 379) 48 = .ok (.iload_n 1, 1) := by decide +kernel
theorem x_379_49 : decode (q_code 379) 49 = .ok (.iload 5, 2) := by decide +kernel
theorem x_379_51 : decode (q_code 379) 51 = .ok (.iload_n 3, 1) := by decide +kernel
theorem x_379_52 : decode (q_code 379) 52 = .ok (.invokevirtual 787, 3) := by decide +kernel
theorem x_379_55 : decode (q_code 379) 55 = .ok (.aload_n 0, 1) := by decide +kernel
theorem x_379_56 : decode (q_code 379) 56 = .ok (.iload_n 1, 1) := by decide +kernel
theorem x_379_57 : decode (q_code 379) 57 = .ok (.iload 5, 2) := by decide +kernel
theorem x_379_59 : decode (q_code 379) 59 = .ok (.invokevirtual 746, 3) := by decide +kernel
theorem x_379_62 : decode (q_code 379) 62 = .ok (.iconst 4, 1) := by decide +kernel
theorem x_379_63 : decode (q_code 379) 63 = .ok (.if_icmp .lt 4, 3) := by decide +kernel
theorem x_379_66 : decode (q_code 379) 66 = .ok (.return_, 1) := by decide +kernel
theorem x_379_67 : decode (q_code 379) 67 = .ok (.iload 4, 2) := by decide +kernel
theorem x_379_69 : decode (q_code 379) 69 = .ok (.ifCond .le 38, 3) := by decide +kernel
theorem x_379_72 : decode (q_code 379) 72 = .ok (.aload_n 0, 1) := by decide +kernel
theorem x_379_73 : decode (q_code 379) 73 = .ok (.iload_n 1, 1) := by decide +kernel
theorem x_379_74 : decode (q_code 379) 74 = .ok (.aload_n 0, 1) := by decide +kernel
theorem x_379_75 : decode (q_code 379) 75 = .ok (.getfield 79, 3) := by decide +kernel
theorem x_379_78 : decode (q_code 379) 78 = .ok (.aload_n 0, 1) := by decide +kernel
theorem x_379_79 : decode (q_code 379) 79 = .ok (.iload_n 1, 1) := by decide +kernel
theorem x_379_80 : decode (q_code 379) 80 = .ok (.iload_n 2, 1) := by decide +kernel
theorem x_379_81 : decode (q_code 379) 81 = .ok (.iload 4, 2) := by decide +kernel
theorem x_379_83 : decode (q_code 379) 83 = .ok (.iconst 1, 1) := by decide +kernel
theorem x_379_84 : decode (q_code 379) 84 = .ok (.isub, 1) := by decide +kernel
theorem x_379_85 : decode (q_code 379) 85 = .ok (.invokevirtual 755, 3) := by decide +kernel
theorem x_379_88 : decode (q_code 379) 88 = .ok (.iaload, 1) := by decide +kernel
theorem x_379_89 : decode (q_code 379) 89 = .ok (.invokevirtual 746, 3) := by decide +kernel
theorem x_379_92 : decode (q_code 379) 92 = .ok (.iconst 4, 1) := by decide +kernel
theorem x_379_93 : decode (q_code 379) 93 = .ok (.if_icmp .le 14, 3) := by decide +kernel
theorem x_379_96 : decode (q_code 379) 96 = .ok (.aload_n 0, 1) := by decide +kernel
theorem x_379_97 : decode (q_code 379) 97 = .ok (.iload_n 1, 1) := by decide +kernel
theorem x_379_98 : decode (q_code 379) 98 = .ok (.iload_n 2, 1) := by decide +kernel
theorem x_379_99 : decode (q_code 379) 99 = .ok (.iload 4, 2) := by decide +kernel
theorem x_379_101 : decode (q_code 379) 101 = .ok (.invokevirtual 790, 3) := by decide +kernel
theorem x_379_104 : decode (q_code 379) 104 = .ok (.goto 71, 3) := by decide +kernel
theorem x_379_107 : decode (q_code 379) 107 = .ok (.iload 4, 2) := by decide +kernel
theorem x_379_109 : decode (q_code 379) 109 = .ok (.iconst 1, 1) := by decide +kernel
theorem x_379_110 : decode (q_code 379) 110 = .ok (.iadd, 1) := by decide +kernel
theorem x_379_111 : decode (q_code 379) 111 = .ok (.aload_n 0, 1) := by decide +kernel
theorem x_379_112 : decode (q_code 379) 112 = .ok (.iload_n 1, 1) := by decide +kernel
theorem x_379_113 : decode (q_code 379) 113 = .ok (.iload_n 2, 1) := by decide +kernel
theorem x_379_114 : decode (q_code 379) 114 = .ok (.invokevirtual 746, 3) := by decide +kernel
theorem x_379_117 : decode (q_code 379) 117 = .ok (.if_icmp .ge 38, 3) := by decide +kernel
theorem x_379_120 : decode (q_code 379) 120 = .ok (.aload_n 0, 1) := by decide +kernel
theorem x_379_121 : decode (q_code 379) 121 = .ok (.iload_n 1, 1) := by decide +kernel
theorem x_379_122 : decode (q_code 379) 122 = .ok (.aload_n 0, 1) := by decide +kernel
theorem x_379_123 : decode (q_code 379) 123 = .ok (.getfield 79, 3) := by decide +kernel
theorem x_379_126 : decode (q_code 379) 126 = .ok (.aload_n 0, 1) := by decide +kernel
theorem x_379_127 : decode (q_code 379) 127 = .ok (.iload_n 1, 1) := by decide +kernel
theorem x_379_128 : decode (q_code 379) 128 = .ok (.iload_n 2, 1) := by decide +kernel
theorem x_379_129 : decode (q_code 379) 129 = .ok (.iload 4, 2) := by decide +kernel
theorem x_379_131 : decode (q_code 379) 131 = .ok (.iconst 1, 1) := by decide +kernel
theorem x_379_132 : decode (q_code 379) 132 = .ok (.iadd, 1) := by decide +kernel
theorem x_379_133 : decode (q_code 379) 133 = .ok (.invokevirtual 755, 3) := by decide +kernel
theorem x_379_136 : decode (q_code 379) 136 = .ok (.iaload, 1) := by decide +kernel
theorem x_379_137 : decode (q_code 379) 137 = .ok (.invokevirtual 746, 3) := by decide +kernel
theorem x_379_140 : decode (q_code 379) 140 = .ok (.iconst 4, 1) := by decide +kernel
theorem x_379_141 : decode (q_code 379) 141 = .ok (.if_icmp .le 14, 3) := by decide +kernel
theorem x_379_144 : decode (q_code 379) 144 = .ok (.aload_n 0, 1) := by decide +kernel
theorem x_379_145 : decode (q_code 379) 145 = .ok (.iload_n 1, 1) := by decide +kernel
theorem x_379_146 : decode (q_code 379) 146 = .ok (.iload_n 2, 1) := by decide +kernel
theorem x_379_147 : decode (q_code 379) 147 = .ok (.iload 4, 2) := by decide +kernel
theorem x_379_149 : decode (q_code 379) 149 = .ok (.invokevirtual 793, 3) := by decide +kernel
theorem x_379_152 : decode (q_code 379) 152 = .ok (.goto 23, 3) := by decide +kernel
theorem x_379_155 : decode (q_code 379) 155 = .ok (.aload_n 0, 1) := by decide +kernel
theorem x_379_156 : decode (q_code 379) 156 = .ok (.iload_n 1, 1) := by decide +kernel
theorem x_379_157 : decode (q_code 379) 157 = .ok (.iload_n 2, 1) := by decide +kernel
theorem x_379_158 : decode (q_code 379) 158 = .ok (.iload 4, 2) := by decide +kernel
theorem x_379_160 : decode (q_code 379) 160 = .ok (.ifCond .le 10, 3) := by decide +kernel
theorem x_379_163 : decode (q_code 379) 163 = .ok (.iload 4, 2) := by decide +kernel
theorem x_379_165 : decode (q_code 379) 165 = .ok (.iconst 1, 1) := by decide +kernel
theorem x_379_166 : decode (q_code 379) 166 = .ok (.isub, 1) := by decide +kernel
theorem x_379_167 : decode (q_code 379) 167 = .ok (.goto 5, 3) := by decide +kernel
theorem x_379_170 : decode (q_code 379) 170 = .ok (.iload 4, 2) := by decide +kernel
theorem x_379_172 : decode (q_code 379) 172 = .ok (.invokevirtual 796, 3) := by decide +kernel
theorem x_379_175 : decode (q_code 379) 175 = .ok (.return_, 1) := by decide +kernel
theorem x_380_0 : decode (q_code 380) 0 = .ok (.aload_n 0, 1) := by decide +kernel
theorem x_380_1 : decode (q_code 380) 1 = .ok (.getfield 79, 3) := by decide +kernel
theorem x_380_4 : decode (q_code 380) 4 = .ok (.aload_n 0, 1) := by decide +kernel
theorem x_380_5 : decode (q_code 380) 5 = .ok (.iload_n 1, 1) := by decide +kernel
theorem x_380_6 : decode (q_code 380) 6 = .ok (.iload_n 2, 1) := by decide +kernel
theorem x_380_7 : decode (q_code 380) 7 = .ok (.iload_n 3, 1) := by decide +kernel
theorem x_380_8 : decode (q_code 380) 8 = .ok (.iconst 1, 1) := by decide +kernel
theorem x_380_9 : decode (q_code 380) 9 = .ok (.isub, 1) := by decide +kernel
theorem x_380_10 : decode (q_code 380) 10 = .ok (.invokevirtual 755, 3) := by decide +kernel
theorem x_380_13 : decode (q_code 380) 13 = .ok (.iaload, 1) := by decide +kernel
theorem x_380_14 : decode (q_code 380) 14 = .ok (.istore 4, 2) := by decide +kernel
theorem x_380_16 : decode (q_code 380) 16 = .ok (.aload_n 0, 1) := by decide +kernel
theorem x_380_17 : decode (q_code 380) 17 = .ok (.getfield 79, 3) := by decide +kernel
theorem x_380_20 : decode (q_code 380) 20 = .ok (.aload_n 0, 1) := by decide +kernel
theorem x_380_21 : decode (q_code 380) 21 = .ok (.iload_n 1, 1) := by decide +kernel
theorem x_380_22 : decode (q_code 380) 22 = .ok (.iload_n 2, 1) := by decide +kernel
theorem x_380_23 : decode (q_code 380) 23 = .ok (.iload_n 3, 1) := by decide +kernel
theorem x_380_24 : decode (q_code 380) 24 = .ok (.invokevirtual 755, 3) := by decide +kernel
theorem x_380_27 : decode (q_code 380) 27 = .ok (.iaload, 1) := by decide +kernel
theorem x_380_28 : decode (q_code 380) 28 = .ok (.istore 5, 2) := by decide +kernel
theorem x_380_30 : decode (q_code 380) 30 = .ok (.aload_n 0, 1) := by decide +kernel
theorem x_380_31 : decode (q_code 380) 31 = .ok (.iload_n 1, 1) := by decide +kernel
theorem x_380_32 : decode (q_code 380) 32 = .ok (.iload 4, 2) := by decide +kernel
theorem x_380_34 : decode (q_code 380) 34 = .ok (.invokevirtual 746, 3) := by decide +kernel
theorem x_380_37 : decode (q_code 380) 37 = .ok (.iconst 1, 1) := by decide +kernel
theorem x_380_38 : decode (q_code 380) 38 = .ok (.isub, 1) := by decide +kernel
theorem x_380_39 : decode (q_code 380) 39 = .ok (.istore 6, 2) := by decide +kernel
theorem x_380_41 : decode (q_code 380) 41 = .ok (.aload_n 0, 1) := by decide +kernel
theorem x_380_42 : decode (q_code 380) 42 = .ok (.getfield 79, 3) := by decide +kernel
theorem x_380_45 : decode (q_code 380) 45 = .ok (.aload_n 0, 1) := by decide +kernel
theorem x_380_46 : decode (q_code 380) 46 = .ok (.iload_n 1, 1) := by decide +kernel
theorem x_380_47 : decode (q_code 380) 47 = .ok (.iload 4, 2) := by decide +kernel
theorem x_380_49 : decode (q_code 380) 49 = .ok (.iload 6, 2) := by decide +kernel
theorem x_380_51 : decode (q_code 380) 51 = .ok (.invokevirtual 755, 3) := by decide +kernel
theorem x_380_54 : decode (q_code 380) 54 = .ok (.iaload, 1) := by decide +kernel
theorem x_380_55 : decode (q_code 380) 55 = .ok (.istore 7, 2) := by decide +kernel
theorem x_380_57 : decode (q_code 380) 57 = .ok (.aload_n 0, 1) := by decide +kernel
theorem x_380_58 : decode (q_code 380) 58 = .ok (.getfield 82, 3) := by decide +kernel
theorem x_380_61 : decode (q_code 380) 61 = .ok (.aload_n 0, 1) := by decide +kernel
theorem x_380_62 : decode (q_code 380) 62 = .ok (.iload_n 1, 1) := by decide +kernel
theorem x_380_63 : decode (q_code 380) 63 = .ok (.iload 4, 2) := by decide +kernel
theorem x_380_65 : decode (q_code 380) 65 = .ok (.iload 6, 2) := by decide +kernel
theorem x_380_67 : decode (q_code 380) 67 = .ok (.invokevirtual 755, 3) := by decide +kernel
theorem x_380_70 : decode (q_code 380) 70 = .ok (.iaload, 1) := by decide +kernel
theorem x_380_71 : decode (q_code 380) 71 = .ok (.istore 8, 2) := by decide +kernel
theorem x_380_73 : decode (q_code 380) 73 = .ok (.aload_n 0, 1) := by decide +kernel
theorem x_380_74 : decode (q_code 380) 74 = .ok (.iload_n 1, 1) := by decide +kernel
theorem x_380_75 : decode (q_code 380) 75 = .ok (.iload 4, 2) := by decide +kernel
theorem x_380_77 : decode (q_code 380) 77 = .ok (.iload 6, 2) := by decide +kernel
theorem x_380_79 : decode (q_code 380) 79 = .ok (.invokevirtual 784, 3) := by decide +kernel
theorem x_380_82 : decode (q_code 380) 82 = .ok (.aload_n 0, 1) := by decide +kernel
theorem x_380_83 : decode (q_code 380) 83 = .ok (.iload_n 1, 1) := by decide +kernel
theorem x_380_84 : decode (q_code 380) 84 = .ok (.iload 5, 2) := by decide +kernel
theorem x_380_86 : decode (q_code 380) 86 = .ok (.iconst 0, 1) := by decide +kernel
theorem x_380_87 : decode (q_code 380) 87 = .ok (.iload 7, 2) := by decide +kernel
theorem x_380_89 : decode (q_code 380) 89 = .ok (.iconst 0, 1) := by decide +kernel
theorem x_380_90 : decode (q_code 380) 90 = .ok (.invokevirtual 766, 3) := by decide +kernel
theorem x_380_93 : decode (q_code 380) 93 = .ok (.aload_n 0, 1) := by decide +kernel
theorem x_380_94 : decode (q_code 380) 94 = .ok (.iload_n 1, 1) := by decide +kernel
theorem x_380_95 : decode (q_code 380) 95 = .ok (.iload 5, 2) := by decide +kernel
theorem x_380_97 : decode (q_code 380) 97 = .ok (.invokevirtual 760, 3) := by decide +kernel
theorem x_380_100 : decode (q_code 380) 100 = .ok (.ifCond .eq 20, 3) := by decide +kernel
theorem x_380_103 : decode (q_code 380) 103 = .ok (.aload_n 0, 1) := by decide +kernel
theorem x_380_104 : decode (q_code 380) 104 = .ok (.getfield 82, 3) := by decide +kernel
theorem x_380_107 : decode (q_code 380) 107 = .ok (.aload_n 0, 1) := by decide +kernel
theorem x_380_108 : decode (q_code 380) 108 = .ok (.iload_n 1, 1) := by decide +kernel
theorem x_380_109 : decode (q_code 380) 109 = .ok (.iload_n 2, 1) := by decide +kernel
theorem x_380_110 : decode (q_code 380) 110 = .ok (.iload_n 3, 1) := by decide +kernel
theorem x_380_111 : decode (q_code 380) 111 = .ok (.invokevirtual 755, 3) := by decide +kernel
theorem x_380_114 : decode (q_code 380) 114 = .ok (.iload 7, 2) := by decide +kernel
theorem x_380_116 : decode (q_code 380) 116 = .ok (.iastore, 1) := by decide +kernel
theorem x_380_117 : decode (q_code 380) 117 = .ok (.goto 42, 3) := by decide +kernel
theorem x_380_120 : decode (q_code 380) 120 = .ok (.aload_n 0, 1) := by decide +kernel
theorem x_380_121 : decode (q_code 380) 121 = .ok (.getfield 82, 3) := by decide +kernel
theorem x_380_124 : decode (q_code 380) 124 = .ok (.aload_n 0, 1) := by decide +kernel
theorem x_380_125 : decode (q_code 380) 125 = .ok (.iload_n 1, 1) := by decide +kernel
theorem x_380_126 : decode (q_code 380) 126 = .ok (.iload 5, 2) := by decide +kernel
theorem x_380_128 : decode (q_code 380) 128 = .ok (.iconst 1, 1) := by decide +kernel
theorem x_380_129 : decode (q_code 380) 129 = .ok (.invokevirtual 755, 3) := by decide +kernel
theorem x_380_132 : decode (q_code 380) 132 = .ok (.aload_n 0, 1) := by decide +kernel
theorem x_380_133 : decode (q_code 380) 133 = .ok (.getfield 82, 3) := by decide +kernel
theorem x_380_136 : decode (q_code 380) 136 = .ok (.aload_n 0, 1) := by decide +kernel
theorem x_380_137 : decode (q_code 380) 137 = .ok (.iload_n 1, 1) := by decide +kernel
theorem x_380_138 : decode (q_code 380) 138 = .ok (.iload_n 2, 1) := by decide +kernel
theorem x_380_139 : decode (q_code 380) 139 = .ok (.iload_n 3, 1) := by decide +kernel
theorem x_380_140 : decode (q_code 380) 140 = .ok (.invokevirtual 755, 3) := by decide +kernel
theorem x_380_143 : decode (q_code 380) 143 = .ok (.iaload, 1) := by decide +kernel
theorem x_380_144 : decode (q_code 380) 144 = .ok (.iastore, 1) := by decide +kernel
theorem x_380_145 : decode (q_code 380) 145 = .ok (.aload_n 0, 1) := by decide +kernel
theorem x_380_146 : decode (q_code 380) 146 = .ok (.getfield 82, 3) := by decide +kernel
theorem x_380_149 : decode (q_code 380) 149 = .ok (.aload_n 0, 1) := by decide +kernel
theorem x_380_150 : decode (q_code 380) 150 = .ok (.iload_n 1, 1) := by decide +kernel
theorem x_380_151 : decode (q_code 380) 151 = .ok (.iload_n 2, 1) := by decide +kernel
theorem x_380_152 : decode (q_code 380) 152 = .ok (.iload_n 3, 1) := by decide +kernel
theorem x_380_153 : decode (q_code 380) 153 = .ok (.invokevirtual 755, 3) := by decide +kernel
theorem x_380_156 : decode (q_code 380) 156 = .ok (.iload 8, 2) := by decide +kernel
theorem x_380_158 : decode (q_code 380) 158 = .ok (.iastore, 1) := by decide +kernel
theorem x_380_159 : decode (q_code 380) 159 = .ok (.return_, 1) := by decide +kernel
theorem x_381_0 : decode (q_code 381) 0 = .ok (.aload_n 0, 1) := by decide +kernel
theorem x_381_1 : decode (q_code 381) 1 = .ok (.getfield 79, 3) := by decide +kernel
theorem x_381_4 : decode (q_code 381) 4 = .ok (.aload_n 0, 1) := by decide +kernel
theorem x_381_5 : decode (q_code 381) 5 = .ok (.iload_n 1, 1) := by decide +kernel
theorem x_381_6 : decode (q_code 381) 6 = .ok (.iload_n 2, 1) := by decide +kernel
theorem x_381_7 : decode (q_code 381) 7 = .ok (.iload_n 3, 1) := by decide +kernel
theorem x_381_8 : decode (q_code 381) 8 = .ok (.invokevirtual 755, 3) := by decide +kernel
theorem x_381_11 : decode (q_code 381) 11 = .ok (.iaload, 1) := by decide +kernel
theorem x_381_12 : decode (q_code 381) 12 = .ok (.istore 4, 2) := by decide +kernel
theorem x_381_14 : decode (q_code 381) 14 = .ok (.aload_n 0, 1) := by decide +kernel
theorem x_381_15 : decode (q_code 381) 15 = .ok (.getfield 79, 3) := by decide +kernel
theorem x_381_18 : decode (q_code 381) 18 = .ok (.aload_n 0, 1) := by decide +kernel
theorem x_381_19 : decode (q_code 381) 19 = .ok (.iload_n 1, 1) := by decide +kernel
theorem x_381_20 : decode (q_code 381) 20 = .ok (.iload_n 2, 1) := by decide +kernel
theorem x_381_21 : decode (q_code 381) 21 = .ok (.iload_n 3, 1) := by decide +kernel
theorem x_381_22 : decode (q_code 381) 22 = .ok (.iconst 1, 1) := by decide +kernel
theorem x_381_23 : decode (q_code 381) 23 = .ok (.iadd, 1) := by decide +kernel
theorem x_381_24 : decode (q_code 381) 24 = .ok (.invokevirtual 755, 3) := by decide +kernel
theorem x_381_27 : decode (q_code 381) 27 = .ok (.iaload, 1) := by decide +kernel
theorem x_381_28 : decode (q_code 381) 28 = .ok (.istore 5, 2) := by decide +kernel
theorem x_381_30 : decode (q_code 381) 30 = .ok (.aload_n 0, 1) := by decide +kernel
theorem x_381_31 : decode (q_code 381) 31 = .ok (.getfield 79, 3) := by decide +kernel
theorem x_381_34 : decode (q_code 381) 34 = .ok (.aload_n 0, 1) := by decide +kernel
theorem x_381_35 : decode (q_code 381) 35 = .ok (.iload_n 1, 1) := by decide +kernel
theorem x_381_36 : decode (q_code 381) 36 = .ok (.iload 5, 2) := by decide +kernel
theorem x_381_38 : decode (q_code 381) 38 = .ok (.iconst 0, 1) := by decide +kernel
theorem x_381_39 : decode (q_code 381) 39 = .ok (.invokevirtual 755, 3) := by decide +kernel
theorem x_381_42 : decode (q_code 381) 42 = .ok (.iaload, 1) := by decide +kernel
theorem x_381_43 : decode (q_code 381) 43 = .ok (.istore 6, 2) := by decide +kernel
theorem x_381_45 : decode (q_code 381) 45 = .ok (.aload_n 0, 1) := by decide +kernel
theorem x_381_46 : decode (q_code 381) 46 = .ok (.iload_n 1, 1) := by decide +kernel
theorem x_381_47 : decode (q_code 381) 47 = .ok (.iload 5, 2) := by decide +kernel
theorem x_381_49 : decode (q_code 381) 49 = .ok (.invokevirtual 746, 3) := by decide +kernel
theorem x_381_52 : decode (q_code 381) 52 = .ok (.iconst 1, 1) := by decide +kernel
theorem x_381_53 : decode (q_code 381) 53 = .ok (.if_icmp .le 19, 3) := by decide +kernel
theorem x_381_56 : decode (q_code 381) 56 = .ok (.aload_n 0, 1) := by decide +kernel
theorem x_381_57 : decode (q_code 381) 57 = .ok (.getfield 82, 3) := by decide +kernel
theorem x_381_60 : decode (q_code 381) 60 = .ok (.aload_n 0, 1) := by decide +kernel
theorem x_381_61 : decode (q_code 381) 61 = .ok (.iload_n 1, 1) := by decide +kernel
theorem x_381_62 : decode (q_code 381) 62 = .ok (.iload 5, 2) := by decide +kernel
theorem x_381_64 : decode (q_code 381) 64 = .ok (.iconst 1, 1) := by decide +kernel
theorem x_381_65 : decode (q_code 381) 65 = .ok (.invokevirtual 755, 3) := by decide +kernel
theorem x_381_68 : decode (q_code 381) 68 = .ok (.iaload, 1) := by decide +kernel
theorem x_381_69 : decode (q_code 381) 69 = .ok (.goto 4, 3) := by decide +kernel
theorem x_381_72 : decode (q_code 381) 72 = .ok (.iconst 0, 1) := by decide +kernel
theorem x_381_73 : decode (q_code 381) 73 = .ok (.istore 7, 2) := by decide +kernel
theorem x_381_75 : decode (q_code 381) 75 = .ok (.aload_n 0, 1) := by decide +kernel
theorem x_381_76 : decode (q_code 381) 76 = .ok (.iload_n 1, 1) := by decide +kernel
theorem x_381_77 : decode (q_code 381) 77 = .ok (.iload 5, 2) := by decide +kernel
theorem x_381_79 : decode (q_code 381) 79 = .ok (.iconst 0, 1) := by decide +kernel
theorem x_381_80 : decode (q_code 381) 80 = .ok (.invokevirtual 784, 3) := by decide +kernel
theorem x_381_83 : decode (q_code 381) 83 = .ok (.aload_n 0, 1) := by decide +kernel
theorem x_381_84 : decode (q_code 381) 84 = .ok (.iload_n 1, 1) := by decide +kernel
theorem x_381_85 : decode (q_code 381) 85 = .ok (.iload 4, 2) := by decide +kernel
theorem x_381_87 : decode (q_code 381) 87 = .ok (.aload_n 0, 1) := by decide +kernel
theorem x_381_88 : decode (q_code 381) 88 = .ok (.iload_n 1, 1) := by decide +kernel
theorem x_381_89 : decode (q_code 381) 89 = .ok (.iload 4, 2) := by decide +kernel
theorem x_381_91 : decode (q_code 381) 91 = .ok (.invokevirtual 746, 3) := by decide +kernel
theorem x_381_94 : decode (q_code 381) 94 = .ok (.iload 6, 2) := by decide +kernel
theorem x_381_96 : decode (q_code 381) 96 = .ok (.aload_n 0, 1) := by decide +kernel
theorem x_381_97 : decode (q_code 381) 97 = .ok (.getfield 82, 3) := by decide +kernel
theorem x_381_100 : decode (q_code 381) 100 = .ok (.aload_n 0, 1) := by decide +kernel
theorem x_381_101 : decode (q_code 381) 101 = .ok (.iload_n 1, 1) := by decide +kernel
theorem x_381_102 : decode (q_code 381) 102 = .ok (.iload_n 2, 1) := by decide +kernel
theorem x_381_103 : decode (q_code 381) 103 = .ok (.iload_n 3, 1) := by decide +kernel
theorem x_381_104 : decode (q_code 381) 104 = .ok (.iconst 1, 1) := by decide +kernel
theorem x_381_105 : decode (q_code 381) 105 = .ok (.iadd, 1) := by decide +kernel
theorem x_381_106 : decode (q_code 381) 106 = .ok (.invokevirtual 755, 3) := by decide +kernel
theorem x_381_109 : decode (q_code 381) 109 = .ok (.iaload, 1) := by decide +kernel
theorem x_381_110 : decode (q_code 381) 110 = .ok (.invokevirtual 766, 3) := by decide +kernel
theorem x_381_113 : decode (q_code 381) 113 = .ok (.aload_n 0, 1) := by decide +kernel
theorem x_381_114 : decode (q_code 381) 114 = .ok (.getfield 82, 3) := by decide +kernel
theorem x_381_117 : decode (q_code 381) 117 = .ok (.aload_n 0, 1) := by decide +kernel
theorem x_381_118 : decode (q_code 381) 118 = .ok (.iload_n 1, 1) := by decide +kernel
theorem x_381_119 : decode (q_code 381) 119 = .ok (.iload_n 2, 1) := by decide +kernel
theorem x_381_120 : decode (q_code 381) 120 = .ok (.iload_n 3, 1) := by decide +kernel
theorem x_381_121 : decode (q_code 381) 121 = .ok (.iconst 1, 1) := by decide +kernel
theorem x_381_122 : decode (q_code 381) 122 = .ok (.iadd, 1) := by decide +kernel
theorem x_381_123 : decode (q_code 381) 123 = .ok (.invokevirtual 755, 3) := by decide +kernel
theorem x_381_126 : decode (q_code 381) 126 = .ok (.aload_n 0, 1) := by decide +kernel
theorem x_381_127 : decode (q_code 381) 127 = .ok (.iload_n 1, 1) := by decide +kernel
theorem x_381_128 : decode (q_code 381) 128 = .ok (.iload 4, 2) := by decide +kernel
theorem x_381_130 : decode (q_code 381) 130 = .ok (.invokevirtual 760, 3) := by decide +kernel
theorem x_381_133 : decode (q_code 381) 133 = .ok (.ifCond .eq 19, 3) := by decide +kernel
theorem x_381_136 : decode (q_code 381) 136 = .ok (.aload_n 0, 1) := by decide +kernel
theorem x_381_137 : decode (q_code 381) 137 = .ok (.getfield 79, 3) := by decide +kernel
theorem x_381_140 : decode (q_code 381) 140 = .ok (.aload_n 0, 1) := by decide +kernel
theorem x_381_141 : decode (q_code 381) 141 = .ok (.iload_n 1, 1) := by decide +kernel
theorem x_381_142 : decode (q_code 381) 142 = .ok (.iload 5, 2) := by decide +kernel
theorem x_381_144 : decode (q_code 381) 144 = .ok (.iconst 0, 1) := by decide +kernel
theorem x_381_145 : decode (q_code 381) 145 = .ok (.invokevirtual 755, 3) := by decide +kernel
theorem x_381_148 : decode (q_code 381) 148 = .ok (.iaload, 1) := by decide +kernel
theorem x_381_149 : decode (q_code 381) 149 = .ok (.goto 5, 3) := by decide +kernel
theorem x_381_152 : decode (q_code 381) 152 = .ok (.iload 7, 2) := by decide +kernel
theorem x_381_154 : decode (q_code 381) 154 = .ok (.iastore, 1) := by decide +kernel
theorem x_381_155 : decode (q_code 381) 155 = .ok (.return_, 1) := by decide +kernel
theorem m_X12_stageFault {d : Nat} {M : g_M} {Q : Int → g_M → Prop} {a0 : Nat} {v1 : Int} (hv1 : g_InR v1) (h : g_ok M → g_O M a0 12 ∧ g_Call d 239 [.ref a0, g_n v1] M (g_qI fun r5 M2 => g_ext M M2 → g_ok M2 → g_InR r5 → ((r5 = 1 → g_Call d 237 [g_n v1] M2 (g_qI fun r10 M7 => g_ext M2 M7 → g_ok M7 → g_InR r10 → g_Call d 236 [.ref a0, g_n r10, .ref (4 * 109 + 1)] M7 (g_qI fun r15 M12 => g_ext M7 M12 → g_ok M12 → g_InR r15 → ((r15 = 0 → g_Call d 236 [.ref a0, g_n r10, .ref (4 * 110 + 1)] M12 (g_qI fun r20 M17 => g_ext M12 M17 → g_ok M17 → g_InR r20 → ((r20 = 0 → g_Call d 236 [.ref a0, g_n r10, .ref (4 * 111 + 1)] M17 (g_qI fun r25 M22 => g_ext M17 M22 → g_ok M22 → g_InR r25 → ((r25 = 0 → g_Call d 236 [.ref a0, g_n r10, .ref (4 * 121 + 1)] M22 (g_qI fun r30 M27 => g_ext M22 M27 → g_ok M27 → g_InR r30 → ((r30 = 0 → g_Call d 236 [.ref a0, g_n r10, .ref (4 * 122 + 1)] M27 (g_qI fun r35 M32 => g_ext M27 M32 → g_ok M32 → g_InR r35 → ((r35 = 0 → g_Call d 236 [.ref a0, g_n r10, .ref (4 * 123 + 1)] M32 (g_qI fun r40 M37 => g_ext M32 M37 → g_ok M37 → g_InR r40 → ((r40 = 0 → g_Call d 236 [.ref a0, g_n r10, .ref (4 * 124 + 1)] M37 (g_qI fun r45 M42 => g_ext M37 M42 → g_ok M42 → g_InR r45 → ((r45 = 0 → Q 1 M42) ∧ (¬ r45 = 0 → g_Call d 335 [.ref a0, g_n r10] M42 (g_qI fun r50 M47 => g_ext M42 M47 → g_ok M47 → g_InR r50 → Q r50 M47))))) ∧ (¬ r40 = 0 → g_Run d 330 128 [(0, .ref a0), (1, g_n v1), (2, g_n r10)] [] M37 (g_qI Q))))) ∧ (¬ r35 = 0 → g_Run d 330 128 [(0, .ref a0), (1, g_n v1), (2, g_n r10)] [] M32 (g_qI Q))))) ∧ (¬ r30 = 0 → g_Call d 334 [.ref a0, g_n r10] M27 (g_qI fun r55 M52 => g_ext M27 M52 → g_ok M52 → g_InR r55 → Q r55 M52))))) ∧ (¬ r25 = 0 → g_Call d 333 [.ref a0, g_n r10] M22 (g_qI fun r60 M57 => g_ext M22 M57 → g_ok M57 → g_InR r60 → Q r60 M57))))) ∧ (¬ r20 = 0 → ∃ b62, g_r M17 a0 0 = some b62 ∧ ∃ n64, g_A M17 b62 0 n64 ∧ ((0 : Int) ≤ r10 ∧ (r10 : Int) < n64) ∧ ((g_i M17 b62 r10 = 2 → g_Call d 323 [.ref a0, g_n r10] M17 (g_qI fun r70 M67 => g_ext M17 M67 → g_ok M67 → g_InR r70 → ((r70 = 0 → Q 2 M67) ∧ (¬ r70 = 0 → g_Call d 324 [.ref a0, g_n r10] M67 (g_qI fun r75 M72 => g_ext M67 M72 → g_ok M72 → g_InR r75 → Q r75 M72))))) ∧ (¬ g_i M17 b62 r10 = 2 → Q 2 M17)))))) ∧ (¬ r15 = 0 → g_Call d 331 [.ref a0, g_n r10] M12 (g_qI fun r80 M77 => g_ext M12 M77 → g_ok M77 → g_InR r80 → Q r80 M77)))))) ∧ (¬ r5 = 1 → Q 1 M2)))) : g_Call (d + 1) 330 [.ref a0, g_n v1] M (g_qI Q) := by
  refine g_Call.ok fun hok0 => ?_
  replace h := h hok0
  refine r_body rfl (lv := [(0, .ref a0), (1, g_n v1)]) rfl ?_
  refine g_Run.ok fun hok => ?_
  refine r_aload_n x_330_0 rfl ?_
  refine r_iload_n x_330_1 rfl ?_
  obtain ⟨hO1, h⟩ := h
  refine r_invV x_330_2 (z := 239) (ns := 0) (by decide +kernel) (as := [g_n v1]) (r := []) rfl rfl rfl hO1 rfl rfl ?_
  refine r_callI h fun r5 M2 hx3 hok4 hr6 h => ?_
  replace h := h hx3 hok4 hr6
  replace hO1 := hO1.up hx3
  refine r_iconst x_330_5 ?_
  refine r_ic_eq x_330_6 (t := 11) (by decide +kernel) hr6 (g_Rk rfl) (fun hc => ?_) (fun hc => ?_)
  · replace h := h.1 hc
    refine r_iload_n x_330_11 rfl ?_
    refine r_invS x_330_12 (z := 237) (ns := 0) (by decide +kernel) (as := [g_n v1]) (r := []) rfl rfl rfl ?_
    refine r_callI h fun r10 M7 hx8 hok9 hr11 h => ?_
    replace h := h hx8 hok9 hr11
    replace hO1 := hO1.up hx8
    refine r_istore_n x_330_15 (by decide +kernel) rfl (lv1 := [(0, .ref a0), (1, g_n v1), (2, g_n r10)]) rfl ?_
    refine r_aload_n x_330_16 rfl ?_
    refine r_iload_n x_330_17 rfl ?_
    refine r_ldcw x_330_18 (v := .ref (4 * 109 + 1)) rfl ?_
    refine r_invV x_330_21 (z := 236) (ns := 0) (by decide +kernel) (as := [g_n r10, .ref (4 * 109 + 1)]) (r := []) rfl rfl rfl hO1 rfl rfl ?_
    refine r_callI h fun r15 M12 hx13 hok14 hr16 h => ?_
    replace h := h hx13 hok14 hr16
    replace hO1 := hO1.up hx13
    refine r_if_eq x_330_24 (t := 33) (by decide +kernel) hr16 (fun hc => ?_) (fun hc => ?_)
    · replace h := h.1 hc
      refine r_aload_n x_330_33 rfl ?_
      refine r_iload_n x_330_34 rfl ?_
      refine r_ldcw x_330_35 (v := .ref (4 * 110 + 1)) rfl ?_
      refine r_invV x_330_38 (z := 236) (ns := 0) (by decide +kernel) (as := [g_n r10, .ref (4 * 110 + 1)]) (r := []) rfl rfl rfl hO1 rfl rfl ?_
      refine r_callI h fun r20 M17 hx18 hok19 hr21 h => ?_
      replace h := h hx18 hok19 hr21
      replace hO1 := hO1.up hx18
      refine r_if_eq x_330_41 (t := 72) (by decide +kernel) hr21 (fun hc => ?_) (fun hc => ?_)
      · replace h := h.1 hc
        refine r_aload_n x_330_72 rfl ?_
        refine r_iload_n x_330_73 rfl ?_
        refine r_ldcw x_330_74 (v := .ref (4 * 111 + 1)) rfl ?_
        refine r_invV x_330_77 (z := 236) (ns := 0) (by decide +kernel) (as := [g_n r10, .ref (4 * 111 + 1)]) (r := []) rfl rfl rfl hO1 rfl rfl ?_
        refine r_callI h fun r25 M22 hx23 hok24 hr26 h => ?_
        replace h := h hx23 hok24 hr26
        replace hO1 := hO1.up hx23
        refine r_if_eq x_330_80 (t := 89) (by decide +kernel) hr26 (fun hc => ?_) (fun hc => ?_)
        · replace h := h.1 hc
          refine r_aload_n x_330_89 rfl ?_
          refine r_iload_n x_330_90 rfl ?_
          refine r_ldcw x_330_91 (v := .ref (4 * 121 + 1)) rfl ?_
          refine r_invV x_330_94 (z := 236) (ns := 0) (by decide +kernel) (as := [g_n r10, .ref (4 * 121 + 1)]) (r := []) rfl rfl rfl hO1 rfl rfl ?_
          refine r_callI h fun r30 M27 hx28 hok29 hr31 h => ?_
          replace h := h hx28 hok29 hr31
          replace hO1 := hO1.up hx28
          refine r_if_eq x_330_97 (t := 106) (by decide +kernel) hr31 (fun hc => ?_) (fun hc => ?_)
          · replace h := h.1 hc
            refine r_aload_n x_330_106 rfl ?_
            refine r_iload_n x_330_107 rfl ?_
            refine r_ldcw x_330_108 (v := .ref (4 * 122 + 1)) rfl ?_
            refine r_invV x_330_111 (z := 236) (ns := 0) (by decide +kernel) (as := [g_n r10, .ref (4 * 122 + 1)]) (r := []) rfl rfl rfl hO1 rfl rfl ?_
            refine r_callI h fun r35 M32 hx33 hok34 hr36 h => ?_
            replace h := h hx33 hok34 hr36
            replace hO1 := hO1.up hx33
            refine r_if_ne x_330_114 (t := 128) (by decide +kernel) hr36 (fun hc => ?_) (fun hc => ?_)
            · replace h := h.2 hc
              exact h
            · replace h := h.1 hc
              refine r_aload_n x_330_117 rfl ?_
              refine r_iload_n x_330_118 rfl ?_
              refine r_ldcw x_330_119 (v := .ref (4 * 123 + 1)) rfl ?_
              refine r_invV x_330_122 (z := 236) (ns := 0) (by decide +kernel) (as := [g_n r10, .ref (4 * 123 + 1)]) (r := []) rfl rfl rfl hO1 rfl rfl ?_
              refine r_callI h fun r40 M37 hx38 hok39 hr41 h => ?_
              replace h := h hx38 hok39 hr41
              replace hO1 := hO1.up hx38
              refine r_if_eq x_330_125 (t := 152) (by decide +kernel) hr41 (fun hc => ?_) (fun hc => ?_)
              · replace h := h.1 hc
                refine r_aload_n x_330_152 rfl ?_
                refine r_iload_n x_330_153 rfl ?_
                refine r_ldcw x_330_154 (v := .ref (4 * 124 + 1)) rfl ?_
                refine r_invV x_330_157 (z := 236) (ns := 0) (by decide +kernel) (as := [g_n r10, .ref (4 * 124 + 1)]) (r := []) rfl rfl rfl hO1 rfl rfl ?_
                refine r_callI h fun r45 M42 hx43 hok44 hr46 h => ?_
                replace h := h hx43 hok44 hr46
                replace hO1 := hO1.up hx43
                refine r_if_eq x_330_160 (t := 171) (by decide +kernel) hr46 (fun hc => ?_) (fun hc => ?_)
                · replace h := h.1 hc
                  refine r_iconst x_330_171 ?_
                  exact r_retI x_330_172 rfl (g_Rk rfl) h
                · replace h := h.2 hc
                  refine r_aload_n x_330_163 rfl ?_
                  refine r_iload_n x_330_164 rfl ?_
                  refine r_invV x_330_165 (z := 335) (ns := 0) (by decide +kernel) (as := [g_n r10]) (r := []) rfl rfl rfl hO1 rfl rfl ?_
                  refine r_callI h fun r50 M47 hx48 hok49 hr51 h => ?_
                  replace h := h hx48 hok49 hr51
                  replace hO1 := hO1.up hx48
                  refine r_goto x_330_168 (t := 172) (by decide +kernel) ?_
                  exact r_retI x_330_172 rfl hr51 h
              · replace h := h.2 hc
                exact h
          · replace h := h.2 hc
            refine r_aload_n x_330_100 rfl ?_
            refine r_iload_n x_330_101 rfl ?_
            refine r_invV x_330_102 (z := 334) (ns := 0) (by decide +kernel) (as := [g_n r10]) (r := []) rfl rfl rfl hO1 rfl rfl ?_
            refine r_callI h fun r55 M52 hx53 hok54 hr56 h => ?_
            replace h := h hx53 hok54 hr56
            replace hO1 := hO1.up hx53
            exact r_retI x_330_105 rfl hr56 h
        · replace h := h.2 hc
          refine r_aload_n x_330_83 rfl ?_
          refine r_iload_n x_330_84 rfl ?_
          refine r_invV x_330_85 (z := 333) (ns := 0) (by decide +kernel) (as := [g_n r10]) (r := []) rfl rfl rfl hO1 rfl rfl ?_
          refine r_callI h fun r60 M57 hx58 hok59 hr61 h => ?_
          replace h := h hx58 hok59 hr61
          replace hO1 := hO1.up hx58
          exact r_retI x_330_88 rfl hr61 h
      · replace h := h.2 hc
        refine r_aload_n x_330_44 rfl ?_
        obtain ⟨b62, hb63, h⟩ := h
        refine r_getR x_330_45 rfl (ci := 12) (k := 0) (ns := 0) (by decide +kernel) (by decide) rfl (kz := 0) rfl hO1 hb63 ?_
        refine r_iload_n x_330_48 rfl ?_
        obtain ⟨n64, hA65, h⟩ := h
        obtain ⟨h66, h⟩ := h
        refine r_bald x_330_49 (Or.inl rfl) hA65 hr11 h66.1 h66.2 ?_
        refine r_iconst x_330_50 ?_
        refine r_ic_ne x_330_51 (t := 62) (by decide +kernel) (hok19.1 _ _) (g_Rk rfl) (fun hc => ?_) (fun hc => ?_)
        · replace h := h.2 hc
          refine r_iconst x_330_62 ?_
          refine r_goto x_330_63 (t := 71) (by decide +kernel) ?_
          exact r_retI x_330_71 rfl (g_Rk rfl) h
        · replace h := h.1 hc
          refine r_aload_n x_330_54 rfl ?_
          refine r_iload_n x_330_55 rfl ?_
          refine r_invV x_330_56 (z := 323) (ns := 0) (by decide +kernel) (as := [g_n r10]) (r := []) rfl rfl rfl hO1 rfl rfl ?_
          refine r_callI h fun r70 M67 hx68 hok69 hr71 h => ?_
          replace h := h hx68 hok69 hr71
          replace hO1 := hO1.up hx68
          replace hA65 := hA65.up hx68
          refine r_if_ne x_330_59 (t := 66) (by decide +kernel) hr71 (fun hc => ?_) (fun hc => ?_)
          · replace h := h.2 hc
            refine r_aload_n x_330_66 rfl ?_
            refine r_iload_n x_330_67 rfl ?_
            refine r_invV x_330_68 (z := 324) (ns := 0) (by decide +kernel) (as := [g_n r10]) (r := []) rfl rfl rfl hO1 rfl rfl ?_
            refine r_callI h fun r75 M72 hx73 hok74 hr76 h => ?_
            replace h := h hx73 hok74 hr76
            replace hO1 := hO1.up hx73
            replace hA65 := hA65.up hx73
            exact r_retI x_330_71 rfl hr76 h
          · replace h := h.1 hc
            refine r_iconst x_330_62 ?_
            refine r_goto x_330_63 (t := 71) (by decide +kernel) ?_
            exact r_retI x_330_71 rfl (g_Rk rfl) h
    · replace h := h.2 hc
      refine r_aload_n x_330_27 rfl ?_
      refine r_iload_n x_330_28 rfl ?_
      refine r_invV x_330_29 (z := 331) (ns := 0) (by decide +kernel) (as := [g_n r10]) (r := []) rfl rfl rfl hO1 rfl rfl ?_
      refine r_callI h fun r80 M77 hx78 hok79 hr81 h => ?_
      replace h := h hx78 hok79 hr81
      replace hO1 := hO1.up hx78
      exact r_retI x_330_32 rfl hr81 h
  · replace h := h.2 hc
    refine r_iconst x_330_9 ?_
    exact r_retI x_330_10 rfl (g_Rk rfl) h
theorem s_X12_stageFault_128 {d : Nat} {M : g_M} {Q : Int → g_M → Prop} {a0 : Nat} {v1 : Int} (hv1 : g_InR v1) {v2 : Int} (hv2 : g_InR v2) (h : g_ok M → g_O M a0 12 ∧ g_Call d 242 [.ref a0, g_n v2] M (g_qI fun r5 M2 => g_ext M M2 → g_ok M2 → g_InR r5 → ((r5 = 0 → Q 2 M2) ∧ (¬ r5 = 0 → g_Call d 243 [.ref a0, g_n v2] M2 (g_qL fun R10 M7 => g_ext M2 M7 → g_ok M7 → ((g_lc R10 0 < 0 → Q 2 M7) ∧ (¬ g_lc R10 0 < 0 → Q 0 M7))))))) : g_Run d 330 128 [(0, .ref a0), (1, g_n v1), (2, g_n v2)] [] M (g_qI Q) := by
  refine g_Run.ok fun hok => ?_
  replace h := h hok
  refine r_aload_n x_330_128 rfl ?_
  refine r_iload_n x_330_129 rfl ?_
  obtain ⟨hO1, h⟩ := h
  refine r_invV x_330_130 (z := 242) (ns := 0) (by decide +kernel) (as := [g_n v2]) (r := []) rfl rfl rfl hO1 rfl rfl ?_
  refine r_callI h fun r5 M2 hx3 hok4 hr6 h => ?_
  replace h := h hx3 hok4 hr6
  replace hO1 := hO1.up hx3
  refine r_if_eq x_330_133 (t := 150) (by decide +kernel) hr6 (fun hc => ?_) (fun hc => ?_)
  · replace h := h.1 hc
    refine r_iconst x_330_150 ?_
    exact r_retI x_330_151 rfl (g_Rk rfl) h
  · replace h := h.2 hc
    refine r_aload_n x_330_136 rfl ?_
    refine r_iload_n x_330_137 rfl ?_
    refine r_invV x_330_138 (z := 243) (ns := 0) (by decide +kernel) (as := [g_n v2]) (r := []) rfl rfl rfl hO1 rfl rfl ?_
    refine r_callL h fun R10 M7 hx8 hok9 h => ?_
    replace h := h hx8 hok9
    replace hO1 := hO1.up hx8
    refine r_lconst x_330_141 ?_
    show g_Run d 330 142 [(0, .ref a0), (1, g_n v1), (2, g_n v2)] [.long 0, .long R10] M7 _
    refine r_lcmp x_330_142 ?_
    refine r_if_lt x_330_143 (t := 150) (by decide +kernel) (g_InR_toInt _) (fun hc => ?_) (fun hc => ?_)
    · replace h := h.1 hc
      refine r_iconst x_330_150 ?_
      exact r_retI x_330_151 rfl (g_Rk rfl) h
    · replace h := h.2 hc
      refine r_iconst x_330_146 ?_
      refine r_goto x_330_147 (t := 151) (by decide +kernel) ?_
      exact r_retI x_330_151 rfl (g_Rk rfl) h
theorem m_X12_projectFault {d : Nat} {M : g_M} {Q : Int → g_M → Prop} {a0 : Nat} {v1 : Int} (hv1 : g_InR v1) (h : g_ok M → g_O M a0 12 ∧ ∃ b2, g_r M a0 0 = some b2 ∧ ∃ n4, g_A M b2 0 n4 ∧ ((0 : Int) ≤ v1 ∧ (v1 : Int) < n4) ∧ ((g_i M b2 v1 = 3 → g_Call d 233 [.ref a0, g_n v1] M (g_qI fun r10 M7 => g_ext M M7 → g_ok M7 → g_InR r10 → g_Call d 239 [.ref a0, g_n r10] M7 (g_qI fun r15 M12 => g_ext M7 M12 → g_ok M12 → g_InR r15 → ((r15 = 0 → Q 2 M12) ∧ (¬ r15 = 0 → g_Call d 233 [.ref a0, g_n v1] M12 (g_qI fun r20 M17 => g_ext M12 M17 → g_ok M17 → g_InR r20 → g_Call d 237 [g_n r20] M17 (g_qI fun r25 M22 => g_ext M17 M22 → g_ok M22 → g_InR r25 → g_Run d 331 33 [(0, .ref a0), (1, g_n v1), (2, g_n r25)] [] M22 (g_qI Q)))))))) ∧ (¬ g_i M b2 v1 = 3 → Q 2 M))) : g_Call (d + 1) 331 [.ref a0, g_n v1] M (g_qI Q) := by
  refine g_Call.ok fun hok0 => ?_
  replace h := h hok0
  refine r_body rfl (lv := [(0, .ref a0), (1, g_n v1)]) rfl ?_
  refine g_Run.ok fun hok => ?_
  refine r_aload_n x_331_0 rfl ?_
  obtain ⟨hO1, h⟩ := h
  obtain ⟨b2, hb3, h⟩ := h
  refine r_getR x_331_1 rfl (ci := 12) (k := 0) (ns := 0) (by decide +kernel) (by decide) rfl (kz := 0) rfl hO1 hb3 ?_
  refine r_iload_n x_331_4 rfl ?_
  obtain ⟨n4, hA5, h⟩ := h
  obtain ⟨h6, h⟩ := h
  refine r_bald x_331_5 (Or.inl rfl) hA5 hv1 h6.1 h6.2 ?_
  refine r_iconst x_331_6 ?_
  refine r_ic_ne x_331_7 (t := 22) (by decide +kernel) (hok.1 _ _) (g_Rk rfl) (fun hc => ?_) (fun hc => ?_)
  · replace h := h.2 hc
    refine r_iconst x_331_22 ?_
    exact r_retI x_331_23 rfl (g_Rk rfl) h
  · replace h := h.1 hc
    refine r_aload_n x_331_10 rfl ?_
    refine r_aload_n x_331_11 rfl ?_
    refine r_iload_n x_331_12 rfl ?_
    refine r_invV x_331_13 (z := 233) (ns := 0) (by decide +kernel) (as := [g_n v1]) (r := [.ref a0]) rfl rfl rfl hO1 rfl rfl ?_
    refine r_callI h fun r10 M7 hx8 hok9 hr11 h => ?_
    replace h := h hx8 hok9 hr11
    replace hO1 := hO1.up hx8
    replace hA5 := hA5.up hx8
    refine r_invV x_331_16 (z := 239) (ns := 0) (by decide +kernel) (as := [g_n r10]) (r := []) rfl rfl rfl hO1 rfl rfl ?_
    refine r_callI h fun r15 M12 hx13 hok14 hr16 h => ?_
    replace h := h hx13 hok14 hr16
    replace hO1 := hO1.up hx13
    replace hA5 := hA5.up hx13
    refine r_if_ne x_331_19 (t := 24) (by decide +kernel) hr16 (fun hc => ?_) (fun hc => ?_)
    · replace h := h.2 hc
      refine r_aload_n x_331_24 rfl ?_
      refine r_iload_n x_331_25 rfl ?_
      refine r_invV x_331_26 (z := 233) (ns := 0) (by decide +kernel) (as := [g_n v1]) (r := []) rfl rfl rfl hO1 rfl rfl ?_
      refine r_callI h fun r20 M17 hx18 hok19 hr21 h => ?_
      replace h := h hx18 hok19 hr21
      replace hO1 := hO1.up hx18
      replace hA5 := hA5.up hx18
      refine r_invS x_331_29 (z := 237) (ns := 0) (by decide +kernel) (as := [g_n r20]) (r := []) rfl rfl rfl ?_
      refine r_callI h fun r25 M22 hx23 hok24 hr26 h => ?_
      replace h := h hx23 hok24 hr26
      replace hO1 := hO1.up hx23
      replace hA5 := hA5.up hx23
      refine r_istore_n x_331_32 (by decide +kernel) rfl (lv1 := [(0, .ref a0), (1, g_n v1), (2, g_n r25)]) rfl ?_
      exact h
    · replace h := h.1 hc
      refine r_iconst x_331_22 ?_
      exact r_retI x_331_23 rfl (g_Rk rfl) h
theorem s_X12_projectFault_33 {d : Nat} {M : g_M} {Q : Int → g_M → Prop} {a0 : Nat} {v1 : Int} (hv1 : g_InR v1) {v2 : Int} (hv2 : g_InR v2) (h : g_ok M → g_O M a0 12 ∧ g_Call d 233 [.ref a0, g_n v1] M (g_qI fun r5 M2 => g_ext M M2 → g_ok M2 → g_InR r5 → g_Call d 238 [.ref a0, g_n r5] M2 (g_qI fun r10 M7 => g_ext M2 M7 → g_ok M7 → g_InR r10 → ((v2 < r10 → g_InR (v2 + 1) ∧ g_Call d 232 [.ref a0, g_n v2] M7 (g_qI fun r16 M13 => g_ext M7 M13 → g_ok M13 → g_InR r16 → g_Call d 321 [.ref a0, g_n (v2 + 1), g_n r16] M13 (g_qI fun r21 M18 => g_ext M13 M18 → g_ok M18 → g_InR r21 → ((r21 = 0 → Q 2 M18) ∧ (¬ r21 = 0 → g_Call d 324 [.ref a0, g_n v2] M18 (g_qI fun r26 M23 => g_ext M18 M23 → g_ok M23 → g_InR r26 → ((0 < r26 → Q 3 M23) ∧ (¬ 0 < r26 → g_Call d 235 [.ref a0, g_n v2] M23 (g_qI fun r31 M28 => g_ext M23 M28 → g_ok M28 → g_InR r31 → g_Run d 331 33 [(0, .ref a0), (1, g_n v1), (2, g_n r31)] [] M28 (g_qI Q)))))))))) ∧ (¬ v2 < r10 → Q 0 M7))))) : g_Run d 331 33 [(0, .ref a0), (1, g_n v1), (2, g_n v2)] [] M (g_qI Q) := by
  refine g_Run.ok fun hok => ?_
  replace h := h hok
  refine r_iload_n x_331_33 rfl ?_
  refine r_aload_n x_331_34 rfl ?_
  refine r_aload_n x_331_35 rfl ?_
  refine r_iload_n x_331_36 rfl ?_
  obtain ⟨hO1, h⟩ := h
  refine r_invV x_331_37 (z := 233) (ns := 0) (by decide +kernel) (as := [g_n v1]) (r := [.ref a0, g_n v2]) rfl rfl rfl hO1 rfl rfl ?_
  refine r_callI h fun r5 M2 hx3 hok4 hr6 h => ?_
  replace h := h hx3 hok4 hr6
  replace hO1 := hO1.up hx3
  refine r_invV x_331_40 (z := 238) (ns := 0) (by decide +kernel) (as := [g_n r5]) (r := [g_n v2]) rfl rfl rfl hO1 rfl rfl ?_
  refine r_callI h fun r10 M7 hx8 hok9 hr11 h => ?_
  replace h := h hx8 hok9 hr11
  replace hO1 := hO1.up hx8
  refine r_ic_ge x_331_43 (t := 82) (by decide +kernel) hv2 hr11 (fun hc => ?_) (fun hc => ?_)
  · replace h := h.2 hc
    refine r_iconst x_331_82 ?_
    exact r_retI x_331_83 rfl (g_Rk rfl) h
  · replace h := h.1 hc
    refine r_aload_n x_331_46 rfl ?_
    refine r_iload_n x_331_47 rfl ?_
    refine r_iconst x_331_48 ?_
    refine r_iadd x_331_49 ?_
    obtain ⟨h12, h⟩ := h
    refine r_aload_n x_331_50 rfl ?_
    refine r_iload_n x_331_51 rfl ?_
    refine r_invV x_331_52 (z := 232) (ns := 0) (by decide +kernel) (as := [g_n v2]) (r := [g_n (v2 + 1), .ref a0]) rfl rfl rfl hO1 rfl rfl ?_
    refine r_callI h fun r16 M13 hx14 hok15 hr17 h => ?_
    replace h := h hx14 hok15 hr17
    replace hO1 := hO1.up hx14
    refine r_invV x_331_55 (z := 321) (ns := 0) (by decide +kernel) (as := [g_n (v2 + 1), g_n r16]) (r := []) rfl rfl rfl hO1 rfl rfl ?_
    refine r_callI h fun r21 M18 hx19 hok20 hr22 h => ?_
    replace h := h hx19 hok20 hr22
    replace hO1 := hO1.up hx19
    refine r_if_ne x_331_58 (t := 63) (by decide +kernel) hr22 (fun hc => ?_) (fun hc => ?_)
    · replace h := h.2 hc
      refine r_aload_n x_331_63 rfl ?_
      refine r_iload_n x_331_64 rfl ?_
      refine r_invV x_331_65 (z := 324) (ns := 0) (by decide +kernel) (as := [g_n v2]) (r := []) rfl rfl rfl hO1 rfl rfl ?_
      refine r_callI h fun r26 M23 hx24 hok25 hr27 h => ?_
      replace h := h hx24 hok25 hr27
      replace hO1 := hO1.up hx24
      refine r_if_le x_331_68 (t := 73) (by decide +kernel) hr27 (fun hc => ?_) (fun hc => ?_)
      · replace h := h.2 hc
        refine r_aload_n x_331_73 rfl ?_
        refine r_iload_n x_331_74 rfl ?_
        refine r_invV x_331_75 (z := 235) (ns := 0) (by decide +kernel) (as := [g_n v2]) (r := []) rfl rfl rfl hO1 rfl rfl ?_
        refine r_callI h fun r31 M28 hx29 hok30 hr32 h => ?_
        replace h := h hx29 hok30 hr32
        replace hO1 := hO1.up hx29
        refine r_istore_n x_331_78 (by decide +kernel) rfl (lv1 := [(0, .ref a0), (1, g_n v1), (2, g_n r31)]) rfl ?_
        refine r_goto x_331_79 (t := 33) (by decide +kernel) ?_
        exact h
      · replace h := h.1 hc
        refine r_iconst x_331_71 ?_
        exact r_retI x_331_72 rfl (g_Rk rfl) h
    · replace h := h.1 hc
      refine r_iconst x_331_61 ?_
      exact r_retI x_331_62 rfl (g_Rk rfl) h
theorem m_X12_isGathering {d : Nat} {M : g_M} {Q : Int → g_M → Prop} {a0 : Nat} {v1 : Int} (hv1 : g_InR v1) (h : g_ok M → g_O M a0 12 ∧ g_Call d 236 [.ref a0, g_n v1, .ref (4 * 113 + 1)] M (g_qI fun r5 M2 => g_ext M M2 → g_ok M2 → g_InR r5 → ((r5 = 0 → g_Call d 236 [.ref a0, g_n v1, .ref (4 * 114 + 1)] M2 (g_qI fun r10 M7 => g_ext M2 M7 → g_ok M7 → g_InR r10 → ((r10 = 0 → g_Call d 236 [.ref a0, g_n v1, .ref (4 * 115 + 1)] M7 (g_qI fun r15 M12 => g_ext M7 M12 → g_ok M12 → g_InR r15 → ((r15 = 0 → g_Call d 236 [.ref a0, g_n v1, .ref (4 * 116 + 1)] M12 (g_qI fun r20 M17 => g_ext M12 M17 → g_ok M17 → g_InR r20 → ((r20 = 0 → g_Call d 236 [.ref a0, g_n v1, .ref (4 * 117 + 1)] M17 (g_qI fun r25 M22 => g_ext M17 M22 → g_ok M22 → g_InR r25 → ((r25 = 0 → g_Run d 332 60 [(0, .ref a0), (1, g_n v1)] [g_n 0] M22 (g_qI Q)) ∧ (¬ r25 = 0 → g_Run d 332 60 [(0, .ref a0), (1, g_n v1)] [g_n 1] M22 (g_qI Q))))) ∧ (¬ r20 = 0 → g_Run d 332 60 [(0, .ref a0), (1, g_n v1)] [g_n 1] M17 (g_qI Q))))) ∧ (¬ r15 = 0 → g_Run d 332 60 [(0, .ref a0), (1, g_n v1)] [g_n 1] M12 (g_qI Q))))) ∧ (¬ r10 = 0 → g_Run d 332 60 [(0, .ref a0), (1, g_n v1)] [g_n 1] M7 (g_qI Q))))) ∧ (¬ r5 = 0 → g_Run d 332 60 [(0, .ref a0), (1, g_n v1)] [g_n 1] M2 (g_qI Q))))) : g_Call (d + 1) 332 [.ref a0, g_n v1] M (g_qI Q) := by
  refine g_Call.ok fun hok0 => ?_
  replace h := h hok0
  refine r_body rfl (lv := [(0, .ref a0), (1, g_n v1)]) rfl ?_
  refine g_Run.ok fun hok => ?_
  refine r_aload_n x_332_0 rfl ?_
  refine r_iload_n x_332_1 rfl ?_
  refine r_ldcw x_332_2 (v := .ref (4 * 113 + 1)) rfl ?_
  obtain ⟨hO1, h⟩ := h
  refine r_invV x_332_5 (z := 236) (ns := 0) (by decide +kernel) (as := [g_n v1, .ref (4 * 113 + 1)]) (r := []) rfl rfl rfl hO1 rfl rfl ?_
  refine r_callI h fun r5 M2 hx3 hok4 hr6 h => ?_
  replace h := h hx3 hok4 hr6
  replace hO1 := hO1.up hx3
  refine r_if_ne x_332_8 (t := 55) (by decide +kernel) hr6 (fun hc => ?_) (fun hc => ?_)
  · replace h := h.2 hc
    refine r_iconst x_332_55 ?_
    refine r_goto x_332_56 (t := 60) (by decide +kernel) ?_
    exact h
  · replace h := h.1 hc
    refine r_aload_n x_332_11 rfl ?_
    refine r_iload_n x_332_12 rfl ?_
    refine r_ldcw x_332_13 (v := .ref (4 * 114 + 1)) rfl ?_
    refine r_invV x_332_16 (z := 236) (ns := 0) (by decide +kernel) (as := [g_n v1, .ref (4 * 114 + 1)]) (r := []) rfl rfl rfl hO1 rfl rfl ?_
    refine r_callI h fun r10 M7 hx8 hok9 hr11 h => ?_
    replace h := h hx8 hok9 hr11
    replace hO1 := hO1.up hx8
    refine r_if_ne x_332_19 (t := 55) (by decide +kernel) hr11 (fun hc => ?_) (fun hc => ?_)
    · replace h := h.2 hc
      refine r_iconst x_332_55 ?_
      refine r_goto x_332_56 (t := 60) (by decide +kernel) ?_
      exact h
    · replace h := h.1 hc
      refine r_aload_n x_332_22 rfl ?_
      refine r_iload_n x_332_23 rfl ?_
      refine r_ldcw x_332_24 (v := .ref (4 * 115 + 1)) rfl ?_
      refine r_invV x_332_27 (z := 236) (ns := 0) (by decide +kernel) (as := [g_n v1, .ref (4 * 115 + 1)]) (r := []) rfl rfl rfl hO1 rfl rfl ?_
      refine r_callI h fun r15 M12 hx13 hok14 hr16 h => ?_
      replace h := h hx13 hok14 hr16
      replace hO1 := hO1.up hx13
      refine r_if_ne x_332_30 (t := 55) (by decide +kernel) hr16 (fun hc => ?_) (fun hc => ?_)
      · replace h := h.2 hc
        refine r_iconst x_332_55 ?_
        refine r_goto x_332_56 (t := 60) (by decide +kernel) ?_
        exact h
      · replace h := h.1 hc
        refine r_aload_n x_332_33 rfl ?_
        refine r_iload_n x_332_34 rfl ?_
        refine r_ldcw x_332_35 (v := .ref (4 * 116 + 1)) rfl ?_
        refine r_invV x_332_38 (z := 236) (ns := 0) (by decide +kernel) (as := [g_n v1, .ref (4 * 116 + 1)]) (r := []) rfl rfl rfl hO1 rfl rfl ?_
        refine r_callI h fun r20 M17 hx18 hok19 hr21 h => ?_
        replace h := h hx18 hok19 hr21
        replace hO1 := hO1.up hx18
        refine r_if_ne x_332_41 (t := 55) (by decide +kernel) hr21 (fun hc => ?_) (fun hc => ?_)
        · replace h := h.2 hc
          refine r_iconst x_332_55 ?_
          refine r_goto x_332_56 (t := 60) (by decide +kernel) ?_
          exact h
        · replace h := h.1 hc
          refine r_aload_n x_332_44 rfl ?_
          refine r_iload_n x_332_45 rfl ?_
          refine r_ldcw x_332_46 (v := .ref (4 * 117 + 1)) rfl ?_
          refine r_invV x_332_49 (z := 236) (ns := 0) (by decide +kernel) (as := [g_n v1, .ref (4 * 117 + 1)]) (r := []) rfl rfl rfl hO1 rfl rfl ?_
          refine r_callI h fun r25 M22 hx23 hok24 hr26 h => ?_
          replace h := h hx23 hok24 hr26
          replace hO1 := hO1.up hx23
          refine r_if_eq x_332_52 (t := 59) (by decide +kernel) hr26 (fun hc => ?_) (fun hc => ?_)
          · replace h := h.1 hc
            refine r_iconst x_332_59 ?_
            exact h
          · replace h := h.2 hc
            refine r_iconst x_332_55 ?_
            refine r_goto x_332_56 (t := 60) (by decide +kernel) ?_
            exact h
theorem s_X12_isGathering_60 {d : Nat} {M : g_M} {Q : Int → g_M → Prop} {a0 : Nat} {v1 : Int} (hv1 : g_InR v1) {w0 : Int} (hw0 : g_InR w0) (h : g_ok M → ((w0 = 0 → g_O M a0 12 ∧ g_Call d 236 [.ref a0, g_n v1, .ref (4 * 118 + 1)] M (g_qI fun r5 M2 => g_ext M M2 → g_ok M2 → g_InR r5 → ((r5 = 0 → g_Call d 236 [.ref a0, g_n v1, .ref (4 * 119 + 1)] M2 (g_qI fun r10 M7 => g_ext M2 M7 → g_ok M7 → g_InR r10 → ((r10 = 0 → g_Call d 236 [.ref a0, g_n v1, .ref (4 * 120 + 1)] M7 (g_qI fun r15 M12 => g_ext M7 M12 → g_ok M12 → g_InR r15 → ((r15 = 0 → Q 0 M12) ∧ (¬ r15 = 0 → ∃ b17, g_r M12 a0 0 = some b17 ∧ ∃ n19, g_A M12 b17 0 n19 ∧ ((0 : Int) ≤ v1 ∧ (v1 : Int) < n19) ∧ ((g_i M12 b17 v1 = 10 → Q 1 M12) ∧ (¬ g_i M12 b17 v1 = 10 → Q 0 M12)))))) ∧ (¬ r10 = 0 → Q 1 M7)))) ∧ (¬ r5 = 0 → Q 1 M2)))) ∧ (¬ w0 = 0 → Q 1 M))) : g_Run d 332 60 [(0, .ref a0), (1, g_n v1)] [g_n w0] M (g_qI Q) := by
  refine g_Run.ok fun hok => ?_
  replace h := h hok
  refine r_istore_n x_332_60 (by decide +kernel) rfl (lv1 := [(0, .ref a0), (1, g_n v1), (2, g_n w0)]) rfl ?_
  refine r_iload_n x_332_61 rfl ?_
  refine r_if_ne x_332_62 (t := 109) (by decide +kernel) hw0 (fun hc => ?_) (fun hc => ?_)
  · replace h := h.2 hc
    refine r_iconst x_332_109 ?_
    refine r_goto x_332_110 (t := 114) (by decide +kernel) ?_
    exact r_retZ x_332_114 rfl (Or.inr rfl) h
  · replace h := h.1 hc
    refine r_aload_n x_332_65 rfl ?_
    refine r_iload_n x_332_66 rfl ?_
    refine r_ldcw x_332_67 (v := .ref (4 * 118 + 1)) rfl ?_
    obtain ⟨hO1, h⟩ := h
    refine r_invV x_332_70 (z := 236) (ns := 0) (by decide +kernel) (as := [g_n v1, .ref (4 * 118 + 1)]) (r := []) rfl rfl rfl hO1 rfl rfl ?_
    refine r_callI h fun r5 M2 hx3 hok4 hr6 h => ?_
    replace h := h hx3 hok4 hr6
    replace hO1 := hO1.up hx3
    refine r_if_ne x_332_73 (t := 109) (by decide +kernel) hr6 (fun hc => ?_) (fun hc => ?_)
    · replace h := h.2 hc
      refine r_iconst x_332_109 ?_
      refine r_goto x_332_110 (t := 114) (by decide +kernel) ?_
      exact r_retZ x_332_114 rfl (Or.inr rfl) h
    · replace h := h.1 hc
      refine r_aload_n x_332_76 rfl ?_
      refine r_iload_n x_332_77 rfl ?_
      refine r_ldcw x_332_78 (v := .ref (4 * 119 + 1)) rfl ?_
      refine r_invV x_332_81 (z := 236) (ns := 0) (by decide +kernel) (as := [g_n v1, .ref (4 * 119 + 1)]) (r := []) rfl rfl rfl hO1 rfl rfl ?_
      refine r_callI h fun r10 M7 hx8 hok9 hr11 h => ?_
      replace h := h hx8 hok9 hr11
      replace hO1 := hO1.up hx8
      refine r_if_ne x_332_84 (t := 109) (by decide +kernel) hr11 (fun hc => ?_) (fun hc => ?_)
      · replace h := h.2 hc
        refine r_iconst x_332_109 ?_
        refine r_goto x_332_110 (t := 114) (by decide +kernel) ?_
        exact r_retZ x_332_114 rfl (Or.inr rfl) h
      · replace h := h.1 hc
        refine r_aload_n x_332_87 rfl ?_
        refine r_iload_n x_332_88 rfl ?_
        refine r_ldcw x_332_89 (v := .ref (4 * 120 + 1)) rfl ?_
        refine r_invV x_332_92 (z := 236) (ns := 0) (by decide +kernel) (as := [g_n v1, .ref (4 * 120 + 1)]) (r := []) rfl rfl rfl hO1 rfl rfl ?_
        refine r_callI h fun r15 M12 hx13 hok14 hr16 h => ?_
        replace h := h hx13 hok14 hr16
        replace hO1 := hO1.up hx13
        refine r_if_eq x_332_95 (t := 113) (by decide +kernel) hr16 (fun hc => ?_) (fun hc => ?_)
        · replace h := h.1 hc
          refine r_iconst x_332_113 ?_
          exact r_retZ x_332_114 rfl (Or.inl rfl) h
        · replace h := h.2 hc
          refine r_aload_n x_332_98 rfl ?_
          obtain ⟨b17, hb18, h⟩ := h
          refine r_getR x_332_99 rfl (ci := 12) (k := 0) (ns := 0) (by decide +kernel) (by decide) rfl (kz := 0) rfl hO1 hb18 ?_
          refine r_iload_n x_332_102 rfl ?_
          obtain ⟨n19, hA20, h⟩ := h
          obtain ⟨h21, h⟩ := h
          refine r_bald x_332_103 (Or.inl rfl) hA20 hv1 h21.1 h21.2 ?_
          refine r_bipush x_332_104 (x := 10) rfl ?_
          refine r_ic_ne x_332_106 (t := 113) (by decide +kernel) (hok14.1 _ _) (g_Rk rfl) (fun hc => ?_) (fun hc => ?_)
          · replace h := h.2 hc
            refine r_iconst x_332_113 ?_
            exact r_retZ x_332_114 rfl (Or.inl rfl) h
          · replace h := h.1 hc
            refine r_iconst x_332_109 ?_
            refine r_goto x_332_110 (t := 114) (by decide +kernel) ?_
            exact r_retZ x_332_114 rfl (Or.inr rfl) h
theorem m_X12_groupFault {d : Nat} {M : g_M} {Q : Int → g_M → Prop} {a0 : Nat} {v1 : Int} (hv1 : g_InR v1) (h : g_ok M → g_O M a0 12 ∧ ∃ b2, g_r M a0 0 = some b2 ∧ ∃ n4, g_A M b2 0 n4 ∧ ((0 : Int) ≤ v1 ∧ (v1 : Int) < n4) ∧ ((g_i M b2 v1 = 3 → g_Call d 233 [.ref a0, g_n v1] M (g_qI fun r10 M7 => g_ext M M7 → g_ok M7 → g_InR r10 → g_Call d 239 [.ref a0, g_n r10] M7 (g_qI fun r15 M12 => g_ext M7 M12 → g_ok M12 → g_InR r15 → ((r15 = 0 → Q 2 M12) ∧ (¬ r15 = 0 → g_Call d 233 [.ref a0, g_n v1] M12 (g_qI fun r20 M17 => g_ext M12 M17 → g_ok M17 → g_InR r20 → g_Call d 237 [g_n r20] M17 (g_qI fun r25 M22 => g_ext M17 M22 → g_ok M22 → g_InR r25 → g_Call d 236 [.ref a0, g_n r25, .ref (4 * 112 + 1)] M22 (g_qI fun r30 M27 => g_ext M22 M27 → g_ok M27 → g_InR r30 → ((r30 = 0 → Q 2 M27) ∧ (¬ r30 = 0 → g_Call d 233 [.ref a0, g_n v1] M27 (g_qI fun r35 M32 => g_ext M27 M32 → g_ok M32 → g_InR r35 → g_Call d 237 [g_n r35] M32 (g_qI fun r40 M37 => g_ext M32 M37 → g_ok M37 → g_InR r40 → g_Run d 333 51 [(0, .ref a0), (1, g_n v1), (2, g_n r40)] [] M37 (g_qI Q))))))))))))) ∧ (¬ g_i M b2 v1 = 3 → Q 2 M))) : g_Call (d + 1) 333 [.ref a0, g_n v1] M (g_qI Q) := by
  refine g_Call.ok fun hok0 => ?_
  replace h := h hok0
  refine r_body rfl (lv := [(0, .ref a0), (1, g_n v1)]) rfl ?_
  refine g_Run.ok fun hok => ?_
  refine r_aload_n x_333_0 rfl ?_
  obtain ⟨hO1, h⟩ := h
  obtain ⟨b2, hb3, h⟩ := h
  refine r_getR x_333_1 rfl (ci := 12) (k := 0) (ns := 0) (by decide +kernel) (by decide) rfl (kz := 0) rfl hO1 hb3 ?_
  refine r_iload_n x_333_4 rfl ?_
  obtain ⟨n4, hA5, h⟩ := h
  obtain ⟨h6, h⟩ := h
  refine r_bald x_333_5 (Or.inl rfl) hA5 hv1 h6.1 h6.2 ?_
  refine r_iconst x_333_6 ?_
  refine r_ic_ne x_333_7 (t := 40) (by decide +kernel) (hok.1 _ _) (g_Rk rfl) (fun hc => ?_) (fun hc => ?_)
  · replace h := h.2 hc
    refine r_iconst x_333_40 ?_
    exact r_retI x_333_41 rfl (g_Rk rfl) h
  · replace h := h.1 hc
    refine r_aload_n x_333_10 rfl ?_
    refine r_aload_n x_333_11 rfl ?_
    refine r_iload_n x_333_12 rfl ?_
    refine r_invV x_333_13 (z := 233) (ns := 0) (by decide +kernel) (as := [g_n v1]) (r := [.ref a0]) rfl rfl rfl hO1 rfl rfl ?_
    refine r_callI h fun r10 M7 hx8 hok9 hr11 h => ?_
    replace h := h hx8 hok9 hr11
    replace hO1 := hO1.up hx8
    replace hA5 := hA5.up hx8
    refine r_invV x_333_16 (z := 239) (ns := 0) (by decide +kernel) (as := [g_n r10]) (r := []) rfl rfl rfl hO1 rfl rfl ?_
    refine r_callI h fun r15 M12 hx13 hok14 hr16 h => ?_
    replace h := h hx13 hok14 hr16
    replace hO1 := hO1.up hx13
    replace hA5 := hA5.up hx13
    refine r_if_eq x_333_19 (t := 40) (by decide +kernel) hr16 (fun hc => ?_) (fun hc => ?_)
    · replace h := h.1 hc
      refine r_iconst x_333_40 ?_
      exact r_retI x_333_41 rfl (g_Rk rfl) h
    · replace h := h.2 hc
      refine r_aload_n x_333_22 rfl ?_
      refine r_aload_n x_333_23 rfl ?_
      refine r_iload_n x_333_24 rfl ?_
      refine r_invV x_333_25 (z := 233) (ns := 0) (by decide +kernel) (as := [g_n v1]) (r := [.ref a0]) rfl rfl rfl hO1 rfl rfl ?_
      refine r_callI h fun r20 M17 hx18 hok19 hr21 h => ?_
      replace h := h hx18 hok19 hr21
      replace hO1 := hO1.up hx18
      replace hA5 := hA5.up hx18
      refine r_invS x_333_28 (z := 237) (ns := 0) (by decide +kernel) (as := [g_n r20]) (r := [.ref a0]) rfl rfl rfl ?_
      refine r_callI h fun r25 M22 hx23 hok24 hr26 h => ?_
      replace h := h hx23 hok24 hr26
      replace hO1 := hO1.up hx23
      replace hA5 := hA5.up hx23
      refine r_ldcw x_333_31 (v := .ref (4 * 112 + 1)) rfl ?_
      refine r_invV x_333_34 (z := 236) (ns := 0) (by decide +kernel) (as := [g_n r25, .ref (4 * 112 + 1)]) (r := []) rfl rfl rfl hO1 rfl rfl ?_
      refine r_callI h fun r30 M27 hx28 hok29 hr31 h => ?_
      replace h := h hx28 hok29 hr31
      replace hO1 := hO1.up hx28
      replace hA5 := hA5.up hx28
      refine r_if_ne x_333_37 (t := 42) (by decide +kernel) hr31 (fun hc => ?_) (fun hc => ?_)
      · replace h := h.2 hc
        refine r_aload_n x_333_42 rfl ?_
        refine r_iload_n x_333_43 rfl ?_
        refine r_invV x_333_44 (z := 233) (ns := 0) (by decide +kernel) (as := [g_n v1]) (r := []) rfl rfl rfl hO1 rfl rfl ?_
        refine r_callI h fun r35 M32 hx33 hok34 hr36 h => ?_
        replace h := h hx33 hok34 hr36
        replace hO1 := hO1.up hx33
        replace hA5 := hA5.up hx33
        refine r_invS x_333_47 (z := 237) (ns := 0) (by decide +kernel) (as := [g_n r35]) (r := []) rfl rfl rfl ?_
        refine r_callI h fun r40 M37 hx38 hok39 hr41 h => ?_
        replace h := h hx38 hok39 hr41
        replace hO1 := hO1.up hx38
        replace hA5 := hA5.up hx38
        refine r_istore_n x_333_50 (by decide +kernel) rfl (lv1 := [(0, .ref a0), (1, g_n v1), (2, g_n r40)]) rfl ?_
        exact h
      · replace h := h.1 hc
        refine r_iconst x_333_40 ?_
        exact r_retI x_333_41 rfl (g_Rk rfl) h
theorem s_X12_groupFault_51 {d : Nat} {M : g_M} {Q : Int → g_M → Prop} {a0 : Nat} {v1 : Int} (hv1 : g_InR v1) {v2 : Int} (hv2 : g_InR v2) (h : g_ok M → g_O M a0 12 ∧ g_Call d 233 [.ref a0, g_n v1] M (g_qI fun r5 M2 => g_ext M M2 → g_ok M2 → g_InR r5 → g_Call d 238 [.ref a0, g_n r5] M2 (g_qI fun r10 M7 => g_ext M2 M7 → g_ok M7 → g_InR r10 → ((v2 < r10 → g_Call d 233 [.ref a0, g_n v1] M7 (g_qI fun r15 M12 => g_ext M7 M12 → g_ok M12 → g_InR r15 → g_Call d 237 [g_n r15] M12 (g_qI fun r20 M17 => g_ext M12 M17 → g_ok M17 → g_InR r20 → ((r20 < v2 → g_InR (v2 + 1) ∧ g_Call d 232 [.ref a0, g_n v2] M17 (g_qI fun r26 M23 => g_ext M17 M23 → g_ok M23 → g_InR r26 → g_Call d 321 [.ref a0, g_n (v2 + 1), g_n r26] M23 (g_qI fun r31 M28 => g_ext M23 M28 → g_ok M28 → g_InR r31 → ((r31 = 0 → Q 2 M28) ∧ (¬ r31 = 0 → ∃ b33, g_r M28 a0 0 = some b33 ∧ ∃ n35, g_A M28 b33 0 n35 ∧ ((0 : Int) ≤ v2 ∧ (v2 : Int) < n35) ∧ ((g_i M28 b33 v2 = 3 → g_Call d 233 [.ref a0, g_n v2] M28 (g_qI fun r41 M38 => g_ext M28 M38 → g_ok M38 → g_InR r41 → g_Call d 239 [.ref a0, g_n r41] M38 (g_qI fun r46 M43 => g_ext M38 M43 → g_ok M43 → g_InR r46 → ((r46 = 1 → g_Call d 233 [.ref a0, g_n v2] M43 (g_qI fun r51 M48 => g_ext M43 M48 → g_ok M48 → g_InR r51 → g_Call d 237 [g_n r51] M48 (g_qI fun r56 M53 => g_ext M48 M53 → g_ok M53 → g_InR r56 → g_Call d 332 [.ref a0, g_n r56] M53 (g_qI fun r61 M58 => g_ext M53 M58 → g_ok M58 → g_InR r61 → ((r61 = 0 → Q 2 M58) ∧ (¬ r61 = 0 → g_Run d 333 137 [(0, .ref a0), (1, g_n v1), (2, g_n v2), (3, g_n r56)] [] M58 (g_qI Q))))))) ∧ (¬ r46 = 1 → Q 2 M43))))) ∧ (¬ g_i M28 b33 v2 = 3 → Q 2 M28))))))) ∧ (¬ r20 < v2 → g_Run d 333 137 [(0, .ref a0), (1, g_n v1), (2, g_n v2), (3, g_n v2)] [] M17 (g_qI Q)))))) ∧ (¬ v2 < r10 → Q 0 M7))))) : g_Run d 333 51 [(0, .ref a0), (1, g_n v1), (2, g_n v2)] [] M (g_qI Q) := by
  refine g_Run.ok fun hok => ?_
  replace h := h hok
  refine r_iload_n x_333_51 rfl ?_
  refine r_aload_n x_333_52 rfl ?_
  refine r_aload_n x_333_53 rfl ?_
  refine r_iload_n x_333_54 rfl ?_
  obtain ⟨hO1, h⟩ := h
  refine r_invV x_333_55 (z := 233) (ns := 0) (by decide +kernel) (as := [g_n v1]) (r := [.ref a0, g_n v2]) rfl rfl rfl hO1 rfl rfl ?_
  refine r_callI h fun r5 M2 hx3 hok4 hr6 h => ?_
  replace h := h hx3 hok4 hr6
  replace hO1 := hO1.up hx3
  refine r_invV x_333_58 (z := 238) (ns := 0) (by decide +kernel) (as := [g_n r5]) (r := [g_n v2]) rfl rfl rfl hO1 rfl rfl ?_
  refine r_callI h fun r10 M7 hx8 hok9 hr11 h => ?_
  replace h := h hx8 hok9 hr11
  replace hO1 := hO1.up hx8
  refine r_ic_ge x_333_61 (t := 156) (by decide +kernel) hv2 hr11 (fun hc => ?_) (fun hc => ?_)
  · replace h := h.2 hc
    refine r_iconst x_333_156 ?_
    exact r_retI x_333_157 rfl (g_Rk rfl) h
  · replace h := h.1 hc
    refine r_iload_n x_333_64 rfl ?_
    refine r_istore_n x_333_65 (by decide +kernel) rfl (lv1 := [(0, .ref a0), (1, g_n v1), (2, g_n v2), (3, g_n v2)]) rfl ?_
    refine r_iload_n x_333_66 rfl ?_
    refine r_aload_n x_333_67 rfl ?_
    refine r_iload_n x_333_68 rfl ?_
    refine r_invV x_333_69 (z := 233) (ns := 0) (by decide +kernel) (as := [g_n v1]) (r := [g_n v2]) rfl rfl rfl hO1 rfl rfl ?_
    refine r_callI h fun r15 M12 hx13 hok14 hr16 h => ?_
    replace h := h hx13 hok14 hr16
    replace hO1 := hO1.up hx13
    refine r_invS x_333_72 (z := 237) (ns := 0) (by decide +kernel) (as := [g_n r15]) (r := [g_n v2]) rfl rfl rfl ?_
    refine r_callI h fun r20 M17 hx18 hok19 hr21 h => ?_
    replace h := h hx18 hok19 hr21
    replace hO1 := hO1.up hx18
    refine r_ic_le x_333_75 (t := 137) (by decide +kernel) hv2 hr21 (fun hc => ?_) (fun hc => ?_)
    · replace h := h.2 hc
      exact h
    · replace h := h.1 hc
      refine r_aload_n x_333_78 rfl ?_
      refine r_iload_n x_333_79 rfl ?_
      refine r_iconst x_333_80 ?_
      refine r_iadd x_333_81 ?_
      obtain ⟨h22, h⟩ := h
      refine r_aload_n x_333_82 rfl ?_
      refine r_iload_n x_333_83 rfl ?_
      refine r_invV x_333_84 (z := 232) (ns := 0) (by decide +kernel) (as := [g_n v2]) (r := [g_n (v2 + 1), .ref a0]) rfl rfl rfl hO1 rfl rfl ?_
      refine r_callI h fun r26 M23 hx24 hok25 hr27 h => ?_
      replace h := h hx24 hok25 hr27
      replace hO1 := hO1.up hx24
      refine r_invV x_333_87 (z := 321) (ns := 0) (by decide +kernel) (as := [g_n (v2 + 1), g_n r26]) (r := []) rfl rfl rfl hO1 rfl rfl ?_
      refine r_callI h fun r31 M28 hx29 hok30 hr32 h => ?_
      replace h := h hx29 hok30 hr32
      replace hO1 := hO1.up hx29
      refine r_if_eq x_333_90 (t := 116) (by decide +kernel) hr32 (fun hc => ?_) (fun hc => ?_)
      · replace h := h.1 hc
        refine r_iconst x_333_116 ?_
        exact r_retI x_333_117 rfl (g_Rk rfl) h
      · replace h := h.2 hc
        refine r_aload_n x_333_93 rfl ?_
        obtain ⟨b33, hb34, h⟩ := h
        refine r_getR x_333_94 rfl (ci := 12) (k := 0) (ns := 0) (by decide +kernel) (by decide) rfl (kz := 0) rfl hO1 hb34 ?_
        refine r_iload_n x_333_97 rfl ?_
        obtain ⟨n35, hA36, h⟩ := h
        obtain ⟨h37, h⟩ := h
        refine r_bald x_333_98 (Or.inl rfl) hA36 hv2 h37.1 h37.2 ?_
        refine r_iconst x_333_99 ?_
        refine r_ic_ne x_333_100 (t := 116) (by decide +kernel) (hok30.1 _ _) (g_Rk rfl) (fun hc => ?_) (fun hc => ?_)
        · replace h := h.2 hc
          refine r_iconst x_333_116 ?_
          exact r_retI x_333_117 rfl (g_Rk rfl) h
        · replace h := h.1 hc
          refine r_aload_n x_333_103 rfl ?_
          refine r_aload_n x_333_104 rfl ?_
          refine r_iload_n x_333_105 rfl ?_
          refine r_invV x_333_106 (z := 233) (ns := 0) (by decide +kernel) (as := [g_n v2]) (r := [.ref a0]) rfl rfl rfl hO1 rfl rfl ?_
          refine r_callI h fun r41 M38 hx39 hok40 hr42 h => ?_
          replace h := h hx39 hok40 hr42
          replace hO1 := hO1.up hx39
          replace hA36 := hA36.up hx39
          refine r_invV x_333_109 (z := 239) (ns := 0) (by decide +kernel) (as := [g_n r41]) (r := []) rfl rfl rfl hO1 rfl rfl ?_
          refine r_callI h fun r46 M43 hx44 hok45 hr47 h => ?_
          replace h := h hx44 hok45 hr47
          replace hO1 := hO1.up hx44
          replace hA36 := hA36.up hx44
          refine r_iconst x_333_112 ?_
          refine r_ic_eq x_333_113 (t := 118) (by decide +kernel) hr47 (g_Rk rfl) (fun hc => ?_) (fun hc => ?_)
          · replace h := h.1 hc
            refine r_aload_n x_333_118 rfl ?_
            refine r_iload_n x_333_119 rfl ?_
            refine r_invV x_333_120 (z := 233) (ns := 0) (by decide +kernel) (as := [g_n v2]) (r := []) rfl rfl rfl hO1 rfl rfl ?_
            refine r_callI h fun r51 M48 hx49 hok50 hr52 h => ?_
            replace h := h hx49 hok50 hr52
            replace hO1 := hO1.up hx49
            replace hA36 := hA36.up hx49
            refine r_invS x_333_123 (z := 237) (ns := 0) (by decide +kernel) (as := [g_n r51]) (r := []) rfl rfl rfl ?_
            refine r_callI h fun r56 M53 hx54 hok55 hr57 h => ?_
            replace h := h hx54 hok55 hr57
            replace hO1 := hO1.up hx54
            replace hA36 := hA36.up hx54
            refine r_istore_n x_333_126 (by decide +kernel) rfl (lv1 := [(0, .ref a0), (1, g_n v1), (2, g_n v2), (3, g_n r56)]) rfl ?_
            refine r_aload_n x_333_127 rfl ?_
            refine r_iload_n x_333_128 rfl ?_
            refine r_invV x_333_129 (z := 332) (ns := 0) (by decide +kernel) (as := [g_n r56]) (r := []) rfl rfl rfl hO1 rfl rfl ?_
            refine r_callI h fun r61 M58 hx59 hok60 hr62 h => ?_
            replace h := h hx59 hok60 hr62
            replace hO1 := hO1.up hx59
            replace hA36 := hA36.up hx59
            refine r_if_ne x_333_132 (t := 137) (by decide +kernel) hr62 (fun hc => ?_) (fun hc => ?_)
            · replace h := h.2 hc
              exact h
            · replace h := h.1 hc
              refine r_iconst x_333_135 ?_
              exact r_retI x_333_136 rfl (g_Rk rfl) h
          · replace h := h.2 hc
            refine r_iconst x_333_116 ?_
            exact r_retI x_333_117 rfl (g_Rk rfl) h
theorem s_X12_groupFault_137 {d : Nat} {M : g_M} {Q : Int → g_M → Prop} {a0 : Nat} {v1 : Int} (hv1 : g_InR v1) {v2 : Int} (hv2 : g_InR v2) {v3 : Int} (hv3 : g_InR v3) (h : g_ok M → g_O M a0 12 ∧ g_Call d 324 [.ref a0, g_n v3] M (g_qI fun r5 M2 => g_ext M M2 → g_ok M2 → g_InR r5 → ((0 < r5 → Q 3 M2) ∧ (¬ 0 < r5 → g_Call d 235 [.ref a0, g_n v2] M2 (g_qI fun r10 M7 => g_ext M2 M7 → g_ok M7 → g_InR r10 → g_Run d 333 51 [(0, .ref a0), (1, g_n v1), (2, g_n r10)] [] M7 (g_qI Q)))))) : g_Run d 333 137 [(0, .ref a0), (1, g_n v1), (2, g_n v2), (3, g_n v3)] [] M (g_qI Q) := by
  refine g_Run.ok fun hok => ?_
  replace h := h hok
  refine r_aload_n x_333_137 rfl ?_
  refine r_iload_n x_333_138 rfl ?_
  obtain ⟨hO1, h⟩ := h
  refine r_invV x_333_139 (z := 324) (ns := 0) (by decide +kernel) (as := [g_n v3]) (r := []) rfl rfl rfl hO1 rfl rfl ?_
  refine r_callI h fun r5 M2 hx3 hok4 hr6 h => ?_
  replace h := h hx3 hok4 hr6
  replace hO1 := hO1.up hx3
  refine r_if_le x_333_142 (t := 147) (by decide +kernel) hr6 (fun hc => ?_) (fun hc => ?_)
  · replace h := h.2 hc
    refine r_aload_n x_333_147 rfl ?_
    refine r_iload_n x_333_148 rfl ?_
    refine r_invV x_333_149 (z := 235) (ns := 0) (by decide +kernel) (as := [g_n v2]) (r := []) rfl rfl rfl hO1 rfl rfl ?_
    refine r_callI h fun r10 M7 hx8 hok9 hr11 h => ?_
    replace h := h hx8 hok9 hr11
    replace hO1 := hO1.up hx8
    refine r_istore_n x_333_152 (by decide +kernel) rfl (lv1 := [(0, .ref a0), (1, g_n v1), (2, g_n r10), (3, g_n v3)]) rfl ?_
    refine r_goto x_333_153 (t := 51) (by decide +kernel) ?_
    refine g_drop [0, 1, 2] (lv1 := [(0, .ref a0), (1, g_n v1), (2, g_n r10)]) rfl ?_
    exact h
  · replace h := h.1 hc
    refine r_iconst x_333_145 ?_
    exact r_retI x_333_146 rfl (g_Rk rfl) h
theorem m_X12_sortFault {d : Nat} {M : g_M} {Q : Int → g_M → Prop} {a0 : Nat} {v1 : Int} (hv1 : g_InR v1) (h : g_ok M → g_O M a0 12 ∧ ∃ b2, g_r M a0 0 = some b2 ∧ ∃ n4, g_A M b2 0 n4 ∧ ((0 : Int) ≤ v1 ∧ (v1 : Int) < n4) ∧ ((g_i M b2 v1 = 3 → g_Call d 233 [.ref a0, g_n v1] M (g_qI fun r10 M7 => g_ext M M7 → g_ok M7 → g_InR r10 → g_Call d 239 [.ref a0, g_n r10] M7 (g_qI fun r15 M12 => g_ext M7 M12 → g_ok M12 → g_InR r15 → ((r15 < 1 → Q 2 M12) ∧ (¬ r15 < 1 → g_Call d 233 [.ref a0, g_n v1] M12 (g_qI fun r20 M17 => g_ext M12 M17 → g_ok M17 → g_InR r20 → g_Call d 239 [.ref a0, g_n r20] M17 (g_qI fun r25 M22 => g_ext M17 M22 → g_ok M22 → g_InR r25 → ((4 < r25 → Q 2 M22) ∧ (¬ 4 < r25 → g_Call d 233 [.ref a0, g_n v1] M22 (g_qI fun r30 M27 => g_ext M22 M27 → g_ok M27 → g_InR r30 → g_Call d 237 [g_n r30] M27 (g_qI fun r35 M32 => g_ext M27 M32 → g_ok M32 → g_InR r35 → g_Run d 334 47 [(0, .ref a0), (1, g_n v1), (2, g_n r35)] [] M32 (g_qI Q)))))))))))) ∧ (¬ g_i M b2 v1 = 3 → Q 2 M))) : g_Call (d + 1) 334 [.ref a0, g_n v1] M (g_qI Q) := by
  refine g_Call.ok fun hok0 => ?_
  replace h := h hok0
  refine r_body rfl (lv := [(0, .ref a0), (1, g_n v1)]) rfl ?_
  refine g_Run.ok fun hok => ?_
  refine r_aload_n x_334_0 rfl ?_
  obtain ⟨hO1, h⟩ := h
  obtain ⟨b2, hb3, h⟩ := h
  refine r_getR x_334_1 rfl (ci := 12) (k := 0) (ns := 0) (by decide +kernel) (by decide) rfl (kz := 0) rfl hO1 hb3 ?_
  refine r_iload_n x_334_4 rfl ?_
  obtain ⟨n4, hA5, h⟩ := h
  obtain ⟨h6, h⟩ := h
  refine r_bald x_334_5 (Or.inl rfl) hA5 hv1 h6.1 h6.2 ?_
  refine r_iconst x_334_6 ?_
  refine r_ic_ne x_334_7 (t := 36) (by decide +kernel) (hok.1 _ _) (g_Rk rfl) (fun hc => ?_) (fun hc => ?_)
  · replace h := h.2 hc
    refine r_iconst x_334_36 ?_
    exact r_retI x_334_37 rfl (g_Rk rfl) h
  · replace h := h.1 hc
    refine r_aload_n x_334_10 rfl ?_
    refine r_aload_n x_334_11 rfl ?_
    refine r_iload_n x_334_12 rfl ?_
    refine r_invV x_334_13 (z := 233) (ns := 0) (by decide +kernel) (as := [g_n v1]) (r := [.ref a0]) rfl rfl rfl hO1 rfl rfl ?_
    refine r_callI h fun r10 M7 hx8 hok9 hr11 h => ?_
    replace h := h hx8 hok9 hr11
    replace hO1 := hO1.up hx8
    replace hA5 := hA5.up hx8
    refine r_invV x_334_16 (z := 239) (ns := 0) (by decide +kernel) (as := [g_n r10]) (r := []) rfl rfl rfl hO1 rfl rfl ?_
    refine r_callI h fun r15 M12 hx13 hok14 hr16 h => ?_
    replace h := h hx13 hok14 hr16
    replace hO1 := hO1.up hx13
    replace hA5 := hA5.up hx13
    refine r_iconst x_334_19 ?_
    refine r_ic_lt x_334_20 (t := 36) (by decide +kernel) hr16 (g_Rk rfl) (fun hc => ?_) (fun hc => ?_)
    · replace h := h.1 hc
      refine r_iconst x_334_36 ?_
      exact r_retI x_334_37 rfl (g_Rk rfl) h
    · replace h := h.2 hc
      refine r_aload_n x_334_23 rfl ?_
      refine r_aload_n x_334_24 rfl ?_
      refine r_iload_n x_334_25 rfl ?_
      refine r_invV x_334_26 (z := 233) (ns := 0) (by decide +kernel) (as := [g_n v1]) (r := [.ref a0]) rfl rfl rfl hO1 rfl rfl ?_
      refine r_callI h fun r20 M17 hx18 hok19 hr21 h => ?_
      replace h := h hx18 hok19 hr21
      replace hO1 := hO1.up hx18
      replace hA5 := hA5.up hx18
      refine r_invV x_334_29 (z := 239) (ns := 0) (by decide +kernel) (as := [g_n r20]) (r := []) rfl rfl rfl hO1 rfl rfl ?_
      refine r_callI h fun r25 M22 hx23 hok24 hr26 h => ?_
      replace h := h hx23 hok24 hr26
      replace hO1 := hO1.up hx23
      replace hA5 := hA5.up hx23
      refine r_iconst x_334_32 ?_
      refine r_ic_le x_334_33 (t := 38) (by decide +kernel) hr26 (g_Rk rfl) (fun hc => ?_) (fun hc => ?_)
      · replace h := h.2 hc
        refine r_aload_n x_334_38 rfl ?_
        refine r_iload_n x_334_39 rfl ?_
        refine r_invV x_334_40 (z := 233) (ns := 0) (by decide +kernel) (as := [g_n v1]) (r := []) rfl rfl rfl hO1 rfl rfl ?_
        refine r_callI h fun r30 M27 hx28 hok29 hr31 h => ?_
        replace h := h hx28 hok29 hr31
        replace hO1 := hO1.up hx28
        replace hA5 := hA5.up hx28
        refine r_invS x_334_43 (z := 237) (ns := 0) (by decide +kernel) (as := [g_n r30]) (r := []) rfl rfl rfl ?_
        refine r_callI h fun r35 M32 hx33 hok34 hr36 h => ?_
        replace h := h hx33 hok34 hr36
        replace hO1 := hO1.up hx33
        replace hA5 := hA5.up hx33
        refine r_istore_n x_334_46 (by decide +kernel) rfl (lv1 := [(0, .ref a0), (1, g_n v1), (2, g_n r35)]) rfl ?_
        exact h
      · replace h := h.1 hc
        refine r_iconst x_334_36 ?_
        exact r_retI x_334_37 rfl (g_Rk rfl) h
theorem s_X12_sortFault_47 {d : Nat} {M : g_M} {Q : Int → g_M → Prop} {a0 : Nat} {v1 : Int} (hv1 : g_InR v1) {v2 : Int} (hv2 : g_InR v2) (h : g_ok M → g_O M a0 12 ∧ g_Call d 233 [.ref a0, g_n v1] M (g_qI fun r5 M2 => g_ext M M2 → g_ok M2 → g_InR r5 → g_Call d 238 [.ref a0, g_n r5] M2 (g_qI fun r10 M7 => g_ext M2 M7 → g_ok M7 → g_InR r10 → ((v2 < r10 → g_Call d 242 [.ref a0, g_n v2] M7 (g_qI fun r15 M12 => g_ext M7 M12 → g_ok M12 → g_InR r15 → ((r15 = 0 → Q 2 M12) ∧ (¬ r15 = 0 → g_Call d 243 [.ref a0, g_n v2] M12 (g_qL fun R20 M17 => g_ext M12 M17 → g_ok M17 → ((g_lc R20 1 = 0 → g_Run d 334 92 [(0, .ref a0), (1, g_n v1), (2, g_n v2)] [] M17 (g_qI Q)) ∧ (¬ g_lc R20 1 = 0 → g_Call d 243 [.ref a0, g_n v2] M17 (g_qL fun R24 M21 => g_ext M17 M21 → g_ok M21 → ((g_lc R24 ((-1)) = 0 → g_Run d 334 92 [(0, .ref a0), (1, g_n v1), (2, g_n v2)] [] M21 (g_qI Q)) ∧ (¬ g_lc R24 ((-1)) = 0 → Q 2 M21)))))))))) ∧ (¬ v2 < r10 → Q 0 M7))))) : g_Run d 334 47 [(0, .ref a0), (1, g_n v1), (2, g_n v2)] [] M (g_qI Q) := by
  refine g_Run.ok fun hok => ?_
  replace h := h hok
  refine r_iload_n x_334_47 rfl ?_
  refine r_aload_n x_334_48 rfl ?_
  refine r_aload_n x_334_49 rfl ?_
  refine r_iload_n x_334_50 rfl ?_
  obtain ⟨hO1, h⟩ := h
  refine r_invV x_334_51 (z := 233) (ns := 0) (by decide +kernel) (as := [g_n v1]) (r := [.ref a0, g_n v2]) rfl rfl rfl hO1 rfl rfl ?_
  refine r_callI h fun r5 M2 hx3 hok4 hr6 h => ?_
  replace h := h hx3 hok4 hr6
  replace hO1 := hO1.up hx3
  refine r_invV x_334_54 (z := 238) (ns := 0) (by decide +kernel) (as := [g_n r5]) (r := [g_n v2]) rfl rfl rfl hO1 rfl rfl ?_
  refine r_callI h fun r10 M7 hx8 hok9 hr11 h => ?_
  replace h := h hx8 hok9 hr11
  replace hO1 := hO1.up hx8
  refine r_ic_ge x_334_57 (t := 118) (by decide +kernel) hv2 hr11 (fun hc => ?_) (fun hc => ?_)
  · replace h := h.2 hc
    refine r_iconst x_334_118 ?_
    exact r_retI x_334_119 rfl (g_Rk rfl) h
  · replace h := h.1 hc
    refine r_aload_n x_334_60 rfl ?_
    refine r_iload_n x_334_61 rfl ?_
    refine r_invV x_334_62 (z := 242) (ns := 0) (by decide +kernel) (as := [g_n v2]) (r := []) rfl rfl rfl hO1 rfl rfl ?_
    refine r_callI h fun r15 M12 hx13 hok14 hr16 h => ?_
    replace h := h hx13 hok14 hr16
    replace hO1 := hO1.up hx13
    refine r_if_eq x_334_65 (t := 90) (by decide +kernel) hr16 (fun hc => ?_) (fun hc => ?_)
    · replace h := h.1 hc
      refine r_iconst x_334_90 ?_
      exact r_retI x_334_91 rfl (g_Rk rfl) h
    · replace h := h.2 hc
      refine r_aload_n x_334_68 rfl ?_
      refine r_iload_n x_334_69 rfl ?_
      refine r_invV x_334_70 (z := 243) (ns := 0) (by decide +kernel) (as := [g_n v2]) (r := []) rfl rfl rfl hO1 rfl rfl ?_
      refine r_callL h fun R20 M17 hx18 hok19 h => ?_
      replace h := h hx18 hok19
      replace hO1 := hO1.up hx18
      refine r_lconst x_334_73 ?_
      show g_Run d 334 74 [(0, .ref a0), (1, g_n v1), (2, g_n v2)] [.long 1, .long R20] M17 _
      refine r_lcmp x_334_74 ?_
      refine r_if_eq x_334_75 (t := 92) (by decide +kernel) (g_InR_toInt _) (fun hc => ?_) (fun hc => ?_)
      · replace h := h.1 hc
        exact h
      · replace h := h.2 hc
        refine r_aload_n x_334_78 rfl ?_
        refine r_iload_n x_334_79 rfl ?_
        refine r_invV x_334_80 (z := 243) (ns := 0) (by decide +kernel) (as := [g_n v2]) (r := []) rfl rfl rfl hO1 rfl rfl ?_
        refine r_callL h fun R24 M21 hx22 hok23 h => ?_
        replace h := h hx22 hok23
        replace hO1 := hO1.up hx22
        refine r_ldc2 x_334_83 (X := (-1)) rfl ?_
        refine r_lcmp x_334_86 ?_
        refine r_if_eq x_334_87 (t := 92) (by decide +kernel) (g_InR_toInt _) (fun hc => ?_) (fun hc => ?_)
        · replace h := h.1 hc
          exact h
        · replace h := h.2 hc
          refine r_iconst x_334_90 ?_
          exact r_retI x_334_91 rfl (g_Rk rfl) h
theorem s_X12_sortFault_92 {d : Nat} {M : g_M} {Q : Int → g_M → Prop} {a0 : Nat} {v1 : Int} (hv1 : g_InR v1) {v2 : Int} (hv2 : g_InR v2) (h : g_ok M → g_InR (v2 + 1) ∧ g_O M a0 12 ∧ g_Call d 232 [.ref a0, g_n v2] M (g_qI fun r6 M3 => g_ext M M3 → g_ok M3 → g_InR r6 → g_Call d 275 [.ref a0, g_n (v2 + 1), g_n r6] M3 (g_qI fun r11 M8 => g_ext M3 M8 → g_ok M8 → g_InR r11 → ((r11 = 0 → Q 3 M8) ∧ (¬ r11 = 0 → g_Call d 235 [.ref a0, g_n v2] M8 (g_qI fun r16 M13 => g_ext M8 M13 → g_ok M13 → g_InR r16 → g_Run d 334 47 [(0, .ref a0), (1, g_n v1), (2, g_n r16)] [] M13 (g_qI Q))))))) : g_Run d 334 92 [(0, .ref a0), (1, g_n v1), (2, g_n v2)] [] M (g_qI Q) := by
  refine g_Run.ok fun hok => ?_
  replace h := h hok
  refine r_aload_n x_334_92 rfl ?_
  refine r_iload_n x_334_93 rfl ?_
  refine r_iconst x_334_94 ?_
  refine r_iadd x_334_95 ?_
  obtain ⟨h1, h⟩ := h
  refine r_aload_n x_334_96 rfl ?_
  refine r_iload_n x_334_97 rfl ?_
  obtain ⟨hO2, h⟩ := h
  refine r_invV x_334_98 (z := 232) (ns := 0) (by decide +kernel) (as := [g_n v2]) (r := [g_n (v2 + 1), .ref a0]) rfl rfl rfl hO2 rfl rfl ?_
  refine r_callI h fun r6 M3 hx4 hok5 hr7 h => ?_
  replace h := h hx4 hok5 hr7
  replace hO2 := hO2.up hx4
  refine r_invV x_334_101 (z := 275) (ns := 0) (by decide +kernel) (as := [g_n (v2 + 1), g_n r6]) (r := []) rfl rfl rfl hO2 rfl rfl ?_
  refine r_callI h fun r11 M8 hx9 hok10 hr12 h => ?_
  replace h := h hx9 hok10 hr12
  replace hO2 := hO2.up hx9
  refine r_if_ne x_334_104 (t := 109) (by decide +kernel) hr12 (fun hc => ?_) (fun hc => ?_)
  · replace h := h.2 hc
    refine r_aload_n x_334_109 rfl ?_
    refine r_iload_n x_334_110 rfl ?_
    refine r_invV x_334_111 (z := 235) (ns := 0) (by decide +kernel) (as := [g_n v2]) (r := []) rfl rfl rfl hO2 rfl rfl ?_
    refine r_callI h fun r16 M13 hx14 hok15 hr17 h => ?_
    replace h := h hx14 hok15 hr17
    replace hO2 := hO2.up hx14
    refine r_istore_n x_334_114 (by decide +kernel) rfl (lv1 := [(0, .ref a0), (1, g_n v1), (2, g_n r16)]) rfl ?_
    refine r_goto x_334_115 (t := 47) (by decide +kernel) ?_
    exact h
  · replace h := h.1 hc
    refine r_iconst x_334_107 ?_
    exact r_retI x_334_108 rfl (g_Rk rfl) h
theorem m_X12_lookupFault {d : Nat} {M : g_M} {Q : Int → g_M → Prop} {a0 : Nat} {v1 : Int} (hv1 : g_InR v1) (h : g_ok M → g_O M a0 12 ∧ ∃ b2, g_r M a0 0 = some b2 ∧ ∃ n4, g_A M b2 0 n4 ∧ ((0 : Int) ≤ v1 ∧ (v1 : Int) < n4) ∧ ((g_i M b2 v1 = 3 → g_Call d 233 [.ref a0, g_n v1] M (g_qI fun r10 M7 => g_ext M M7 → g_ok M7 → g_InR r10 → g_Call d 239 [.ref a0, g_n r10] M7 (g_qI fun r15 M12 => g_ext M7 M12 → g_ok M12 → g_InR r15 → ((r15 = 3 → g_Call d 233 [.ref a0, g_n v1] M12 (g_qI fun r20 M17 => g_ext M12 M17 → g_ok M17 → g_InR r20 → g_Call d 241 [.ref a0, g_n r20, g_n 0] M17 (g_qI fun r25 M22 => g_ext M17 M22 → g_ok M22 → g_InR r25 → g_Call d 233 [.ref a0, g_n v1] M22 (g_qI fun r30 M27 => g_ext M22 M27 → g_ok M27 → g_InR r30 → g_Call d 241 [.ref a0, g_n r30, g_n 1] M27 (g_qI fun r35 M32 => g_ext M27 M32 → g_ok M32 → g_InR r35 → g_Call d 233 [.ref a0, g_n v1] M32 (g_qI fun r40 M37 => g_ext M32 M37 → g_ok M37 → g_InR r40 → g_Call d 241 [.ref a0, g_n r40, g_n 2] M37 (g_qI fun r45 M42 => g_ext M37 M42 → g_ok M42 → g_InR r45 → g_Call d 236 [.ref a0, g_n r25, .ref (4 * 125 + 1)] M42 (g_qI fun r50 M47 => g_ext M42 M47 → g_ok M47 → g_InR r50 → ((r50 = 0 → Q 2 M47) ∧ (¬ r50 = 0 → g_Call d 236 [.ref a0, g_n r35, .ref (4 * 126 + 1)] M47 (g_qI fun r55 M52 => g_ext M47 M52 → g_ok M52 → g_InR r55 → ((r55 = 0 → Q 2 M52) ∧ (¬ r55 = 0 → g_Call d 236 [.ref a0, g_n r45, .ref (4 * 127 + 1)] M52 (g_qI fun r60 M57 => g_ext M52 M57 → g_ok M57 → g_InR r60 → ((r60 = 0 → Q 2 M57) ∧ (¬ r60 = 0 → ∃ b62, g_r M57 a0 0 = some b62 ∧ ∃ n64, g_A M57 b62 0 n64 ∧ ((0 : Int) ≤ r25 ∧ (r25 : Int) < n64) ∧ ((g_i M57 b62 r25 = 2 → ∃ b67, g_r M57 a0 0 = some b67 ∧ ∃ n69, g_A M57 b67 0 n69 ∧ ((0 : Int) ≤ r35 ∧ (r35 : Int) < n69) ∧ ((g_i M57 b67 r35 = 2 → ∃ b72, g_r M57 a0 0 = some b72 ∧ ∃ n74, g_A M57 b72 0 n74 ∧ ((0 : Int) ≤ r45 ∧ (r45 : Int) < n74) ∧ ((g_i M57 b72 r45 = 2 → g_Call d 233 [.ref a0, g_n r45] M57 (g_qI fun r80 M77 => g_ext M57 M77 → g_ok M77 → g_InR r80 → g_InR (r80 + 4) ∧ g_Call d 322 [.ref a0, g_n r45] M77 (g_qI fun r86 M83 => g_ext M77 M83 → g_ok M83 → g_InR r86 → g_Call d 321 [.ref a0, g_n (r80 + 4), g_n r86] M83 (g_qI fun r91 M88 => g_ext M83 M88 → g_ok M88 → g_InR r91 → ((r91 = 0 → Q 2 M88) ∧ (¬ r91 = 0 → g_Call d 233 [.ref a0, g_n r25] M88 (g_qI fun r96 M93 => g_ext M88 M93 → g_ok M93 → g_InR r96 → g_InR (r96 + 4) ∧ g_Call d 322 [.ref a0, g_n r25] M93 (g_qI fun r102 M99 => g_ext M93 M99 → g_ok M99 → g_InR r102 → g_Call d 275 [.ref a0, g_n (r96 + 4), g_n r102] M99 (g_qI fun r107 M104 => g_ext M99 M104 → g_ok M104 → g_InR r107 → ((r107 = 0 → Q 3 M104) ∧ (¬ r107 = 0 → g_Call d 233 [.ref a0, g_n r35] M104 (g_qI fun r112 M109 => g_ext M104 M109 → g_ok M109 → g_InR r112 → g_InR (r112 + 4) ∧ g_Call d 322 [.ref a0, g_n r35] M109 (g_qI fun r118 M115 => g_ext M109 M115 → g_ok M115 → g_InR r118 → g_Call d 275 [.ref a0, g_n (r112 + 4), g_n r118] M115 (g_qI fun r123 M120 => g_ext M115 M120 → g_ok M120 → g_InR r123 → ((r123 = 0 → Q 3 M120) ∧ (¬ r123 = 0 → Q 0 M120)))))))))))))))) ∧ (¬ g_i M57 b72 r45 = 2 → Q 2 M57))) ∧ (¬ g_i M57 b67 r35 = 2 → Q 2 M57))) ∧ (¬ g_i M57 b62 r25 = 2 → Q 2 M57)))))))))))))))))) ∧ (¬ r15 = 3 → Q 2 M12))))) ∧ (¬ g_i M b2 v1 = 3 → Q 2 M))) : g_Call (d + 1) 335 [.ref a0, g_n v1] M (g_qI Q) := by
  refine g_Call.ok fun hok0 => ?_
  replace h := h hok0
  refine r_body rfl (lv := [(0, .ref a0), (1, g_n v1)]) rfl ?_
  refine g_Run.ok fun hok => ?_
  refine r_aload_n x_335_0 rfl ?_
  obtain ⟨hO1, h⟩ := h
  obtain ⟨b2, hb3, h⟩ := h
  refine r_getR x_335_1 rfl (ci := 12) (k := 0) (ns := 0) (by decide +kernel) (by decide) rfl (kz := 0) rfl hO1 hb3 ?_
  refine r_iload_n x_335_4 rfl ?_
  obtain ⟨n4, hA5, h⟩ := h
  obtain ⟨h6, h⟩ := h
  refine r_bald x_335_5 (Or.inl rfl) hA5 hv1 h6.1 h6.2 ?_
  refine r_iconst x_335_6 ?_
  refine r_ic_ne x_335_7 (t := 23) (by decide +kernel) (hok.1 _ _) (g_Rk rfl) (fun hc => ?_) (fun hc => ?_)
  · replace h := h.2 hc
    refine r_iconst x_335_23 ?_
    exact r_retI x_335_24 rfl (g_Rk rfl) h
  · replace h := h.1 hc
    refine r_aload_n x_335_10 rfl ?_
    refine r_aload_n x_335_11 rfl ?_
    refine r_iload_n x_335_12 rfl ?_
    refine r_invV x_335_13 (z := 233) (ns := 0) (by decide +kernel) (as := [g_n v1]) (r := [.ref a0]) rfl rfl rfl hO1 rfl rfl ?_
    refine r_callI h fun r10 M7 hx8 hok9 hr11 h => ?_
    replace h := h hx8 hok9 hr11
    replace hO1 := hO1.up hx8
    replace hA5 := hA5.up hx8
    refine r_invV x_335_16 (z := 239) (ns := 0) (by decide +kernel) (as := [g_n r10]) (r := []) rfl rfl rfl hO1 rfl rfl ?_
    refine r_callI h fun r15 M12 hx13 hok14 hr16 h => ?_
    replace h := h hx13 hok14 hr16
    replace hO1 := hO1.up hx13
    replace hA5 := hA5.up hx13
    refine r_iconst x_335_19 ?_
    refine r_ic_eq x_335_20 (t := 25) (by decide +kernel) hr16 (g_Rk rfl) (fun hc => ?_) (fun hc => ?_)
    · replace h := h.1 hc
      refine r_aload_n x_335_25 rfl ?_
      refine r_aload_n x_335_26 rfl ?_
      refine r_iload_n x_335_27 rfl ?_
      refine r_invV x_335_28 (z := 233) (ns := 0) (by decide +kernel) (as := [g_n v1]) (r := [.ref a0]) rfl rfl rfl hO1 rfl rfl ?_
      refine r_callI h fun r20 M17 hx18 hok19 hr21 h => ?_
      replace h := h hx18 hok19 hr21
      replace hO1 := hO1.up hx18
      replace hA5 := hA5.up hx18
      refine r_iconst x_335_31 ?_
      refine r_invV x_335_32 (z := 241) (ns := 0) (by decide +kernel) (as := [g_n r20, g_n 0]) (r := []) rfl rfl rfl hO1 rfl rfl ?_
      refine r_callI h fun r25 M22 hx23 hok24 hr26 h => ?_
      replace h := h hx23 hok24 hr26
      replace hO1 := hO1.up hx23
      replace hA5 := hA5.up hx23
      refine r_istore_n x_335_35 (by decide +kernel) rfl (lv1 := [(0, .ref a0), (1, g_n v1), (2, g_n r25)]) rfl ?_
      refine r_aload_n x_335_36 rfl ?_
      refine r_aload_n x_335_37 rfl ?_
      refine r_iload_n x_335_38 rfl ?_
      refine r_invV x_335_39 (z := 233) (ns := 0) (by decide +kernel) (as := [g_n v1]) (r := [.ref a0]) rfl rfl rfl hO1 rfl rfl ?_
      refine r_callI h fun r30 M27 hx28 hok29 hr31 h => ?_
      replace h := h hx28 hok29 hr31
      replace hO1 := hO1.up hx28
      replace hA5 := hA5.up hx28
      refine r_iconst x_335_42 ?_
      refine r_invV x_335_43 (z := 241) (ns := 0) (by decide +kernel) (as := [g_n r30, g_n 1]) (r := []) rfl rfl rfl hO1 rfl rfl ?_
      refine r_callI h fun r35 M32 hx33 hok34 hr36 h => ?_
      replace h := h hx33 hok34 hr36
      replace hO1 := hO1.up hx33
      replace hA5 := hA5.up hx33
      refine r_istore_n x_335_46 (by decide +kernel) rfl (lv1 := [(0, .ref a0), (1, g_n v1), (2, g_n r25), (3, g_n r35)]) rfl ?_
      refine r_aload_n x_335_47 rfl ?_
      refine r_aload_n x_335_48 rfl ?_
      refine r_iload_n x_335_49 rfl ?_
      refine r_invV x_335_50 (z := 233) (ns := 0) (by decide +kernel) (as := [g_n v1]) (r := [.ref a0]) rfl rfl rfl hO1 rfl rfl ?_
      refine r_callI h fun r40 M37 hx38 hok39 hr41 h => ?_
      replace h := h hx38 hok39 hr41
      replace hO1 := hO1.up hx38
      replace hA5 := hA5.up hx38
      refine r_iconst x_335_53 ?_
      refine r_invV x_335_54 (z := 241) (ns := 0) (by decide +kernel) (as := [g_n r40, g_n 2]) (r := []) rfl rfl rfl hO1 rfl rfl ?_
      refine r_callI h fun r45 M42 hx43 hok44 hr46 h => ?_
      replace h := h hx43 hok44 hr46
      replace hO1 := hO1.up hx43
      replace hA5 := hA5.up hx43
      refine r_istore x_335_57 (by decide +kernel) rfl (lv1 := [(0, .ref a0), (1, g_n v1), (2, g_n r25), (3, g_n r35), (4, g_n r45)]) rfl ?_
      refine r_aload_n x_335_59 rfl ?_
      refine r_iload_n x_335_60 rfl ?_
      refine r_ldcw x_335_61 (v := .ref (4 * 125 + 1)) rfl ?_
      refine r_invV x_335_64 (z := 236) (ns := 0) (by decide +kernel) (as := [g_n r25, .ref (4 * 125 + 1)]) (r := []) rfl rfl rfl hO1 rfl rfl ?_
      refine r_callI h fun r50 M47 hx48 hok49 hr51 h => ?_
      replace h := h hx48 hok49 hr51
      replace hO1 := hO1.up hx48
      replace hA5 := hA5.up hx48
      refine r_if_eq x_335_67 (t := 124) (by decide +kernel) hr51 (fun hc => ?_) (fun hc => ?_)
      · replace h := h.1 hc
        refine r_iconst x_335_124 ?_
        exact r_retI x_335_125 rfl (g_Rk rfl) h
      · replace h := h.2 hc
        refine r_aload_n x_335_70 rfl ?_
        refine r_iload_n x_335_71 rfl ?_
        refine r_ldcw x_335_72 (v := .ref (4 * 126 + 1)) rfl ?_
        refine r_invV x_335_75 (z := 236) (ns := 0) (by decide +kernel) (as := [g_n r35, .ref (4 * 126 + 1)]) (r := []) rfl rfl rfl hO1 rfl rfl ?_
        refine r_callI h fun r55 M52 hx53 hok54 hr56 h => ?_
        replace h := h hx53 hok54 hr56
        replace hO1 := hO1.up hx53
        replace hA5 := hA5.up hx53
        refine r_if_eq x_335_78 (t := 124) (by decide +kernel) hr56 (fun hc => ?_) (fun hc => ?_)
        · replace h := h.1 hc
          refine r_iconst x_335_124 ?_
          exact r_retI x_335_125 rfl (g_Rk rfl) h
        · replace h := h.2 hc
          refine r_aload_n x_335_81 rfl ?_
          refine r_iload x_335_82 rfl ?_
          refine r_ldcw x_335_84 (v := .ref (4 * 127 + 1)) rfl ?_
          refine r_invV x_335_87 (z := 236) (ns := 0) (by decide +kernel) (as := [g_n r45, .ref (4 * 127 + 1)]) (r := []) rfl rfl rfl hO1 rfl rfl ?_
          refine r_callI h fun r60 M57 hx58 hok59 hr61 h => ?_
          replace h := h hx58 hok59 hr61
          replace hO1 := hO1.up hx58
          replace hA5 := hA5.up hx58
          refine r_if_eq x_335_90 (t := 124) (by decide +kernel) hr61 (fun hc => ?_) (fun hc => ?_)
          · replace h := h.1 hc
            refine r_iconst x_335_124 ?_
            exact r_retI x_335_125 rfl (g_Rk rfl) h
          · replace h := h.2 hc
            refine r_aload_n x_335_93 rfl ?_
            obtain ⟨b62, hb63, h⟩ := h
            refine r_getR x_335_94 rfl (ci := 12) (k := 0) (ns := 0) (by decide +kernel) (by decide) rfl (kz := 0) rfl hO1 hb63 ?_
            refine r_iload_n x_335_97 rfl ?_
            obtain ⟨n64, hA65, h⟩ := h
            obtain ⟨h66, h⟩ := h
            refine r_bald x_335_98 (Or.inl rfl) hA65 hr26 h66.1 h66.2 ?_
            refine r_iconst x_335_99 ?_
            refine r_ic_ne x_335_100 (t := 124) (by decide +kernel) (hok59.1 _ _) (g_Rk rfl) (fun hc => ?_) (fun hc => ?_)
            · replace h := h.2 hc
              refine r_iconst x_335_124 ?_
              exact r_retI x_335_125 rfl (g_Rk rfl) h
            · replace h := h.1 hc
              refine r_aload_n x_335_103 rfl ?_
              obtain ⟨b67, hb68, h⟩ := h
              refine r_getR x_335_104 rfl (ci := 12) (k := 0) (ns := 0) (by decide +kernel) (by decide) rfl (kz := 0) rfl hO1 hb68 ?_
              refine r_iload_n x_335_107 rfl ?_
              obtain ⟨n69, hA70, h⟩ := h
              obtain ⟨h71, h⟩ := h
              refine r_bald x_335_108 (Or.inl rfl) hA70 hr36 h71.1 h71.2 ?_
              refine r_iconst x_335_109 ?_
              refine r_ic_ne x_335_110 (t := 124) (by decide +kernel) (hok59.1 _ _) (g_Rk rfl) (fun hc => ?_) (fun hc => ?_)
              · replace h := h.2 hc
                refine r_iconst x_335_124 ?_
                exact r_retI x_335_125 rfl (g_Rk rfl) h
              · replace h := h.1 hc
                refine r_aload_n x_335_113 rfl ?_
                obtain ⟨b72, hb73, h⟩ := h
                refine r_getR x_335_114 rfl (ci := 12) (k := 0) (ns := 0) (by decide +kernel) (by decide) rfl (kz := 0) rfl hO1 hb73 ?_
                refine r_iload x_335_117 rfl ?_
                obtain ⟨n74, hA75, h⟩ := h
                obtain ⟨h76, h⟩ := h
                refine r_bald x_335_119 (Or.inl rfl) hA75 hr46 h76.1 h76.2 ?_
                refine r_iconst x_335_120 ?_
                refine r_ic_eq x_335_121 (t := 126) (by decide +kernel) (hok59.1 _ _) (g_Rk rfl) (fun hc => ?_) (fun hc => ?_)
                · replace h := h.1 hc
                  refine r_aload_n x_335_126 rfl ?_
                  refine r_aload_n x_335_127 rfl ?_
                  refine r_iload x_335_128 rfl ?_
                  refine r_invV x_335_130 (z := 233) (ns := 0) (by decide +kernel) (as := [g_n r45]) (r := [.ref a0]) rfl rfl rfl hO1 rfl rfl ?_
                  refine r_callI h fun r80 M77 hx78 hok79 hr81 h => ?_
                  replace h := h hx78 hok79 hr81
                  replace hO1 := hO1.up hx78
                  replace hA5 := hA5.up hx78
                  replace hA65 := hA65.up hx78
                  replace hA70 := hA70.up hx78
                  replace hA75 := hA75.up hx78
                  refine r_iconst x_335_133 ?_
                  refine r_iadd x_335_134 ?_
                  obtain ⟨h82, h⟩ := h
                  refine r_aload_n x_335_135 rfl ?_
                  refine r_iload x_335_136 rfl ?_
                  refine r_invV x_335_138 (z := 322) (ns := 0) (by decide +kernel) (as := [g_n r45]) (r := [g_n (r80 + 4), .ref a0]) rfl rfl rfl hO1 rfl rfl ?_
                  refine r_callI h fun r86 M83 hx84 hok85 hr87 h => ?_
                  replace h := h hx84 hok85 hr87
                  replace hO1 := hO1.up hx84
                  replace hA5 := hA5.up hx84
                  replace hA65 := hA65.up hx84
                  replace hA70 := hA70.up hx84
                  replace hA75 := hA75.up hx84
                  refine r_invV x_335_141 (z := 321) (ns := 0) (by decide +kernel) (as := [g_n (r80 + 4), g_n r86]) (r := []) rfl rfl rfl hO1 rfl rfl ?_
                  refine r_callI h fun r91 M88 hx89 hok90 hr92 h => ?_
                  replace h := h hx89 hok90 hr92
                  replace hO1 := hO1.up hx89
                  replace hA5 := hA5.up hx89
                  replace hA65 := hA65.up hx89
                  replace hA70 := hA70.up hx89
                  replace hA75 := hA75.up hx89
                  refine r_if_ne x_335_144 (t := 149) (by decide +kernel) hr92 (fun hc => ?_) (fun hc => ?_)
                  · replace h := h.2 hc
                    refine r_aload_n x_335_149 rfl ?_
                    refine r_aload_n x_335_150 rfl ?_
                    refine r_iload_n x_335_151 rfl ?_
                    refine r_invV x_335_152 (z := 233) (ns := 0) (by decide +kernel) (as := [g_n r25]) (r := [.ref a0]) rfl rfl rfl hO1 rfl rfl ?_
                    refine r_callI h fun r96 M93 hx94 hok95 hr97 h => ?_
                    replace h := h hx94 hok95 hr97
                    replace hO1 := hO1.up hx94
                    replace hA5 := hA5.up hx94
                    replace hA65 := hA65.up hx94
                    replace hA70 := hA70.up hx94
                    replace hA75 := hA75.up hx94
                    refine r_iconst x_335_155 ?_
                    refine r_iadd x_335_156 ?_
                    obtain ⟨h98, h⟩ := h
                    refine r_aload_n x_335_157 rfl ?_
                    refine r_iload_n x_335_158 rfl ?_
                    refine r_invV x_335_159 (z := 322) (ns := 0) (by decide +kernel) (as := [g_n r25]) (r := [g_n (r96 + 4), .ref a0]) rfl rfl rfl hO1 rfl rfl ?_
                    refine r_callI h fun r102 M99 hx100 hok101 hr103 h => ?_
                    replace h := h hx100 hok101 hr103
                    replace hO1 := hO1.up hx100
                    replace hA5 := hA5.up hx100
                    replace hA65 := hA65.up hx100
                    replace hA70 := hA70.up hx100
                    replace hA75 := hA75.up hx100
                    refine r_invV x_335_162 (z := 275) (ns := 0) (by decide +kernel) (as := [g_n (r96 + 4), g_n r102]) (r := []) rfl rfl rfl hO1 rfl rfl ?_
                    refine r_callI h fun r107 M104 hx105 hok106 hr108 h => ?_
                    replace h := h hx105 hok106 hr108
                    replace hO1 := hO1.up hx105
                    replace hA5 := hA5.up hx105
                    replace hA65 := hA65.up hx105
                    replace hA70 := hA70.up hx105
                    replace hA75 := hA75.up hx105
                    refine r_if_eq x_335_165 (t := 191) (by decide +kernel) hr108 (fun hc => ?_) (fun hc => ?_)
                    · replace h := h.1 hc
                      refine r_iconst x_335_191 ?_
                      exact r_retI x_335_192 rfl (g_Rk rfl) h
                    · replace h := h.2 hc
                      refine r_aload_n x_335_168 rfl ?_
                      refine r_aload_n x_335_169 rfl ?_
                      refine r_iload_n x_335_170 rfl ?_
                      refine r_invV x_335_171 (z := 233) (ns := 0) (by decide +kernel) (as := [g_n r35]) (r := [.ref a0]) rfl rfl rfl hO1 rfl rfl ?_
                      refine r_callI h fun r112 M109 hx110 hok111 hr113 h => ?_
                      replace h := h hx110 hok111 hr113
                      replace hO1 := hO1.up hx110
                      replace hA5 := hA5.up hx110
                      replace hA65 := hA65.up hx110
                      replace hA70 := hA70.up hx110
                      replace hA75 := hA75.up hx110
                      refine r_iconst x_335_174 ?_
                      refine r_iadd x_335_175 ?_
                      obtain ⟨h114, h⟩ := h
                      refine r_aload_n x_335_176 rfl ?_
                      refine r_iload_n x_335_177 rfl ?_
                      refine r_invV x_335_178 (z := 322) (ns := 0) (by decide +kernel) (as := [g_n r35]) (r := [g_n (r112 + 4), .ref a0]) rfl rfl rfl hO1 rfl rfl ?_
                      refine r_callI h fun r118 M115 hx116 hok117 hr119 h => ?_
                      replace h := h hx116 hok117 hr119
                      replace hO1 := hO1.up hx116
                      replace hA5 := hA5.up hx116
                      replace hA65 := hA65.up hx116
                      replace hA70 := hA70.up hx116
                      replace hA75 := hA75.up hx116
                      refine r_invV x_335_181 (z := 275) (ns := 0) (by decide +kernel) (as := [g_n (r112 + 4), g_n r118]) (r := []) rfl rfl rfl hO1 rfl rfl ?_
                      refine r_callI h fun r123 M120 hx121 hok122 hr124 h => ?_
                      replace h := h hx121 hok122 hr124
                      replace hO1 := hO1.up hx121
                      replace hA5 := hA5.up hx121
                      replace hA65 := hA65.up hx121
                      replace hA70 := hA70.up hx121
                      replace hA75 := hA75.up hx121
                      refine r_if_eq x_335_184 (t := 191) (by decide +kernel) hr124 (fun hc => ?_) (fun hc => ?_)
                      · replace h := h.1 hc
                        refine r_iconst x_335_191 ?_
                        exact r_retI x_335_192 rfl (g_Rk rfl) h
                      · replace h := h.2 hc
                        refine r_iconst x_335_187 ?_
                        refine r_goto x_335_188 (t := 192) (by decide +kernel) ?_
                        exact r_retI x_335_192 rfl (g_Rk rfl) h
                  · replace h := h.1 hc
                    refine r_iconst x_335_147 ?_
                    exact r_retI x_335_148 rfl (g_Rk rfl) h
                · replace h := h.2 hc
                  refine r_iconst x_335_124 ?_
                  exact r_retI x_335_125 rfl (g_Rk rfl) h
    · replace h := h.2 hc
      refine r_iconst x_335_23 ?_
      exact r_retI x_335_24 rfl (g_Rk rfl) h
theorem m_X12_deliver {d : Nat} {M : g_M} {Q : g_M → Prop} {a0 : Nat} {v1 : Int} (hv1 : g_InR v1) (h : g_ok M → g_O M a0 12 ∧ ((g_i M a0 23 = 200 → (∀ M2, M2 = g_wi M a0 25 1 → g_ok M2 → g_Run d 336 15 [(0, .ref a0), (1, g_n v1)] [] M2 (g_qV Q))) ∧ (¬ g_i M a0 23 = 200 → g_Run d 336 15 [(0, .ref a0), (1, g_n v1)] [] M (g_qV Q)))) : g_Call (d + 1) 336 [.ref a0, g_n v1] M (g_qV Q) := by
  refine g_Call.ok fun hok0 => ?_
  replace h := h hok0
  refine r_body rfl (lv := [(0, .ref a0), (1, g_n v1)]) rfl ?_
  refine g_Run.ok fun hok => ?_
  refine r_aload_n x_336_0 rfl ?_
  obtain ⟨hO1, h⟩ := h
  refine r_getI x_336_1 rfl (ci := 12) (k := 23) (ns := 0) (by decide +kernel) (by decide) rfl (kz := 23) rfl hO1 ?_
  refine r_sipush x_336_4 (x := 200) rfl ?_
  refine r_ic_ne x_336_7 (t := 15) (by decide +kernel) (hok.1 _ _) (g_Rk rfl) (fun hc => ?_) (fun hc => ?_)
  · replace h := h.2 hc
    exact h
  · replace h := h.1 hc
    refine r_aload_n x_336_10 rfl ?_
    refine r_iconst x_336_11 ?_
    refine r_putI x_336_12 (ci := 12) (k := 25) (ns := 0) (by decide +kernel) (by decide) (g_fZ (Or.inr rfl) (by decide +kernel)) rfl (g_Rk rfl) (g_zx (Or.inr rfl) rfl).2 (kz := 25) rfl hO1 ?_
    obtain ⟨M2, hM3⟩ : ∃ Mz, Mz = g_wi M a0 25 1 := ⟨_, rfl⟩
    rw [← hM3]
    refine g_Run.ok fun hok4 => ?_
    replace h := h M2 hM3 hok4
    have hx5 := g_extW hM3
    replace hO1 := hO1.up hx5
    exact h
theorem s_X12_deliver_15 {d : Nat} {M : g_M} {Q : g_M → Prop} {a0 : Nat} {v1 : Int} (hv1 : g_InR v1) (h : g_ok M → g_O M a0 12 ∧ ((g_i M a0 25 = 0 → ∃ b2, g_r M a0 22 = some b2 ∧ ∃ n4, g_A M b2 1 n4 ∧ ((0 : Int) ≤ g_i M a0 23 ∧ (g_i M a0 23 : Int) < n4) ∧ (∀ M7, M7 = g_wi M b2 (g_i M a0 23) v1 → g_ok M7 → g_InR ((g_i M7 a0 23) + 1) ∧ (∀ M12, M12 = g_wi M7 a0 23 ((g_i M7 a0 23) + 1) → g_ok M12 → Q M12))) ∧ (¬ g_i M a0 25 = 0 → Q M))) : g_Run d 336 15 [(0, .ref a0), (1, g_n v1)] [] M (g_qV Q) := by
  refine g_Run.ok fun hok => ?_
  replace h := h hok
  refine r_aload_n x_336_15 rfl ?_
  obtain ⟨hO1, h⟩ := h
  refine r_getI x_336_16 rfl (ci := 12) (k := 25) (ns := 0) (by decide +kernel) (by decide) rfl (kz := 25) rfl hO1 ?_
  refine r_if_eq x_336_19 (t := 23) (by decide +kernel) (hok.1 _ _) (fun hc => ?_) (fun hc => ?_)
  · replace h := h.1 hc
    refine r_aload_n x_336_23 rfl ?_
    obtain ⟨b2, hb3, h⟩ := h
    refine r_getR x_336_24 rfl (ci := 12) (k := 22) (ns := 0) (by decide +kernel) (by decide) rfl (kz := 22) rfl hO1 hb3 ?_
    refine r_aload_n x_336_27 rfl ?_
    refine r_getI x_336_28 rfl (ci := 12) (k := 23) (ns := 0) (by decide +kernel) (by decide) rfl (kz := 23) rfl hO1 ?_
    refine r_iload_n x_336_31 rfl ?_
    obtain ⟨n4, hA5, h⟩ := h
    obtain ⟨h6, h⟩ := h
    refine r_iast x_336_32 hA5 (hok.1 _ _) h6.1 h6.2 hv1 ?_
    obtain ⟨M7, hM8⟩ : ∃ Mz, Mz = g_wi M b2 (g_i M a0 23) v1 := ⟨_, rfl⟩
    rw [← hM8]
    refine g_Run.ok fun hok9 => ?_
    replace h := h M7 hM8 hok9
    have hx10 := g_extW hM8
    replace hO1 := hO1.up hx10
    replace hA5 := hA5.up hx10
    refine r_aload_n x_336_33 rfl ?_
    refine r_dup x_336_34 rfl ?_
    refine r_getI x_336_35 rfl (ci := 12) (k := 23) (ns := 0) (by decide +kernel) (by decide) rfl (kz := 23) rfl hO1 ?_
    refine r_iconst x_336_38 ?_
    refine r_iadd x_336_39 ?_
    obtain ⟨h11, h⟩ := h
    refine r_putI x_336_40 (ci := 12) (k := 23) (ns := 0) (by decide +kernel) (by decide) (g_f0 (by decide +kernel)) rfl h11 trivial (kz := 23) rfl hO1 ?_
    obtain ⟨M12, hM13⟩ : ∃ Mz, Mz = g_wi M7 a0 23 ((g_i M7 a0 23) + 1) := ⟨_, rfl⟩
    rw [← hM13]
    refine g_Run.ok fun hok14 => ?_
    replace h := h M12 hM13 hok14
    have hx15 := g_extW hM13
    replace hO1 := hO1.up hx15
    replace hA5 := hA5.up hx15
    exact r_retV x_336_43 rfl h
  · replace h := h.2 hc
    exact r_retV x_336_22 rfl h
theorem m_X12_beginMaking {d : Nat} {M : g_M} {Q : g_M → Prop} {a0 : Nat} (h : g_ok M → g_O M a0 12 ∧ g_InR (1 - (g_i M a0 24)) ∧ (∀ M3, M3 = g_wi M a0 24 (1 - (g_i M a0 24)) → g_ok M3 → (∀ M7, M7 = g_wi M3 a0 23 0 → g_ok M7 → (∀ M11, M11 = g_wi M7 a0 25 0 → g_ok M11 → g_InR (60000 * (g_i M11 a0 24)) ∧ g_InR (802000 + (60000 * (g_i M11 a0 24))) ∧ g_InR (60000 * (g_i M11 a0 24)) ∧ g_InR (802000 + (60000 * (g_i M11 a0 24))) ∧ g_InR ((802000 + (60000 * (g_i M11 a0 24))) + 60000) ∧ g_Call d 245 [.ref a0, g_n (802000 + (60000 * (g_i M11 a0 24))), g_n ((802000 + (60000 * (g_i M11 a0 24))) + 60000)] M11 (g_qV fun M20 => g_ext M11 M20 → g_ok M20 → Q M20))))) : g_Call (d + 1) 337 [.ref a0] M (g_qV Q) := by
  refine g_Call.ok fun hok0 => ?_
  replace h := h hok0
  refine r_body rfl (lv := [(0, .ref a0)]) rfl ?_
  refine g_Run.ok fun hok => ?_
  refine r_aload_n x_337_0 rfl ?_
  refine r_iconst x_337_1 ?_
  refine r_aload_n x_337_2 rfl ?_
  obtain ⟨hO1, h⟩ := h
  refine r_getI x_337_3 rfl (ci := 12) (k := 24) (ns := 0) (by decide +kernel) (by decide) rfl (kz := 24) rfl hO1 ?_
  refine r_isub x_337_6 ?_
  obtain ⟨h2, h⟩ := h
  refine r_putI x_337_7 (ci := 12) (k := 24) (ns := 0) (by decide +kernel) (by decide) (g_f0 (by decide +kernel)) rfl h2 trivial (kz := 24) rfl hO1 ?_
  obtain ⟨M3, hM4⟩ : ∃ Mz, Mz = g_wi M a0 24 (1 - (g_i M a0 24)) := ⟨_, rfl⟩
  rw [← hM4]
  refine g_Run.ok fun hok5 => ?_
  replace h := h M3 hM4 hok5
  have hx6 := g_extW hM4
  replace hO1 := hO1.up hx6
  refine r_aload_n x_337_10 rfl ?_
  refine r_iconst x_337_11 ?_
  refine r_putI x_337_12 (ci := 12) (k := 23) (ns := 0) (by decide +kernel) (by decide) (g_f0 (by decide +kernel)) rfl (g_Rk rfl) trivial (kz := 23) rfl hO1 ?_
  obtain ⟨M7, hM8⟩ : ∃ Mz, Mz = g_wi M3 a0 23 0 := ⟨_, rfl⟩
  rw [← hM8]
  refine g_Run.ok fun hok9 => ?_
  replace h := h M7 hM8 hok9
  have hx10 := g_extW hM8
  replace hO1 := hO1.up hx10
  refine r_aload_n x_337_15 rfl ?_
  refine r_iconst x_337_16 ?_
  refine r_putI x_337_17 (ci := 12) (k := 25) (ns := 0) (by decide +kernel) (by decide) (g_fZ (Or.inl rfl) (by decide +kernel)) rfl (g_Rk rfl) (g_zx (Or.inl rfl) rfl).2 (kz := 25) rfl hO1 ?_
  obtain ⟨M11, hM12⟩ : ∃ Mz, Mz = g_wi M7 a0 25 0 := ⟨_, rfl⟩
  rw [← hM12]
  refine g_Run.ok fun hok13 => ?_
  replace h := h M11 hM12 hok13
  have hx14 := g_extW hM12
  replace hO1 := hO1.up hx14
  refine r_aload_n x_337_20 rfl ?_
  refine r_ldcw x_337_21 (v := g_n 802000) rfl ?_
  refine r_ldcw x_337_24 (v := g_n 60000) rfl ?_
  refine r_aload_n x_337_27 rfl ?_
  refine r_getI x_337_28 rfl (ci := 12) (k := 24) (ns := 0) (by decide +kernel) (by decide) rfl (kz := 24) rfl hO1 ?_
  refine r_imul x_337_31 ?_
  obtain ⟨h15, h⟩ := h
  refine r_iadd x_337_32 ?_
  obtain ⟨h16, h⟩ := h
  refine r_ldcw x_337_33 (v := g_n 802000) rfl ?_
  refine r_ldcw x_337_36 (v := g_n 60000) rfl ?_
  refine r_aload_n x_337_39 rfl ?_
  refine r_getI x_337_40 rfl (ci := 12) (k := 24) (ns := 0) (by decide +kernel) (by decide) rfl (kz := 24) rfl hO1 ?_
  refine r_imul x_337_43 ?_
  obtain ⟨h17, h⟩ := h
  refine r_iadd x_337_44 ?_
  obtain ⟨h18, h⟩ := h
  refine r_ldcw x_337_45 (v := g_n 60000) rfl ?_
  refine r_iadd x_337_48 ?_
  obtain ⟨h19, h⟩ := h
  refine r_invV x_337_49 (z := 245) (ns := 0) (by decide +kernel) (as := [g_n (802000 + (60000 * (g_i M11 a0 24))), g_n ((802000 + (60000 * (g_i M11 a0 24))) + 60000)]) (r := []) rfl rfl rfl hO1 rfl rfl ?_
  refine r_callV h fun M20 hx21 hok22 h => ?_
  replace h := h hx21 hok22
  replace hO1 := hO1.up hx21
  exact r_retV x_337_52 rfl h
theorem m_X12_endMaking {d : Nat} {M : g_M} {Q : Int → g_M → Prop} {a0 : Nat} (h : g_ok M → g_O M a0 12 ∧ ((g_i M a0 6 = 0 → ((g_i M a0 25 = 0 → g_Run d 338 20 [(0, .ref a0), (1, g_n 0), (2, g_n 0)] [] M (g_qI Q)) ∧ (¬ g_i M a0 25 = 0 → Q 5 M))) ∧ (¬ g_i M a0 6 = 0 → Q 5 M))) : g_Call (d + 1) 338 [.ref a0] M (g_qI Q) := by
  refine g_Call.ok fun hok0 => ?_
  replace h := h hok0
  refine r_body rfl (lv := [(0, .ref a0)]) rfl ?_
  refine g_Run.ok fun hok => ?_
  refine r_iconst x_338_0 ?_
  refine r_istore_n x_338_1 (by decide +kernel) rfl (lv1 := [(0, .ref a0), (1, g_n 0)]) rfl ?_
  refine r_aload_n x_338_2 rfl ?_
  obtain ⟨hO1, h⟩ := h
  refine r_getI x_338_3 rfl (ci := 12) (k := 6) (ns := 0) (by decide +kernel) (by decide) rfl (kz := 6) rfl hO1 ?_
  refine r_if_ne x_338_6 (t := 16) (by decide +kernel) (hok.1 _ _) (fun hc => ?_) (fun hc => ?_)
  · replace h := h.2 hc
    refine r_iconst x_338_16 ?_
    exact r_retI x_338_17 rfl (g_Rk rfl) h
  · replace h := h.1 hc
    refine r_aload_n x_338_9 rfl ?_
    refine r_getI x_338_10 rfl (ci := 12) (k := 25) (ns := 0) (by decide +kernel) (by decide) rfl (kz := 25) rfl hO1 ?_
    refine r_if_eq x_338_13 (t := 18) (by decide +kernel) (hok.1 _ _) (fun hc => ?_) (fun hc => ?_)
    · replace h := h.1 hc
      refine r_iconst x_338_18 ?_
      refine r_istore_n x_338_19 (by decide +kernel) rfl (lv1 := [(0, .ref a0), (1, g_n 0), (2, g_n 0)]) rfl ?_
      exact h
    · replace h := h.2 hc
      refine r_iconst x_338_16 ?_
      exact r_retI x_338_17 rfl (g_Rk rfl) h
theorem s_X12_endMaking_20 {d : Nat} {M : g_M} {Q : Int → g_M → Prop} {a0 : Nat} {v1 : Int} (hv1 : g_InR v1) {v2 : Int} (hv2 : g_InR v2) (h : g_ok M → g_O M a0 12 ∧ ((v2 < g_i M a0 23 → ∃ b6, g_r M a0 22 = some b6 ∧ ∃ n8, g_A M b6 1 n8 ∧ ((0 : Int) ≤ v2 ∧ (v2 : Int) < n8) ∧ g_Call d 227 [.ref a0, g_n (g_i M b6 v2)] M (g_qI fun r14 M11 => g_ext M M11 → g_ok M11 → g_InR r14 → g_InR (v1 + r14) ∧ ((2000 < r14 → Q 5 M11) ∧ (¬ 2000 < r14 → ∃ b17, g_r M11 a0 22 = some b17 ∧ ∃ n19, g_A M11 b17 1 n19 ∧ ((0 : Int) ≤ v2 ∧ (v2 : Int) < n19) ∧ g_Call d 244 [.ref a0, g_n (g_i M11 b17 v2)] M11 (g_qI fun r25 M22 => g_ext M11 M22 → g_ok M22 → g_InR r25 → ((16 < r25 → Q 5 M22) ∧ (¬ 16 < r25 → g_InR (v2 + 1) ∧ g_Run d 338 20 [(0, .ref a0), (1, g_n (v1 + r14)), (2, g_n (v2 + 1))] [] M22 (g_qI Q)))))))) ∧ (¬ v2 < g_i M a0 23 → ((40000 < v1 → Q 5 M) ∧ (¬ 40000 < v1 → (∀ M2, M2 = g_wi M a0 19 (g_i M a0 23) → g_ok M2 → g_Run d 338 92 [(0, .ref a0), (1, g_n v1), (2, g_n 0)] [] M2 (g_qI Q))))))) : g_Run d 338 20 [(0, .ref a0), (1, g_n v1), (2, g_n v2)] [] M (g_qI Q) := by
  refine g_Run.ok fun hok => ?_
  replace h := h hok
  refine r_iload_n x_338_20 rfl ?_
  refine r_aload_n x_338_21 rfl ?_
  obtain ⟨hO1, h⟩ := h
  refine r_getI x_338_22 rfl (ci := 12) (k := 23) (ns := 0) (by decide +kernel) (by decide) rfl (kz := 23) rfl hO1 ?_
  refine r_ic_ge x_338_25 (t := 73) (by decide +kernel) hv2 (hok.1 _ _) (fun hc => ?_) (fun hc => ?_)
  · replace h := h.2 hc
    refine r_iload_n x_338_73 rfl ?_
    refine r_ldcw x_338_74 (v := g_n 40000) rfl ?_
    refine r_ic_le x_338_77 (t := 82) (by decide +kernel) hv1 (g_Rk rfl) (fun hc => ?_) (fun hc => ?_)
    · replace h := h.2 hc
      refine r_aload_n x_338_82 rfl ?_
      refine r_aload_n x_338_83 rfl ?_
      refine r_getI x_338_84 rfl (ci := 12) (k := 23) (ns := 0) (by decide +kernel) (by decide) rfl (kz := 23) rfl hO1 ?_
      refine r_putI x_338_87 (ci := 12) (k := 19) (ns := 0) (by decide +kernel) (by decide) (g_f0 (by decide +kernel)) rfl (hok.1 _ _) trivial (kz := 19) rfl hO1 ?_
      obtain ⟨M2, hM3⟩ : ∃ Mz, Mz = g_wi M a0 19 (g_i M a0 23) := ⟨_, rfl⟩
      rw [← hM3]
      refine g_Run.ok fun hok4 => ?_
      replace h := h M2 hM3 hok4
      have hx5 := g_extW hM3
      replace hO1 := hO1.up hx5
      refine r_iconst x_338_90 ?_
      refine r_istore_n x_338_91 (by decide +kernel) rfl (lv1 := [(0, .ref a0), (1, g_n v1), (2, g_n 0)]) rfl ?_
      exact h
    · replace h := h.1 hc
      refine r_iconst x_338_80 ?_
      exact r_retI x_338_81 rfl (g_Rk rfl) h
  · replace h := h.1 hc
    refine r_aload_n x_338_28 rfl ?_
    refine r_aload_n x_338_29 rfl ?_
    obtain ⟨b6, hb7, h⟩ := h
    refine r_getR x_338_30 rfl (ci := 12) (k := 22) (ns := 0) (by decide +kernel) (by decide) rfl (kz := 22) rfl hO1 hb7 ?_
    refine r_iload_n x_338_33 rfl ?_
    obtain ⟨n8, hA9, h⟩ := h
    obtain ⟨h10, h⟩ := h
    refine r_iald x_338_34 hA9 hv2 h10.1 h10.2 ?_
    refine r_invV x_338_35 (z := 227) (ns := 0) (by decide +kernel) (as := [g_n (g_i M b6 v2)]) (r := []) rfl rfl rfl hO1 rfl rfl ?_
    refine r_callI h fun r14 M11 hx12 hok13 hr15 h => ?_
    replace h := h hx12 hok13 hr15
    replace hO1 := hO1.up hx12
    replace hA9 := hA9.up hx12
    refine r_istore_n x_338_38 (by decide +kernel) rfl (lv1 := [(0, .ref a0), (1, g_n v1), (2, g_n v2), (3, g_n r14)]) rfl ?_
    refine r_iload_n x_338_39 rfl ?_
    refine r_iload_n x_338_40 rfl ?_
    refine r_iadd x_338_41 ?_
    obtain ⟨h16, h⟩ := h
    refine r_istore_n x_338_42 (by decide +kernel) rfl (lv1 := [(0, .ref a0), (1, g_n (v1 + r14)), (2, g_n v2), (3, g_n r14)]) rfl ?_
    refine r_iload_n x_338_43 rfl ?_
    refine r_sipush x_338_44 (x := 2000) rfl ?_
    refine r_ic_gt x_338_47 (t := 65) (by decide +kernel) hr15 (g_Rk rfl) (fun hc => ?_) (fun hc => ?_)
    · replace h := h.1 hc
      refine r_iconst x_338_65 ?_
      exact r_retI x_338_66 rfl (g_Rk rfl) h
    · replace h := h.2 hc
      refine r_aload_n x_338_50 rfl ?_
      refine r_aload_n x_338_51 rfl ?_
      obtain ⟨b17, hb18, h⟩ := h
      refine r_getR x_338_52 rfl (ci := 12) (k := 22) (ns := 0) (by decide +kernel) (by decide) rfl (kz := 22) rfl hO1 hb18 ?_
      refine r_iload_n x_338_55 rfl ?_
      obtain ⟨n19, hA20, h⟩ := h
      obtain ⟨h21, h⟩ := h
      refine r_iald x_338_56 hA20 hv2 h21.1 h21.2 ?_
      refine r_invV x_338_57 (z := 244) (ns := 0) (by decide +kernel) (as := [g_n (g_i M11 b17 v2)]) (r := []) rfl rfl rfl hO1 rfl rfl ?_
      refine r_callI h fun r25 M22 hx23 hok24 hr26 h => ?_
      replace h := h hx23 hok24 hr26
      replace hO1 := hO1.up hx23
      replace hA9 := hA9.up hx23
      replace hA20 := hA20.up hx23
      refine r_bipush x_338_60 (x := 16) rfl ?_
      refine r_ic_le x_338_62 (t := 67) (by decide +kernel) hr26 (g_Rk rfl) (fun hc => ?_) (fun hc => ?_)
      · replace h := h.2 hc
        obtain ⟨h27, h⟩ := h
        refine r_iinc x_338_67 (by decide +kernel) rfl rfl (lv1 := [(0, .ref a0), (1, g_n (v1 + r14)), (2, g_n (v2 + 1)), (3, g_n r14)]) rfl ?_
        refine r_goto x_338_70 (t := 20) (by decide +kernel) ?_
        refine g_drop [0, 1, 2] (lv1 := [(0, .ref a0), (1, g_n (v1 + r14)), (2, g_n (v2 + 1))]) rfl ?_
        exact h
      · replace h := h.1 hc
        refine r_iconst x_338_65 ?_
        exact r_retI x_338_66 rfl (g_Rk rfl) h
theorem s_X12_endMaking_92 {d : Nat} {M : g_M} {Q : Int → g_M → Prop} {a0 : Nat} {v1 : Int} (hv1 : g_InR v1) {v2 : Int} (hv2 : g_InR v2) (h : g_ok M → g_O M a0 12 ∧ ((v2 < g_i M a0 23 → ∃ b2, g_r M a0 18 = some b2 ∧ ∃ b4, g_r M a0 22 = some b4 ∧ ∃ n6, g_A M b4 1 n6 ∧ ((0 : Int) ≤ v2 ∧ (v2 : Int) < n6) ∧ ∃ n9, g_A M b2 1 n9 ∧ ((0 : Int) ≤ v2 ∧ (v2 : Int) < n9) ∧ (∀ M12, M12 = g_wi M b2 v2 (g_i M b4 v2) → g_ok M12 → g_InR (v2 + 1) ∧ g_Run d 338 92 [(0, .ref a0), (1, g_n v1), (2, g_n (v2 + 1))] [] M12 (g_qI Q))) ∧ (¬ v2 < g_i M a0 23 → Q 0 M))) : g_Run d 338 92 [(0, .ref a0), (1, g_n v1), (2, g_n v2)] [] M (g_qI Q) := by
  refine g_Run.ok fun hok => ?_
  replace h := h hok
  refine r_iload_n x_338_92 rfl ?_
  refine r_aload_n x_338_93 rfl ?_
  obtain ⟨hO1, h⟩ := h
  refine r_getI x_338_94 rfl (ci := 12) (k := 23) (ns := 0) (by decide +kernel) (by decide) rfl (kz := 23) rfl hO1 ?_
  refine r_ic_ge x_338_97 (t := 118) (by decide +kernel) hv2 (hok.1 _ _) (fun hc => ?_) (fun hc => ?_)
  · replace h := h.2 hc
    refine r_iconst x_338_118 ?_
    exact r_retI x_338_119 rfl (g_Rk rfl) h
  · replace h := h.1 hc
    refine r_aload_n x_338_100 rfl ?_
    obtain ⟨b2, hb3, h⟩ := h
    refine r_getR x_338_101 rfl (ci := 12) (k := 18) (ns := 0) (by decide +kernel) (by decide) rfl (kz := 18) rfl hO1 hb3 ?_
    refine r_iload_n x_338_104 rfl ?_
    refine r_aload_n x_338_105 rfl ?_
    obtain ⟨b4, hb5, h⟩ := h
    refine r_getR x_338_106 rfl (ci := 12) (k := 22) (ns := 0) (by decide +kernel) (by decide) rfl (kz := 22) rfl hO1 hb5 ?_
    refine r_iload_n x_338_109 rfl ?_
    obtain ⟨n6, hA7, h⟩ := h
    obtain ⟨h8, h⟩ := h
    refine r_iald x_338_110 hA7 hv2 h8.1 h8.2 ?_
    obtain ⟨n9, hA10, h⟩ := h
    obtain ⟨h11, h⟩ := h
    refine r_iast x_338_111 hA10 hv2 h11.1 h11.2 (hok.1 _ _) ?_
    obtain ⟨M12, hM13⟩ : ∃ Mz, Mz = g_wi M b2 v2 (g_i M b4 v2) := ⟨_, rfl⟩
    rw [← hM13]
    refine g_Run.ok fun hok14 => ?_
    replace h := h M12 hM13 hok14
    have hx15 := g_extW hM13
    replace hO1 := hO1.up hx15
    replace hA7 := hA7.up hx15
    replace hA10 := hA10.up hx15
    obtain ⟨h16, h⟩ := h
    refine r_iinc x_338_112 (by decide +kernel) rfl rfl (lv1 := [(0, .ref a0), (1, g_n v1), (2, g_n (v2 + 1))]) rfl ?_
    refine r_goto x_338_115 (t := 92) (by decide +kernel) ?_
    exact h
theorem m_X12_stage {d : Nat} {M : g_M} {Q : Int → g_M → Prop} {a0 : Nat} {v1 : Int} (hv1 : g_InR v1) (h : g_ok M → g_O M a0 12 ∧ g_Call d 236 [.ref a0, g_n v1, .ref (4 * 121 + 1)] M (g_qI fun r5 M2 => g_ext M M2 → g_ok M2 → g_InR r5 → ((r5 = 0 → g_Call d 236 [.ref a0, g_n v1, .ref (4 * 122 + 1)] M2 (g_qI fun r10 M7 => g_ext M2 M7 → g_ok M7 → g_InR r10 → ((r10 = 0 → g_Call d 236 [.ref a0, g_n v1, .ref (4 * 123 + 1)] M7 (g_qI fun r15 M12 => g_ext M7 M12 → g_ok M12 → g_InR r15 → ((r15 = 0 → g_Call d 337 [.ref a0] M12 (g_qV fun M17 => g_ext M12 M17 → g_ok M17 → g_Call d 236 [.ref a0, g_n v1, .ref (4 * 111 + 1)] M17 (g_qI fun r23 M20 => g_ext M17 M20 → g_ok M20 → g_InR r23 → ((r23 = 0 → g_Run d 339 169 [(0, .ref a0), (1, g_n v1), (2, g_n 0)] [] M20 (g_qI Q)) ∧ (¬ r23 = 0 → g_Call d 233 [.ref a0, g_n v1] M20 (g_qI fun r28 M25 => g_ext M20 M25 → g_ok M25 → g_InR r28 → g_Call d 348 [.ref a0, g_n r28] M25 (g_qI fun r33 M30 => g_ext M25 M30 → g_ok M30 → g_InR r33 → ((r33 = 0 → Q 4 M30) ∧ (¬ r33 = 0 → g_Call d 338 [.ref a0] M30 (g_qI fun r38 M35 => g_ext M30 M35 → g_ok M35 → g_InR r38 → Q r38 M35)))))))))) ∧ (¬ r15 = 0 → g_Run d 339 43 [(0, .ref a0), (1, g_n v1)] [] M12 (g_qI Q))))) ∧ (¬ r10 = 0 → g_Run d 339 43 [(0, .ref a0), (1, g_n v1)] [] M7 (g_qI Q))))) ∧ (¬ r5 = 0 → g_Call d 233 [.ref a0, g_n v1] M2 (g_qI fun r43 M40 => g_ext M2 M40 → g_ok M40 → g_InR r43 → g_Call d 356 [.ref a0, g_n r43] M40 (g_qI fun r48 M45 => g_ext M40 M45 → g_ok M45 → g_InR r48 → Q r48 M45)))))) : g_Call (d + 1) 339 [.ref a0, g_n v1] M (g_qI Q) := by
  refine g_Call.ok fun hok0 => ?_
  replace h := h hok0
  refine r_body rfl (lv := [(0, .ref a0), (1, g_n v1)]) rfl ?_
  refine g_Run.ok fun hok => ?_
  refine r_aload_n x_339_0 rfl ?_
  refine r_iload_n x_339_1 rfl ?_
  refine r_ldcw x_339_2 (v := .ref (4 * 121 + 1)) rfl ?_
  obtain ⟨hO1, h⟩ := h
  refine r_invV x_339_5 (z := 236) (ns := 0) (by decide +kernel) (as := [g_n v1, .ref (4 * 121 + 1)]) (r := []) rfl rfl rfl hO1 rfl rfl ?_
  refine r_callI h fun r5 M2 hx3 hok4 hr6 h => ?_
  replace h := h hx3 hok4 hr6
  replace hO1 := hO1.up hx3
  refine r_if_eq x_339_8 (t := 21) (by decide +kernel) hr6 (fun hc => ?_) (fun hc => ?_)
  · replace h := h.1 hc
    refine r_aload_n x_339_21 rfl ?_
    refine r_iload_n x_339_22 rfl ?_
    refine r_ldcw x_339_23 (v := .ref (4 * 122 + 1)) rfl ?_
    refine r_invV x_339_26 (z := 236) (ns := 0) (by decide +kernel) (as := [g_n v1, .ref (4 * 122 + 1)]) (r := []) rfl rfl rfl hO1 rfl rfl ?_
    refine r_callI h fun r10 M7 hx8 hok9 hr11 h => ?_
    replace h := h hx8 hok9 hr11
    replace hO1 := hO1.up hx8
    refine r_if_ne x_339_29 (t := 43) (by decide +kernel) hr11 (fun hc => ?_) (fun hc => ?_)
    · replace h := h.2 hc
      exact h
    · replace h := h.1 hc
      refine r_aload_n x_339_32 rfl ?_
      refine r_iload_n x_339_33 rfl ?_
      refine r_ldcw x_339_34 (v := .ref (4 * 123 + 1)) rfl ?_
      refine r_invV x_339_37 (z := 236) (ns := 0) (by decide +kernel) (as := [g_n v1, .ref (4 * 123 + 1)]) (r := []) rfl rfl rfl hO1 rfl rfl ?_
      refine r_callI h fun r15 M12 hx13 hok14 hr16 h => ?_
      replace h := h hx13 hok14 hr16
      replace hO1 := hO1.up hx13
      refine r_if_eq x_339_40 (t := 131) (by decide +kernel) hr16 (fun hc => ?_) (fun hc => ?_)
      · replace h := h.1 hc
        refine r_aload_n x_339_131 rfl ?_
        refine r_invV x_339_132 (z := 337) (ns := 0) (by decide +kernel) (as := []) (r := []) rfl rfl rfl hO1 rfl rfl ?_
        refine r_callV h fun M17 hx18 hok19 h => ?_
        replace h := h hx18 hok19
        replace hO1 := hO1.up hx18
        refine r_aload_n x_339_135 rfl ?_
        refine r_iload_n x_339_136 rfl ?_
        refine r_ldcw x_339_137 (v := .ref (4 * 111 + 1)) rfl ?_
        refine r_invV x_339_140 (z := 236) (ns := 0) (by decide +kernel) (as := [g_n v1, .ref (4 * 111 + 1)]) (r := []) rfl rfl rfl hO1 rfl rfl ?_
        refine r_callI h fun r23 M20 hx21 hok22 hr24 h => ?_
        replace h := h hx21 hok22 hr24
        replace hO1 := hO1.up hx21
        refine r_if_eq x_339_143 (t := 167) (by decide +kernel) hr24 (fun hc => ?_) (fun hc => ?_)
        · replace h := h.1 hc
          refine r_iconst x_339_167 ?_
          refine r_istore_n x_339_168 (by decide +kernel) rfl (lv1 := [(0, .ref a0), (1, g_n v1), (2, g_n 0)]) rfl ?_
          exact h
        · replace h := h.2 hc
          refine r_aload_n x_339_146 rfl ?_
          refine r_aload_n x_339_147 rfl ?_
          refine r_iload_n x_339_148 rfl ?_
          refine r_invV x_339_149 (z := 233) (ns := 0) (by decide +kernel) (as := [g_n v1]) (r := [.ref a0]) rfl rfl rfl hO1 rfl rfl ?_
          refine r_callI h fun r28 M25 hx26 hok27 hr29 h => ?_
          replace h := h hx26 hok27 hr29
          replace hO1 := hO1.up hx26
          refine r_invV x_339_152 (z := 348) (ns := 0) (by decide +kernel) (as := [g_n r28]) (r := []) rfl rfl rfl hO1 rfl rfl ?_
          refine r_callI h fun r33 M30 hx31 hok32 hr34 h => ?_
          replace h := h hx31 hok32 hr34
          replace hO1 := hO1.up hx31
          refine r_if_eq x_339_155 (t := 165) (by decide +kernel) hr34 (fun hc => ?_) (fun hc => ?_)
          · replace h := h.1 hc
            refine r_iconst x_339_165 ?_
            exact r_retI x_339_166 rfl (g_Rk rfl) h
          · replace h := h.2 hc
            refine r_aload_n x_339_158 rfl ?_
            refine r_invV x_339_159 (z := 338) (ns := 0) (by decide +kernel) (as := []) (r := []) rfl rfl rfl hO1 rfl rfl ?_
            refine r_callI h fun r38 M35 hx36 hok37 hr39 h => ?_
            replace h := h hx36 hok37 hr39
            replace hO1 := hO1.up hx36
            refine r_goto x_339_162 (t := 166) (by decide +kernel) ?_
            exact r_retI x_339_166 rfl hr39 h
      · replace h := h.2 hc
        exact h
  · replace h := h.2 hc
    refine r_aload_n x_339_11 rfl ?_
    refine r_aload_n x_339_12 rfl ?_
    refine r_iload_n x_339_13 rfl ?_
    refine r_invV x_339_14 (z := 233) (ns := 0) (by decide +kernel) (as := [g_n v1]) (r := [.ref a0]) rfl rfl rfl hO1 rfl rfl ?_
    refine r_callI h fun r43 M40 hx41 hok42 hr44 h => ?_
    replace h := h hx41 hok42 hr44
    replace hO1 := hO1.up hx41
    refine r_invV x_339_17 (z := 356) (ns := 0) (by decide +kernel) (as := [g_n r43]) (r := []) rfl rfl rfl hO1 rfl rfl ?_
    refine r_callI h fun r48 M45 hx46 hok47 hr49 h => ?_
    replace h := h hx46 hok47 hr49
    replace hO1 := hO1.up hx46
    exact r_retI x_339_20 rfl hr49 h
theorem s_X12_stage_43 {d : Nat} {M : g_M} {Q : Int → g_M → Prop} {a0 : Nat} {v1 : Int} (hv1 : g_InR v1) (h : g_ok M → g_O M a0 12 ∧ g_Call d 243 [.ref a0, g_n v1] M (g_qL fun R5 M2 => g_ext M M2 → g_ok M2 → ((0 < g_lc R5 (Int64.ofInt (g_i M2 a0 19)) → g_Run d 339 70 [(0, .ref a0), (1, g_n v1)] [g_n (g_i M2 a0 19)] M2 (g_qI Q)) ∧ (¬ 0 < g_lc R5 (Int64.ofInt (g_i M2 a0 19)) → g_Call d 243 [.ref a0, g_n v1] M2 (g_qL fun R9 M6 => g_ext M2 M6 → g_ok M6 → g_Run d 339 70 [(0, .ref a0), (1, g_n v1)] [g_n R9.toInt32.toInt] M6 (g_qI Q)))))) : g_Run d 339 43 [(0, .ref a0), (1, g_n v1)] [] M (g_qI Q) := by
  refine g_Run.ok fun hok => ?_
  replace h := h hok
  refine r_aload_n x_339_43 rfl ?_
  refine r_iload_n x_339_44 rfl ?_
  obtain ⟨hO1, h⟩ := h
  refine r_invV x_339_45 (z := 243) (ns := 0) (by decide +kernel) (as := [g_n v1]) (r := []) rfl rfl rfl hO1 rfl rfl ?_
  refine r_callL h fun R5 M2 hx3 hok4 h => ?_
  replace h := h hx3 hok4
  replace hO1 := hO1.up hx3
  refine r_aload_n x_339_48 rfl ?_
  refine r_getI x_339_49 rfl (ci := 12) (k := 19) (ns := 0) (by decide +kernel) (by decide) rfl (kz := 19) rfl hO1 ?_
  refine r_i2l x_339_52 (hok4.1 _ _) ?_
  refine r_lcmp x_339_53 ?_
  refine r_if_le x_339_54 (t := 64) (by decide +kernel) (g_InR_toInt _) (fun hc => ?_) (fun hc => ?_)
  · replace h := h.2 hc
    refine r_aload_n x_339_64 rfl ?_
    refine r_iload_n x_339_65 rfl ?_
    refine r_invV x_339_66 (z := 243) (ns := 0) (by decide +kernel) (as := [g_n v1]) (r := []) rfl rfl rfl hO1 rfl rfl ?_
    refine r_callL h fun R9 M6 hx7 hok8 h => ?_
    replace h := h hx7 hok8
    replace hO1 := hO1.up hx7
    refine r_l2i x_339_69 ?_
    exact h
  · replace h := h.1 hc
    refine r_aload_n x_339_57 rfl ?_
    refine r_getI x_339_58 rfl (ci := 12) (k := 19) (ns := 0) (by decide +kernel) (by decide) rfl (kz := 19) rfl hO1 ?_
    refine r_goto x_339_61 (t := 70) (by decide +kernel) ?_
    exact h
theorem s_X12_stage_70 {d : Nat} {M : g_M} {Q : Int → g_M → Prop} {a0 : Nat} {v1 : Int} (hv1 : g_InR v1) {w0 : Int} (hw0 : g_InR w0) (h : g_ok M → g_O M a0 12 ∧ g_Call d 236 [.ref a0, g_n v1, .ref (4 * 123 + 1)] M (g_qI fun r5 M2 => g_ext M M2 → g_ok M2 → g_InR r5 → ((r5 = 0 → g_InR ((g_i M2 a0 19) - w0) ∧ (∀ M8, M8 = g_wi M2 a0 19 ((g_i M2 a0 19) - w0) → g_ok M8 → g_Run d 339 101 [(0, .ref a0), (1, g_n v1), (2, g_n w0), (3, g_n 0)] [] M8 (g_qI Q))) ∧ (¬ r5 = 0 → (∀ M12, M12 = g_wi M2 a0 19 w0 → g_ok M12 → Q 0 M12))))) : g_Run d 339 70 [(0, .ref a0), (1, g_n v1)] [g_n w0] M (g_qI Q) := by
  refine g_Run.ok fun hok => ?_
  replace h := h hok
  refine r_istore_n x_339_70 (by decide +kernel) rfl (lv1 := [(0, .ref a0), (1, g_n v1), (2, g_n w0)]) rfl ?_
  refine r_aload_n x_339_71 rfl ?_
  refine r_iload_n x_339_72 rfl ?_
  refine r_ldcw x_339_73 (v := .ref (4 * 123 + 1)) rfl ?_
  obtain ⟨hO1, h⟩ := h
  refine r_invV x_339_76 (z := 236) (ns := 0) (by decide +kernel) (as := [g_n v1, .ref (4 * 123 + 1)]) (r := []) rfl rfl rfl hO1 rfl rfl ?_
  refine r_callI h fun r5 M2 hx3 hok4 hr6 h => ?_
  replace h := h hx3 hok4 hr6
  replace hO1 := hO1.up hx3
  refine r_if_eq x_339_79 (t := 89) (by decide +kernel) hr6 (fun hc => ?_) (fun hc => ?_)
  · replace h := h.1 hc
    refine r_aload_n x_339_89 rfl ?_
    refine r_dup x_339_90 rfl ?_
    refine r_getI x_339_91 rfl (ci := 12) (k := 19) (ns := 0) (by decide +kernel) (by decide) rfl (kz := 19) rfl hO1 ?_
    refine r_iload_n x_339_94 rfl ?_
    refine r_isub x_339_95 ?_
    obtain ⟨h7, h⟩ := h
    refine r_putI x_339_96 (ci := 12) (k := 19) (ns := 0) (by decide +kernel) (by decide) (g_f0 (by decide +kernel)) rfl h7 trivial (kz := 19) rfl hO1 ?_
    obtain ⟨M8, hM9⟩ : ∃ Mz, Mz = g_wi M2 a0 19 ((g_i M2 a0 19) - w0) := ⟨_, rfl⟩
    rw [← hM9]
    refine g_Run.ok fun hok10 => ?_
    replace h := h M8 hM9 hok10
    have hx11 := g_extW hM9
    replace hO1 := hO1.up hx11
    refine r_iconst x_339_99 ?_
    refine r_istore_n x_339_100 (by decide +kernel) rfl (lv1 := [(0, .ref a0), (1, g_n v1), (2, g_n w0), (3, g_n 0)]) rfl ?_
    exact h
  · replace h := h.2 hc
    refine r_aload_n x_339_82 rfl ?_
    refine r_iload_n x_339_83 rfl ?_
    refine r_putI x_339_84 (ci := 12) (k := 19) (ns := 0) (by decide +kernel) (by decide) (g_f0 (by decide +kernel)) rfl hw0 trivial (kz := 19) rfl hO1 ?_
    obtain ⟨M12, hM13⟩ : ∃ Mz, Mz = g_wi M2 a0 19 w0 := ⟨_, rfl⟩
    rw [← hM13]
    refine g_Run.ok fun hok14 => ?_
    replace h := h M12 hM13 hok14
    have hx15 := g_extW hM13
    replace hO1 := hO1.up hx15
    refine r_iconst x_339_87 ?_
    exact r_retI x_339_88 rfl (g_Rk rfl) h
theorem s_X12_stage_101 {d : Nat} {M : g_M} {Q : Int → g_M → Prop} {a0 : Nat} {v1 : Int} (hv1 : g_InR v1) {v2 : Int} (hv2 : g_InR v2) {v3 : Int} (hv3 : g_InR v3) (h : g_ok M → g_O M a0 12 ∧ ((v3 < g_i M a0 19 → ∃ b2, g_r M a0 18 = some b2 ∧ ∃ b4, g_r M a0 18 = some b4 ∧ g_InR (v3 + v2) ∧ ∃ n7, g_A M b4 1 n7 ∧ ((0 : Int) ≤ v3 + v2 ∧ (v3 + v2 : Int) < n7) ∧ ∃ n10, g_A M b2 1 n10 ∧ ((0 : Int) ≤ v3 ∧ (v3 : Int) < n10) ∧ (∀ M13, M13 = g_wi M b2 v3 (g_i M b4 (v3 + v2)) → g_ok M13 → g_InR (v3 + 1) ∧ g_Run d 339 101 [(0, .ref a0), (1, g_n v1), (2, g_n v2), (3, g_n (v3 + 1))] [] M13 (g_qI Q))) ∧ (¬ v3 < g_i M a0 19 → Q 0 M))) : g_Run d 339 101 [(0, .ref a0), (1, g_n v1), (2, g_n v2), (3, g_n v3)] [] M (g_qI Q) := by
  refine g_Run.ok fun hok => ?_
  replace h := h hok
  refine r_iload_n x_339_101 rfl ?_
  refine r_aload_n x_339_102 rfl ?_
  obtain ⟨hO1, h⟩ := h
  refine r_getI x_339_103 rfl (ci := 12) (k := 19) (ns := 0) (by decide +kernel) (by decide) rfl (kz := 19) rfl hO1 ?_
  refine r_ic_ge x_339_106 (t := 129) (by decide +kernel) hv3 (hok.1 _ _) (fun hc => ?_) (fun hc => ?_)
  · replace h := h.2 hc
    refine r_iconst x_339_129 ?_
    exact r_retI x_339_130 rfl (g_Rk rfl) h
  · replace h := h.1 hc
    refine r_aload_n x_339_109 rfl ?_
    obtain ⟨b2, hb3, h⟩ := h
    refine r_getR x_339_110 rfl (ci := 12) (k := 18) (ns := 0) (by decide +kernel) (by decide) rfl (kz := 18) rfl hO1 hb3 ?_
    refine r_iload_n x_339_113 rfl ?_
    refine r_aload_n x_339_114 rfl ?_
    obtain ⟨b4, hb5, h⟩ := h
    refine r_getR x_339_115 rfl (ci := 12) (k := 18) (ns := 0) (by decide +kernel) (by decide) rfl (kz := 18) rfl hO1 hb5 ?_
    refine r_iload_n x_339_118 rfl ?_
    refine r_iload_n x_339_119 rfl ?_
    refine r_iadd x_339_120 ?_
    obtain ⟨h6, h⟩ := h
    obtain ⟨n7, hA8, h⟩ := h
    obtain ⟨h9, h⟩ := h
    refine r_iald x_339_121 hA8 h6 h9.1 h9.2 ?_
    obtain ⟨n10, hA11, h⟩ := h
    obtain ⟨h12, h⟩ := h
    refine r_iast x_339_122 hA11 hv3 h12.1 h12.2 (hok.1 _ _) ?_
    obtain ⟨M13, hM14⟩ : ∃ Mz, Mz = g_wi M b2 v3 (g_i M b4 (v3 + v2)) := ⟨_, rfl⟩
    rw [← hM14]
    refine g_Run.ok fun hok15 => ?_
    replace h := h M13 hM14 hok15
    have hx16 := g_extW hM14
    replace hO1 := hO1.up hx16
    replace hA8 := hA8.up hx16
    replace hA11 := hA11.up hx16
    obtain ⟨h17, h⟩ := h
    refine r_iinc x_339_123 (by decide +kernel) rfl rfl (lv1 := [(0, .ref a0), (1, g_n v1), (2, g_n v2), (3, g_n (v3 + 1))]) rfl ?_
    refine r_goto x_339_126 (t := 101) (by decide +kernel) ?_
    exact h
theorem s_X12_stage_169 {d : Nat} {M : g_M} {Q : Int → g_M → Prop} {a0 : Nat} {v1 : Int} (hv1 : g_InR v1) {v2 : Int} (hv2 : g_InR v2) (h : g_ok M → g_O M a0 12 ∧ ((v2 < g_i M a0 19 → g_Call d 236 [.ref a0, g_n v1, .ref (4 * 109 + 1)] M (g_qI fun r10 M7 => g_ext M M7 → g_ok M7 → g_InR r10 → ((r10 = 0 → g_Call d 236 [.ref a0, g_n v1, .ref (4 * 110 + 1)] M7 (g_qI fun r15 M12 => g_ext M7 M12 → g_ok M12 → g_InR r15 → ((r15 = 0 → g_Call d 233 [.ref a0, g_n v1] M12 (g_qI fun r20 M17 => g_ext M12 M17 → g_ok M17 → g_InR r20 → ∃ b22, g_r M17 a0 18 = some b22 ∧ ∃ n24, g_A M17 b22 1 n24 ∧ ((0 : Int) ≤ v2 ∧ (v2 : Int) < n24) ∧ g_Call d 344 [.ref a0, g_n r20, g_n (g_i M17 b22 v2)] M17 (g_qV fun M27 => g_ext M17 M27 → g_ok M27 → g_InR (v2 + 1) ∧ g_Run d 339 169 [(0, .ref a0), (1, g_n v1), (2, g_n (v2 + 1))] [] M27 (g_qI Q)))) ∧ (¬ r15 = 0 → ∃ b31, g_r M12 a0 18 = some b31 ∧ ∃ n33, g_A M12 b31 1 n33 ∧ ((0 : Int) ≤ v2 ∧ (v2 : Int) < n33) ∧ g_Call d 342 [.ref a0, g_n v1, g_n (g_i M12 b31 v2)] M12 (g_qV fun M36 => g_ext M12 M36 → g_ok M36 → g_InR (v2 + 1) ∧ g_Run d 339 169 [(0, .ref a0), (1, g_n v1), (2, g_n (v2 + 1))] [] M36 (g_qI Q)))))) ∧ (¬ r10 = 0 → g_Call d 233 [.ref a0, g_n v1] M7 (g_qI fun r43 M40 => g_ext M7 M40 → g_ok M40 → g_InR r43 → ∃ b45, g_r M40 a0 18 = some b45 ∧ ∃ n47, g_A M40 b45 1 n47 ∧ ((0 : Int) ≤ v2 ∧ (v2 : Int) < n47) ∧ g_Call d 340 [.ref a0, g_n r43, g_n (g_i M40 b45 v2)] M40 (g_qV fun M50 => g_ext M40 M50 → g_ok M50 → g_InR (v2 + 1) ∧ g_Run d 339 169 [(0, .ref a0), (1, g_n v1), (2, g_n (v2 + 1))] [] M50 (g_qI Q))))))) ∧ (¬ v2 < g_i M a0 19 → g_Call d 338 [.ref a0] M (g_qI fun r5 M2 => g_ext M M2 → g_ok M2 → g_InR r5 → Q r5 M2)))) : g_Run d 339 169 [(0, .ref a0), (1, g_n v1), (2, g_n v2)] [] M (g_qI Q) := by
  refine g_Run.ok fun hok => ?_
  replace h := h hok
  refine r_iload_n x_339_169 rfl ?_
  refine r_aload_n x_339_170 rfl ?_
  obtain ⟨hO1, h⟩ := h
  refine r_getI x_339_171 rfl (ci := 12) (k := 19) (ns := 0) (by decide +kernel) (by decide) rfl (kz := 19) rfl hO1 ?_
  refine r_ic_ge x_339_174 (t := 252) (by decide +kernel) hv2 (hok.1 _ _) (fun hc => ?_) (fun hc => ?_)
  · replace h := h.2 hc
    refine r_aload_n x_339_252 rfl ?_
    refine r_invV x_339_253 (z := 338) (ns := 0) (by decide +kernel) (as := []) (r := []) rfl rfl rfl hO1 rfl rfl ?_
    refine r_callI h fun r5 M2 hx3 hok4 hr6 h => ?_
    replace h := h hx3 hok4 hr6
    replace hO1 := hO1.up hx3
    exact r_retI x_339_256 rfl hr6 h
  · replace h := h.1 hc
    refine r_aload_n x_339_177 rfl ?_
    refine r_iload_n x_339_178 rfl ?_
    refine r_ldcw x_339_179 (v := .ref (4 * 109 + 1)) rfl ?_
    refine r_invV x_339_182 (z := 236) (ns := 0) (by decide +kernel) (as := [g_n v1, .ref (4 * 109 + 1)]) (r := []) rfl rfl rfl hO1 rfl rfl ?_
    refine r_callI h fun r10 M7 hx8 hok9 hr11 h => ?_
    replace h := h hx8 hok9 hr11
    replace hO1 := hO1.up hx8
    refine r_if_eq x_339_185 (t := 206) (by decide +kernel) hr11 (fun hc => ?_) (fun hc => ?_)
    · replace h := h.1 hc
      refine r_aload_n x_339_206 rfl ?_
      refine r_iload_n x_339_207 rfl ?_
      refine r_ldcw x_339_208 (v := .ref (4 * 110 + 1)) rfl ?_
      refine r_invV x_339_211 (z := 236) (ns := 0) (by decide +kernel) (as := [g_n v1, .ref (4 * 110 + 1)]) (r := []) rfl rfl rfl hO1 rfl rfl ?_
      refine r_callI h fun r15 M12 hx13 hok14 hr16 h => ?_
      replace h := h hx13 hok14 hr16
      replace hO1 := hO1.up hx13
      refine r_if_eq x_339_214 (t := 231) (by decide +kernel) hr16 (fun hc => ?_) (fun hc => ?_)
      · replace h := h.1 hc
        refine r_aload_n x_339_231 rfl ?_
        refine r_aload_n x_339_232 rfl ?_
        refine r_iload_n x_339_233 rfl ?_
        refine r_invV x_339_234 (z := 233) (ns := 0) (by decide +kernel) (as := [g_n v1]) (r := [.ref a0]) rfl rfl rfl hO1 rfl rfl ?_
        refine r_callI h fun r20 M17 hx18 hok19 hr21 h => ?_
        replace h := h hx18 hok19 hr21
        replace hO1 := hO1.up hx18
        refine r_aload_n x_339_237 rfl ?_
        obtain ⟨b22, hb23, h⟩ := h
        refine r_getR x_339_238 rfl (ci := 12) (k := 18) (ns := 0) (by decide +kernel) (by decide) rfl (kz := 18) rfl hO1 hb23 ?_
        refine r_iload_n x_339_241 rfl ?_
        obtain ⟨n24, hA25, h⟩ := h
        obtain ⟨h26, h⟩ := h
        refine r_iald x_339_242 hA25 hv2 h26.1 h26.2 ?_
        refine r_invV x_339_243 (z := 344) (ns := 0) (by decide +kernel) (as := [g_n r20, g_n (g_i M17 b22 v2)]) (r := []) rfl rfl rfl hO1 rfl rfl ?_
        refine r_callV h fun M27 hx28 hok29 h => ?_
        replace h := h hx28 hok29
        replace hO1 := hO1.up hx28
        replace hA25 := hA25.up hx28
        obtain ⟨h30, h⟩ := h
        refine r_iinc x_339_246 (by decide +kernel) rfl rfl (lv1 := [(0, .ref a0), (1, g_n v1), (2, g_n (v2 + 1))]) rfl ?_
        refine r_goto x_339_249 (t := 169) (by decide +kernel) ?_
        exact h
      · replace h := h.2 hc
        refine r_aload_n x_339_217 rfl ?_
        refine r_iload_n x_339_218 rfl ?_
        refine r_aload_n x_339_219 rfl ?_
        obtain ⟨b31, hb32, h⟩ := h
        refine r_getR x_339_220 rfl (ci := 12) (k := 18) (ns := 0) (by decide +kernel) (by decide) rfl (kz := 18) rfl hO1 hb32 ?_
        refine r_iload_n x_339_223 rfl ?_
        obtain ⟨n33, hA34, h⟩ := h
        obtain ⟨h35, h⟩ := h
        refine r_iald x_339_224 hA34 hv2 h35.1 h35.2 ?_
        refine r_invV x_339_225 (z := 342) (ns := 0) (by decide +kernel) (as := [g_n v1, g_n (g_i M12 b31 v2)]) (r := []) rfl rfl rfl hO1 rfl rfl ?_
        refine r_callV h fun M36 hx37 hok38 h => ?_
        replace h := h hx37 hok38
        replace hO1 := hO1.up hx37
        replace hA34 := hA34.up hx37
        refine r_goto x_339_228 (t := 246) (by decide +kernel) ?_
        obtain ⟨h39, h⟩ := h
        refine r_iinc x_339_246 (by decide +kernel) rfl rfl (lv1 := [(0, .ref a0), (1, g_n v1), (2, g_n (v2 + 1))]) rfl ?_
        refine r_goto x_339_249 (t := 169) (by decide +kernel) ?_
        exact h
    · replace h := h.2 hc
      refine r_aload_n x_339_188 rfl ?_
      refine r_aload_n x_339_189 rfl ?_
      refine r_iload_n x_339_190 rfl ?_
      refine r_invV x_339_191 (z := 233) (ns := 0) (by decide +kernel) (as := [g_n v1]) (r := [.ref a0]) rfl rfl rfl hO1 rfl rfl ?_
      refine r_callI h fun r43 M40 hx41 hok42 hr44 h => ?_
      replace h := h hx41 hok42 hr44
      replace hO1 := hO1.up hx41
      refine r_aload_n x_339_194 rfl ?_
      obtain ⟨b45, hb46, h⟩ := h
      refine r_getR x_339_195 rfl (ci := 12) (k := 18) (ns := 0) (by decide +kernel) (by decide) rfl (kz := 18) rfl hO1 hb46 ?_
      refine r_iload_n x_339_198 rfl ?_
      obtain ⟨n47, hA48, h⟩ := h
      obtain ⟨h49, h⟩ := h
      refine r_iald x_339_199 hA48 hv2 h49.1 h49.2 ?_
      refine r_invV x_339_200 (z := 340) (ns := 0) (by decide +kernel) (as := [g_n r43, g_n (g_i M40 b45 v2)]) (r := []) rfl rfl rfl hO1 rfl rfl ?_
      refine r_callV h fun M50 hx51 hok52 h => ?_
      replace h := h hx51 hok52
      replace hO1 := hO1.up hx51
      replace hA48 := hA48.up hx51
      refine r_goto x_339_203 (t := 246) (by decide +kernel) ?_
      obtain ⟨h53, h⟩ := h
      refine r_iinc x_339_246 (by decide +kernel) rfl rfl (lv1 := [(0, .ref a0), (1, g_n v1), (2, g_n (v2 + 1))]) rfl ?_
      refine r_goto x_339_249 (t := 169) (by decide +kernel) ?_
      exact h
theorem m_X12_project {d : Nat} {M : g_M} {Q : g_M → Prop} {a0 : Nat} {v1 : Int} (hv1 : g_InR v1) {v2 : Int} (hv2 : g_InR v2) (h : g_ok M → g_O M a0 12 ∧ g_Call d 251 [.ref a0] M (g_qI fun r5 M2 => g_ext M M2 → g_ok M2 → g_InR r5 → g_Call d 237 [g_n v1] M2 (g_qI fun r10 M7 => g_ext M2 M7 → g_ok M7 → g_InR r10 → g_Run d 340 11 [(0, .ref a0), (1, g_n v1), (2, g_n v2), (3, g_n r5), (4, g_n r10)] [] M7 (g_qV Q)))) : g_Call (d + 1) 340 [.ref a0, g_n v1, g_n v2] M (g_qV Q) := by
  refine g_Call.ok fun hok0 => ?_
  replace h := h hok0
  refine r_body rfl (lv := [(0, .ref a0), (1, g_n v1), (2, g_n v2)]) rfl ?_
  refine g_Run.ok fun hok => ?_
  refine r_aload_n x_340_0 rfl ?_
  obtain ⟨hO1, h⟩ := h
  refine r_invV x_340_1 (z := 251) (ns := 0) (by decide +kernel) (as := []) (r := []) rfl rfl rfl hO1 rfl rfl ?_
  refine r_callI h fun r5 M2 hx3 hok4 hr6 h => ?_
  replace h := h hx3 hok4 hr6
  replace hO1 := hO1.up hx3
  refine r_istore_n x_340_4 (by decide +kernel) rfl (lv1 := [(0, .ref a0), (1, g_n v1), (2, g_n v2), (3, g_n r5)]) rfl ?_
  refine r_iload_n x_340_5 rfl ?_
  refine r_invS x_340_6 (z := 237) (ns := 0) (by decide +kernel) (as := [g_n v1]) (r := []) rfl rfl rfl ?_
  refine r_callI h fun r10 M7 hx8 hok9 hr11 h => ?_
  replace h := h hx8 hok9 hr11
  replace hO1 := hO1.up hx8
  refine r_istore x_340_9 (by decide +kernel) rfl (lv1 := [(0, .ref a0), (1, g_n v1), (2, g_n v2), (3, g_n r5), (4, g_n r10)]) rfl ?_
  exact h
theorem s_X12_project_11 {d : Nat} {M : g_M} {Q : g_M → Prop} {a0 : Nat} {v1 : Int} (hv1 : g_InR v1) {v2 : Int} (hv2 : g_InR v2) {v3 : Int} (hv3 : g_InR v3) {v4 : Int} (hv4 : g_InR v4) (h : g_ok M → g_O M a0 12 ∧ g_Call d 238 [.ref a0, g_n v1] M (g_qI fun r5 M2 => g_ext M M2 → g_ok M2 → g_InR r5 → ((v4 < r5 → g_Call d 232 [.ref a0, g_n v4] M2 (g_qI fun r16 M13 => g_ext M2 M13 → g_ok M13 → g_InR r16 → ∃ b18, g_r M13 a0 0 = some b18 ∧ ∃ n20, g_A M13 b18 0 n20 ∧ ((0 : Int) ≤ v4 ∧ (v4 : Int) < n20) ∧ ((g_i M13 b18 v4 = 8 → g_Call d 233 [.ref a0, g_n v4] M13 (g_qI fun r26 M23 => g_ext M13 M23 → g_ok M23 → g_InR r26 → g_Call d 226 [.ref a0, g_n r26] M23 (g_qI fun r31 M28 => g_ext M23 M28 → g_ok M28 → g_InR r31 → ((r31 = 1 → g_Run d 340 60 [(0, .ref a0), (1, g_n v1), (2, g_n v2), (3, g_n v3), (4, g_n v4), (5, g_n r16)] [g_n 1] M28 (g_qV Q)) ∧ (¬ r31 = 1 → g_Run d 340 60 [(0, .ref a0), (1, g_n v1), (2, g_n v2), (3, g_n v3), (4, g_n v4), (5, g_n r16)] [g_n 0] M28 (g_qV Q)))))) ∧ (¬ g_i M13 b18 v4 = 8 → g_Run d 340 60 [(0, .ref a0), (1, g_n v1), (2, g_n v2), (3, g_n v3), (4, g_n v4), (5, g_n r16)] [g_n 0] M13 (g_qV Q))))) ∧ (¬ v4 < r5 → g_Call d 252 [.ref a0, g_n v3] M2 (g_qV fun M7 => g_ext M2 M7 → g_ok M7 → g_Call d 336 [.ref a0, g_n v3] M7 (g_qV fun M10 => g_ext M7 M10 → g_ok M10 → Q M10)))))) : g_Run d 340 11 [(0, .ref a0), (1, g_n v1), (2, g_n v2), (3, g_n v3), (4, g_n v4)] [] M (g_qV Q) := by
  refine g_Run.ok fun hok => ?_
  replace h := h hok
  refine r_iload x_340_11 rfl ?_
  refine r_aload_n x_340_13 rfl ?_
  refine r_iload_n x_340_14 rfl ?_
  obtain ⟨hO1, h⟩ := h
  refine r_invV x_340_15 (z := 238) (ns := 0) (by decide +kernel) (as := [g_n v1]) (r := [g_n v4]) rfl rfl rfl hO1 rfl rfl ?_
  refine r_callI h fun r5 M2 hx3 hok4 hr6 h => ?_
  replace h := h hx3 hok4 hr6
  replace hO1 := hO1.up hx3
  refine r_ic_ge x_340_18 (t := 119) (by decide +kernel) hv4 hr6 (fun hc => ?_) (fun hc => ?_)
  · replace h := h.2 hc
    refine r_aload_n x_340_119 rfl ?_
    refine r_iload_n x_340_120 rfl ?_
    refine r_invV x_340_121 (z := 252) (ns := 0) (by decide +kernel) (as := [g_n v3]) (r := []) rfl rfl rfl hO1 rfl rfl ?_
    refine r_callV h fun M7 hx8 hok9 h => ?_
    replace h := h hx8 hok9
    replace hO1 := hO1.up hx8
    refine r_aload_n x_340_124 rfl ?_
    refine r_iload_n x_340_125 rfl ?_
    refine r_invV x_340_126 (z := 336) (ns := 0) (by decide +kernel) (as := [g_n v3]) (r := []) rfl rfl rfl hO1 rfl rfl ?_
    refine r_callV h fun M10 hx11 hok12 h => ?_
    replace h := h hx11 hok12
    replace hO1 := hO1.up hx11
    exact r_retV x_340_129 rfl h
  · replace h := h.1 hc
    refine r_aload_n x_340_21 rfl ?_
    refine r_iload x_340_22 rfl ?_
    refine r_invV x_340_24 (z := 232) (ns := 0) (by decide +kernel) (as := [g_n v4]) (r := []) rfl rfl rfl hO1 rfl rfl ?_
    refine r_callI h fun r16 M13 hx14 hok15 hr17 h => ?_
    replace h := h hx14 hok15 hr17
    replace hO1 := hO1.up hx14
    refine r_istore x_340_27 (by decide +kernel) rfl (lv1 := [(0, .ref a0), (1, g_n v1), (2, g_n v2), (3, g_n v3), (4, g_n v4), (5, g_n r16)]) rfl ?_
    refine r_aload_n x_340_29 rfl ?_
    obtain ⟨b18, hb19, h⟩ := h
    refine r_getR x_340_30 rfl (ci := 12) (k := 0) (ns := 0) (by decide +kernel) (by decide) rfl (kz := 0) rfl hO1 hb19 ?_
    refine r_iload x_340_33 rfl ?_
    obtain ⟨n20, hA21, h⟩ := h
    obtain ⟨h22, h⟩ := h
    refine r_bald x_340_35 (Or.inl rfl) hA21 hv4 h22.1 h22.2 ?_
    refine r_bipush x_340_36 (x := 8) rfl ?_
    refine r_ic_ne x_340_38 (t := 59) (by decide +kernel) (hok15.1 _ _) (g_Rk rfl) (fun hc => ?_) (fun hc => ?_)
    · replace h := h.2 hc
      refine r_iconst x_340_59 ?_
      exact h
    · replace h := h.1 hc
      refine r_aload_n x_340_41 rfl ?_
      refine r_aload_n x_340_42 rfl ?_
      refine r_iload x_340_43 rfl ?_
      refine r_invV x_340_45 (z := 233) (ns := 0) (by decide +kernel) (as := [g_n v4]) (r := [.ref a0]) rfl rfl rfl hO1 rfl rfl ?_
      refine r_callI h fun r26 M23 hx24 hok25 hr27 h => ?_
      replace h := h hx24 hok25 hr27
      replace hO1 := hO1.up hx24
      replace hA21 := hA21.up hx24
      refine r_invV x_340_48 (z := 226) (ns := 0) (by decide +kernel) (as := [g_n r26]) (r := []) rfl rfl rfl hO1 rfl rfl ?_
      refine r_callI h fun r31 M28 hx29 hok30 hr32 h => ?_
      replace h := h hx29 hok30 hr32
      replace hO1 := hO1.up hx29
      replace hA21 := hA21.up hx29
      refine r_iconst x_340_51 ?_
      refine r_ic_ne x_340_52 (t := 59) (by decide +kernel) hr32 (g_Rk rfl) (fun hc => ?_) (fun hc => ?_)
      · replace h := h.2 hc
        refine r_iconst x_340_59 ?_
        exact h
      · replace h := h.1 hc
        refine r_iconst x_340_55 ?_
        refine r_goto x_340_56 (t := 60) (by decide +kernel) ?_
        exact h
theorem s_X12_project_60 {d : Nat} {M : g_M} {Q : g_M → Prop} {a0 : Nat} {v1 : Int} (hv1 : g_InR v1) {v2 : Int} (hv2 : g_InR v2) {v3 : Int} (hv3 : g_InR v3) {v4 : Int} (hv4 : g_InR v4) {v5 : Int} (hv5 : g_InR v5) {w0 : Int} (hw0 : g_InR w0) (h : g_ok M → ((w0 = 0 → g_O M a0 12 ∧ g_Call d 328 [.ref a0, g_n v4, g_n v2] M (g_qI fun r5 M2 => g_ext M M2 → g_ok M2 → g_InR r5 → g_Run d 340 88 [(0, .ref a0), (1, g_n v1), (2, g_n v2), (3, g_n v3), (4, g_n v4), (5, g_n v5), (6, g_n w0)] [g_n r5] M2 (g_qV Q))) ∧ (¬ w0 = 0 → g_InR (v4 + 1) ∧ g_O M a0 12 ∧ g_Call d 240 [.ref a0, g_n v2, g_n (v4 + 1), g_n v5] M (g_qI fun r12 M9 => g_ext M M9 → g_ok M9 → g_InR r12 → g_Run d 340 88 [(0, .ref a0), (1, g_n v1), (2, g_n v2), (3, g_n v3), (4, g_n v4), (5, g_n v5), (6, g_n w0)] [g_n r12] M9 (g_qV Q))))) : g_Run d 340 60 [(0, .ref a0), (1, g_n v1), (2, g_n v2), (3, g_n v3), (4, g_n v4), (5, g_n v5)] [g_n w0] M (g_qV Q) := by
  refine g_Run.ok fun hok => ?_
  replace h := h hok
  refine r_istore x_340_60 (by decide +kernel) rfl (lv1 := [(0, .ref a0), (1, g_n v1), (2, g_n v2), (3, g_n v3), (4, g_n v4), (5, g_n v5), (6, g_n w0)]) rfl ?_
  refine r_iload x_340_62 rfl ?_
  refine r_if_eq x_340_64 (t := 81) (by decide +kernel) hw0 (fun hc => ?_) (fun hc => ?_)
  · replace h := h.1 hc
    refine r_aload_n x_340_81 rfl ?_
    refine r_iload x_340_82 rfl ?_
    refine r_iload_n x_340_84 rfl ?_
    obtain ⟨hO1, h⟩ := h
    refine r_invV x_340_85 (z := 328) (ns := 0) (by decide +kernel) (as := [g_n v4, g_n v2]) (r := []) rfl rfl rfl hO1 rfl rfl ?_
    refine r_callI h fun r5 M2 hx3 hok4 hr6 h => ?_
    replace h := h hx3 hok4 hr6
    replace hO1 := hO1.up hx3
    exact h
  · replace h := h.2 hc
    refine r_aload_n x_340_67 rfl ?_
    refine r_iload_n x_340_68 rfl ?_
    refine r_iload x_340_69 rfl ?_
    refine r_iconst x_340_71 ?_
    refine r_iadd x_340_72 ?_
    obtain ⟨h7, h⟩ := h
    refine r_iload x_340_73 rfl ?_
    obtain ⟨hO8, h⟩ := h
    refine r_invV x_340_75 (z := 240) (ns := 0) (by decide +kernel) (as := [g_n v2, g_n (v4 + 1), g_n v5]) (r := []) rfl rfl rfl hO8 rfl rfl ?_
    refine r_callI h fun r12 M9 hx10 hok11 hr13 h => ?_
    replace h := h hx10 hok11 hr13
    replace hO8 := hO8.up hx10
    refine r_goto x_340_78 (t := 88) (by decide +kernel) ?_
    exact h
theorem s_X12_project_88 {d : Nat} {M : g_M} {Q : g_M → Prop} {a0 : Nat} {v1 : Int} (hv1 : g_InR v1) {v2 : Int} (hv2 : g_InR v2) {v3 : Int} (hv3 : g_InR v3) {v4 : Int} (hv4 : g_InR v4) {v5 : Int} (hv5 : g_InR v5) {v6 : Int} (hv6 : g_InR v6) {w0 : Int} (hw0 : g_InR w0) (h : g_ok M → ((w0 = (-1) → g_O M a0 12 ∧ g_Call d 235 [.ref a0, g_n v4] M (g_qI fun r5 M2 => g_ext M M2 → g_ok M2 → g_InR r5 → g_Run d 340 11 [(0, .ref a0), (1, g_n v1), (2, g_n v2), (3, g_n v3), (4, g_n r5)] [] M2 (g_qV Q))) ∧ (¬ w0 = (-1) → g_InR (v4 + 1) ∧ g_O M a0 12 ∧ g_Call d 254 [.ref a0, g_n (v4 + 1), g_n v5, g_n w0] M (g_qV fun M9 => g_ext M M9 → g_ok M9 → g_Call d 235 [.ref a0, g_n v4] M9 (g_qI fun r15 M12 => g_ext M9 M12 → g_ok M12 → g_InR r15 → g_Run d 340 11 [(0, .ref a0), (1, g_n v1), (2, g_n v2), (3, g_n v3), (4, g_n r15)] [] M12 (g_qV Q)))))) : g_Run d 340 88 [(0, .ref a0), (1, g_n v1), (2, g_n v2), (3, g_n v3), (4, g_n v4), (5, g_n v5), (6, g_n v6)] [g_n w0] M (g_qV Q) := by
  refine g_Run.ok fun hok => ?_
  replace h := h hok
  refine r_istore x_340_88 (by decide +kernel) rfl (lv1 := [(0, .ref a0), (1, g_n v1), (2, g_n v2), (3, g_n v3), (4, g_n v4), (5, g_n v5), (6, g_n v6), (7, g_n w0)]) rfl ?_
  refine r_iload x_340_90 rfl ?_
  refine r_iconst x_340_92 ?_
  refine r_ic_eq x_340_93 (t := 108) (by decide +kernel) hw0 (g_Rk rfl) (fun hc => ?_) (fun hc => ?_)
  · replace h := h.1 hc
    refine r_aload_n x_340_108 rfl ?_
    refine r_iload x_340_109 rfl ?_
    obtain ⟨hO1, h⟩ := h
    refine r_invV x_340_111 (z := 235) (ns := 0) (by decide +kernel) (as := [g_n v4]) (r := []) rfl rfl rfl hO1 rfl rfl ?_
    refine r_callI h fun r5 M2 hx3 hok4 hr6 h => ?_
    replace h := h hx3 hok4 hr6
    replace hO1 := hO1.up hx3
    refine r_istore x_340_114 (by decide +kernel) rfl (lv1 := [(0, .ref a0), (1, g_n v1), (2, g_n v2), (3, g_n v3), (4, g_n r5), (5, g_n v5), (6, g_n v6), (7, g_n w0)]) rfl ?_
    refine r_goto x_340_116 (t := 11) (by decide +kernel) ?_
    refine g_drop [0, 1, 2, 3, 4] (lv1 := [(0, .ref a0), (1, g_n v1), (2, g_n v2), (3, g_n v3), (4, g_n r5)]) rfl ?_
    exact h
  · replace h := h.2 hc
    refine r_aload_n x_340_96 rfl ?_
    refine r_iload x_340_97 rfl ?_
    refine r_iconst x_340_99 ?_
    refine r_iadd x_340_100 ?_
    obtain ⟨h7, h⟩ := h
    refine r_iload x_340_101 rfl ?_
    refine r_iload x_340_103 rfl ?_
    obtain ⟨hO8, h⟩ := h
    refine r_invV x_340_105 (z := 254) (ns := 0) (by decide +kernel) (as := [g_n (v4 + 1), g_n v5, g_n w0]) (r := []) rfl rfl rfl hO8 rfl rfl ?_
    refine r_callV h fun M9 hx10 hok11 h => ?_
    replace h := h hx10 hok11
    replace hO8 := hO8.up hx10
    refine r_aload_n x_340_108 rfl ?_
    refine r_iload x_340_109 rfl ?_
    refine r_invV x_340_111 (z := 235) (ns := 0) (by decide +kernel) (as := [g_n v4]) (r := []) rfl rfl rfl hO8 rfl rfl ?_
    refine r_callI h fun r15 M12 hx13 hok14 hr16 h => ?_
    replace h := h hx13 hok14 hr16
    replace hO8 := hO8.up hx13
    refine r_istore x_340_114 (by decide +kernel) rfl (lv1 := [(0, .ref a0), (1, g_n v1), (2, g_n v2), (3, g_n v3), (4, g_n r15), (5, g_n v5), (6, g_n v6), (7, g_n w0)]) rfl ?_
    refine r_goto x_340_116 (t := 11) (by decide +kernel) ?_
    refine g_drop [0, 1, 2, 3, 4] (lv1 := [(0, .ref a0), (1, g_n v1), (2, g_n v2), (3, g_n v3), (4, g_n r15)]) rfl ?_
    exact h
theorem m_X12_through {d : Nat} {M : g_M} {Q : Int → g_M → Prop} {a0 : Nat} {v1 : Int} (hv1 : g_InR v1) {v2 : Int} (hv2 : g_InR v2) {v3 : Int} (hv3 : g_InR v3) (h : g_ok M → g_O M a0 12 ∧ g_Call d 325 [.ref a0, g_n v1, g_n v2, g_n v3] M (g_qV fun M2 => g_ext M M2 → g_ok M2 → ((g_i M2 a0 27 = 1 → Q (g_i M2 a0 28) M2) ∧ (¬ g_i M2 a0 27 = 1 → Q ((-1)) M2)))) : g_Call (d + 1) 341 [.ref a0, g_n v1, g_n v2, g_n v3] M (g_qI Q) := by
  refine g_Call.ok fun hok0 => ?_
  replace h := h hok0
  refine r_body rfl (lv := [(0, .ref a0), (1, g_n v1), (2, g_n v2), (3, g_n v3)]) rfl ?_
  refine g_Run.ok fun hok => ?_
  refine r_aload_n x_341_0 rfl ?_
  refine r_iload_n x_341_1 rfl ?_
  refine r_iload_n x_341_2 rfl ?_
  refine r_iload_n x_341_3 rfl ?_
  obtain ⟨hO1, h⟩ := h
  refine r_invV x_341_4 (z := 325) (ns := 0) (by decide +kernel) (as := [g_n v1, g_n v2, g_n v3]) (r := []) rfl rfl rfl hO1 rfl rfl ?_
  refine r_callV h fun M2 hx3 hok4 h => ?_
  replace h := h hx3 hok4
  replace hO1 := hO1.up hx3
  refine r_aload_n x_341_7 rfl ?_
  refine r_getI x_341_8 rfl (ci := 12) (k := 27) (ns := 0) (by decide +kernel) (by decide) rfl (kz := 27) rfl hO1 ?_
  refine r_iconst x_341_11 ?_
  refine r_ic_ne x_341_12 (t := 22) (by decide +kernel) (hok4.1 _ _) (g_Rk rfl) (fun hc => ?_) (fun hc => ?_)
  · replace h := h.2 hc
    refine r_iconst x_341_22 ?_
    exact r_retI x_341_23 rfl (g_Rk rfl) h
  · replace h := h.1 hc
    refine r_aload_n x_341_15 rfl ?_
    refine r_getI x_341_16 rfl (ci := 12) (k := 28) (ns := 0) (by decide +kernel) (by decide) rfl (kz := 28) rfl hO1 ?_
    refine r_goto x_341_19 (t := 23) (by decide +kernel) ?_
    exact r_retI x_341_23 rfl (hok4.1 _ _) h
theorem m_X12_unwind {d : Nat} {M : g_M} {Q : g_M → Prop} {a0 : Nat} {v1 : Int} (hv1 : g_InR v1) {v2 : Int} (hv2 : g_InR v2) (h : g_ok M → g_O M a0 12 ∧ g_Call d 233 [.ref a0, g_n v1] M (g_qI fun r5 M2 => g_ext M M2 → g_ok M2 → g_InR r5 → g_InR (r5 + 5) ∧ g_Call d 322 [.ref a0, g_n v1] M2 (g_qI fun r11 M8 => g_ext M2 M8 → g_ok M8 → g_InR r11 → g_Call d 341 [.ref a0, g_n v2, g_n (r5 + 5), g_n r11] M8 (g_qI fun r16 M13 => g_ext M8 M13 → g_ok M13 → g_InR r16 → ((r16 = (-1) → Q M13) ∧ (¬ r16 = (-1) → ∃ b18, g_r M13 a0 0 = some b18 ∧ ∃ n20, g_A M13 b18 0 n20 ∧ ((0 : Int) ≤ r16 ∧ (r16 : Int) < n20) ∧ ((g_i M13 b18 r16 = 10 → Q M13) ∧ (¬ g_i M13 b18 r16 = 10 → ∃ b23, g_r M13 a0 0 = some b23 ∧ ∃ n25, g_A M13 b23 0 n25 ∧ ((0 : Int) ≤ r16 ∧ (r16 : Int) < n25) ∧ ((g_i M13 b23 r16 = 4 → g_Call d 233 [.ref a0, g_n r16] M13 (g_qI fun r31 M28 => g_ext M13 M28 → g_ok M28 → g_InR r31 → g_Call d 237 [g_n r31] M28 (g_qI fun r36 M33 => g_ext M28 M33 → g_ok M33 → g_InR r36 → g_Run d 342 91 [(0, .ref a0), (1, g_n v1), (2, g_n v2), (3, g_n (r5 + 5)), (4, g_n r11), (5, g_n r16), (6, g_n r36)] [] M33 (g_qV Q)))) ∧ (¬ g_i M13 b23 r16 = 4 → g_Call d 227 [.ref a0, g_n v2] M13 (g_qI fun r41 M38 => g_ext M13 M38 → g_ok M38 → g_InR r41 → g_InR (v2 + r41) ∧ g_Call d 248 [.ref a0, g_n v2, g_n (v2 + r41)] M38 (g_qV fun M44 => g_ext M38 M44 → g_ok M44 → g_Call d 336 [.ref a0, g_n (g_i M13 a0 4)] M44 (g_qV fun M47 => g_ext M44 M47 → g_ok M47 → Q M47))))))))))))) : g_Call (d + 1) 342 [.ref a0, g_n v1, g_n v2] M (g_qV Q) := by
  refine g_Call.ok fun hok0 => ?_
  replace h := h hok0
  refine r_body rfl (lv := [(0, .ref a0), (1, g_n v1), (2, g_n v2)]) rfl ?_
  refine g_Run.ok fun hok => ?_
  refine r_aload_n x_342_0 rfl ?_
  refine r_iload_n x_342_1 rfl ?_
  obtain ⟨hO1, h⟩ := h
  refine r_invV x_342_2 (z := 233) (ns := 0) (by decide +kernel) (as := [g_n v1]) (r := []) rfl rfl rfl hO1 rfl rfl ?_
  refine r_callI h fun r5 M2 hx3 hok4 hr6 h => ?_
  replace h := h hx3 hok4 hr6
  replace hO1 := hO1.up hx3
  refine r_iconst x_342_5 ?_
  refine r_iadd x_342_6 ?_
  obtain ⟨h7, h⟩ := h
  refine r_istore_n x_342_7 (by decide +kernel) rfl (lv1 := [(0, .ref a0), (1, g_n v1), (2, g_n v2), (3, g_n (r5 + 5))]) rfl ?_
  refine r_aload_n x_342_8 rfl ?_
  refine r_iload_n x_342_9 rfl ?_
  refine r_invV x_342_10 (z := 322) (ns := 0) (by decide +kernel) (as := [g_n v1]) (r := []) rfl rfl rfl hO1 rfl rfl ?_
  refine r_callI h fun r11 M8 hx9 hok10 hr12 h => ?_
  replace h := h hx9 hok10 hr12
  replace hO1 := hO1.up hx9
  refine r_istore x_342_13 (by decide +kernel) rfl (lv1 := [(0, .ref a0), (1, g_n v1), (2, g_n v2), (3, g_n (r5 + 5)), (4, g_n r11)]) rfl ?_
  refine r_aload_n x_342_15 rfl ?_
  refine r_iload_n x_342_16 rfl ?_
  refine r_iload_n x_342_17 rfl ?_
  refine r_iload x_342_18 rfl ?_
  refine r_invV x_342_20 (z := 341) (ns := 0) (by decide +kernel) (as := [g_n v2, g_n (r5 + 5), g_n r11]) (r := []) rfl rfl rfl hO1 rfl rfl ?_
  refine r_callI h fun r16 M13 hx14 hok15 hr17 h => ?_
  replace h := h hx14 hok15 hr17
  replace hO1 := hO1.up hx14
  refine r_istore x_342_23 (by decide +kernel) rfl (lv1 := [(0, .ref a0), (1, g_n v1), (2, g_n v2), (3, g_n (r5 + 5)), (4, g_n r11), (5, g_n r16)]) rfl ?_
  refine r_iload x_342_25 rfl ?_
  refine r_iconst x_342_27 ?_
  refine r_ic_eq x_342_28 (t := 43) (by decide +kernel) hr17 (g_Rk rfl) (fun hc => ?_) (fun hc => ?_)
  · replace h := h.1 hc
    exact r_retV x_342_43 rfl h
  · replace h := h.2 hc
    refine r_aload_n x_342_31 rfl ?_
    obtain ⟨b18, hb19, h⟩ := h
    refine r_getR x_342_32 rfl (ci := 12) (k := 0) (ns := 0) (by decide +kernel) (by decide) rfl (kz := 0) rfl hO1 hb19 ?_
    refine r_iload x_342_35 rfl ?_
    obtain ⟨n20, hA21, h⟩ := h
    obtain ⟨h22, h⟩ := h
    refine r_bald x_342_37 (Or.inl rfl) hA21 hr17 h22.1 h22.2 ?_
    refine r_bipush x_342_38 (x := 10) rfl ?_
    refine r_ic_ne x_342_40 (t := 44) (by decide +kernel) (hok15.1 _ _) (g_Rk rfl) (fun hc => ?_) (fun hc => ?_)
    · replace h := h.2 hc
      refine r_aload_n x_342_44 rfl ?_
      obtain ⟨b23, hb24, h⟩ := h
      refine r_getR x_342_45 rfl (ci := 12) (k := 0) (ns := 0) (by decide +kernel) (by decide) rfl (kz := 0) rfl hO1 hb24 ?_
      refine r_iload x_342_48 rfl ?_
      obtain ⟨n25, hA26, h⟩ := h
      obtain ⟨h27, h⟩ := h
      refine r_bald x_342_50 (Or.inl rfl) hA26 hr17 h27.1 h27.2 ?_
      refine r_iconst x_342_51 ?_
      refine r_ic_eq x_342_52 (t := 80) (by decide +kernel) (hok15.1 _ _) (g_Rk rfl) (fun hc => ?_) (fun hc => ?_)
      · replace h := h.1 hc
        refine r_aload_n x_342_80 rfl ?_
        refine r_iload x_342_81 rfl ?_
        refine r_invV x_342_83 (z := 233) (ns := 0) (by decide +kernel) (as := [g_n r16]) (r := []) rfl rfl rfl hO1 rfl rfl ?_
        refine r_callI h fun r31 M28 hx29 hok30 hr32 h => ?_
        replace h := h hx29 hok30 hr32
        replace hO1 := hO1.up hx29
        replace hA21 := hA21.up hx29
        replace hA26 := hA26.up hx29
        refine r_invS x_342_86 (z := 237) (ns := 0) (by decide +kernel) (as := [g_n r31]) (r := []) rfl rfl rfl ?_
        refine r_callI h fun r36 M33 hx34 hok35 hr37 h => ?_
        replace h := h hx34 hok35 hr37
        replace hO1 := hO1.up hx34
        replace hA21 := hA21.up hx34
        replace hA26 := hA26.up hx34
        refine r_istore x_342_89 (by decide +kernel) rfl (lv1 := [(0, .ref a0), (1, g_n v1), (2, g_n v2), (3, g_n (r5 + 5)), (4, g_n r11), (5, g_n r16), (6, g_n r36)]) rfl ?_
        exact h
      · replace h := h.2 hc
        refine r_aload_n x_342_55 rfl ?_
        refine r_getI x_342_56 rfl (ci := 12) (k := 4) (ns := 0) (by decide +kernel) (by decide) rfl (kz := 4) rfl hO1 ?_
        refine r_istore x_342_59 (by decide +kernel) rfl (lv1 := [(0, .ref a0), (1, g_n v1), (2, g_n v2), (3, g_n (r5 + 5)), (4, g_n r11), (5, g_n r16), (6, g_n (g_i M13 a0 4))]) rfl ?_
        refine r_aload_n x_342_61 rfl ?_
        refine r_iload_n x_342_62 rfl ?_
        refine r_iload_n x_342_63 rfl ?_
        refine r_aload_n x_342_64 rfl ?_
        refine r_iload_n x_342_65 rfl ?_
        refine r_invV x_342_66 (z := 227) (ns := 0) (by decide +kernel) (as := [g_n v2]) (r := [g_n v2, g_n v2, .ref a0]) rfl rfl rfl hO1 rfl rfl ?_
        refine r_callI h fun r41 M38 hx39 hok40 hr42 h => ?_
        replace h := h hx39 hok40 hr42
        replace hO1 := hO1.up hx39
        replace hA21 := hA21.up hx39
        replace hA26 := hA26.up hx39
        refine r_iadd x_342_69 ?_
        obtain ⟨h43, h⟩ := h
        refine r_invV x_342_70 (z := 248) (ns := 0) (by decide +kernel) (as := [g_n v2, g_n (v2 + r41)]) (r := []) rfl rfl rfl hO1 rfl rfl ?_
        refine r_callV h fun M44 hx45 hok46 h => ?_
        replace h := h hx45 hok46
        replace hO1 := hO1.up hx45
        replace hA21 := hA21.up hx45
        replace hA26 := hA26.up hx45
        refine r_aload_n x_342_73 rfl ?_
        refine r_iload x_342_74 rfl ?_
        refine r_invV x_342_76 (z := 336) (ns := 0) (by decide +kernel) (as := [g_n (g_i M13 a0 4)]) (r := []) rfl rfl rfl hO1 rfl rfl ?_
        refine r_callV h fun M47 hx48 hok49 h => ?_
        replace h := h hx48 hok49
        replace hO1 := hO1.up hx48
        replace hA21 := hA21.up hx48
        replace hA26 := hA26.up hx48
        exact r_retV x_342_79 rfl h
    · replace h := h.1 hc
      exact r_retV x_342_43 rfl h
theorem s_X12_unwind_91 {d : Nat} {M : g_M} {Q : g_M → Prop} {a0 : Nat} {v1 : Int} (hv1 : g_InR v1) {v2 : Int} (hv2 : g_InR v2) {v3 : Int} (hv3 : g_InR v3) {v4 : Int} (hv4 : g_InR v4) {v5 : Int} (hv5 : g_InR v5) {v6 : Int} (hv6 : g_InR v6) (h : g_ok M → g_O M a0 12 ∧ g_Call d 233 [.ref a0, g_n v5] M (g_qI fun r5 M2 => g_ext M M2 → g_ok M2 → g_InR r5 → g_Call d 238 [.ref a0, g_n r5] M2 (g_qI fun r10 M7 => g_ext M2 M7 → g_ok M7 → g_InR r10 → ((v6 < r10 → ((g_i M7 a0 25 = 0 → g_Call d 343 [.ref a0, g_n v2, g_n v5, g_n v6] M7 (g_qV fun M12 => g_ext M7 M12 → g_ok M12 → g_Call d 336 [.ref a0, g_n (g_i M7 a0 4)] M12 (g_qV fun M15 => g_ext M12 M15 → g_ok M15 → g_Call d 235 [.ref a0, g_n v6] M15 (g_qI fun r21 M18 => g_ext M15 M18 → g_ok M18 → g_InR r21 → g_Run d 342 91 [(0, .ref a0), (1, g_n v1), (2, g_n v2), (3, g_n v3), (4, g_n v4), (5, g_n v5), (6, g_n r21)] [] M18 (g_qV Q))))) ∧ (¬ g_i M7 a0 25 = 0 → Q M7))) ∧ (¬ v6 < r10 → Q M7))))) : g_Run d 342 91 [(0, .ref a0), (1, g_n v1), (2, g_n v2), (3, g_n v3), (4, g_n v4), (5, g_n v5), (6, g_n v6)] [] M (g_qV Q) := by
  refine g_Run.ok fun hok => ?_
  replace h := h hok
  refine r_iload x_342_91 rfl ?_
  refine r_aload_n x_342_93 rfl ?_
  refine r_aload_n x_342_94 rfl ?_
  refine r_iload x_342_95 rfl ?_
  obtain ⟨hO1, h⟩ := h
  refine r_invV x_342_97 (z := 233) (ns := 0) (by decide +kernel) (as := [g_n v5]) (r := [.ref a0, g_n v6]) rfl rfl rfl hO1 rfl rfl ?_
  refine r_callI h fun r5 M2 hx3 hok4 hr6 h => ?_
  replace h := h hx3 hok4 hr6
  replace hO1 := hO1.up hx3
  refine r_invV x_342_100 (z := 238) (ns := 0) (by decide +kernel) (as := [g_n r5]) (r := [g_n v6]) rfl rfl rfl hO1 rfl rfl ?_
  refine r_callI h fun r10 M7 hx8 hok9 hr11 h => ?_
  replace h := h hx8 hok9 hr11
  replace hO1 := hO1.up hx8
  refine r_ic_ge x_342_103 (t := 145) (by decide +kernel) hv6 hr11 (fun hc => ?_) (fun hc => ?_)
  · replace h := h.2 hc
    exact r_retV x_342_145 rfl h
  · replace h := h.1 hc
    refine r_aload_n x_342_106 rfl ?_
    refine r_getI x_342_107 rfl (ci := 12) (k := 25) (ns := 0) (by decide +kernel) (by decide) rfl (kz := 25) rfl hO1 ?_
    refine r_if_ne x_342_110 (t := 145) (by decide +kernel) (hok9.1 _ _) (fun hc => ?_) (fun hc => ?_)
    · replace h := h.2 hc
      exact r_retV x_342_145 rfl h
    · replace h := h.1 hc
      refine r_aload_n x_342_113 rfl ?_
      refine r_getI x_342_114 rfl (ci := 12) (k := 4) (ns := 0) (by decide +kernel) (by decide) rfl (kz := 4) rfl hO1 ?_
      refine r_istore x_342_117 (by decide +kernel) rfl (lv1 := [(0, .ref a0), (1, g_n v1), (2, g_n v2), (3, g_n v3), (4, g_n v4), (5, g_n v5), (6, g_n v6), (7, g_n (g_i M7 a0 4))]) rfl ?_
      refine r_aload_n x_342_119 rfl ?_
      refine r_iload_n x_342_120 rfl ?_
      refine r_iload x_342_121 rfl ?_
      refine r_iload x_342_123 rfl ?_
      refine r_invV x_342_125 (z := 343) (ns := 0) (by decide +kernel) (as := [g_n v2, g_n v5, g_n v6]) (r := []) rfl rfl rfl hO1 rfl rfl ?_
      refine r_callV h fun M12 hx13 hok14 h => ?_
      replace h := h hx13 hok14
      replace hO1 := hO1.up hx13
      refine r_aload_n x_342_128 rfl ?_
      refine r_iload x_342_129 rfl ?_
      refine r_invV x_342_131 (z := 336) (ns := 0) (by decide +kernel) (as := [g_n (g_i M7 a0 4)]) (r := []) rfl rfl rfl hO1 rfl rfl ?_
      refine r_callV h fun M15 hx16 hok17 h => ?_
      replace h := h hx16 hok17
      replace hO1 := hO1.up hx16
      refine r_aload_n x_342_134 rfl ?_
      refine r_iload x_342_135 rfl ?_
      refine r_invV x_342_137 (z := 235) (ns := 0) (by decide +kernel) (as := [g_n v6]) (r := []) rfl rfl rfl hO1 rfl rfl ?_
      refine r_callI h fun r21 M18 hx19 hok20 hr22 h => ?_
      replace h := h hx19 hok20 hr22
      replace hO1 := hO1.up hx19
      refine r_istore x_342_140 (by decide +kernel) rfl (lv1 := [(0, .ref a0), (1, g_n v1), (2, g_n v2), (3, g_n v3), (4, g_n v4), (5, g_n v5), (6, g_n r21), (7, g_n (g_i M7 a0 4))]) rfl ?_
      refine r_goto x_342_142 (t := 91) (by decide +kernel) ?_
      refine g_drop [0, 1, 2, 3, 4, 5, 6] (lv1 := [(0, .ref a0), (1, g_n v1), (2, g_n v2), (3, g_n v3), (4, g_n v4), (5, g_n v5), (6, g_n r21)]) rfl ?_
      exact h
theorem m_X12_putUnwound {d : Nat} {M : g_M} {Q : g_M → Prop} {a0 : Nat} {v1 : Int} (hv1 : g_InR v1) {v2 : Int} (hv2 : g_InR v2) {v3 : Int} (hv3 : g_InR v3) (h : g_ok M → g_O M a0 12 ∧ g_Call d 251 [.ref a0] M (g_qI fun r5 M2 => g_ext M M2 → g_ok M2 → g_InR r5 → g_Call d 237 [g_n v1] M2 (g_qI fun r10 M7 => g_ext M2 M7 → g_ok M7 → g_InR r10 → g_Run d 343 12 [(0, .ref a0), (1, g_n v1), (2, g_n v2), (3, g_n v3), (4, g_n r5), (5, g_n r10)] [] M7 (g_qV Q)))) : g_Call (d + 1) 343 [.ref a0, g_n v1, g_n v2, g_n v3] M (g_qV Q) := by
  refine g_Call.ok fun hok0 => ?_
  replace h := h hok0
  refine r_body rfl (lv := [(0, .ref a0), (1, g_n v1), (2, g_n v2), (3, g_n v3)]) rfl ?_
  refine g_Run.ok fun hok => ?_
  refine r_aload_n x_343_0 rfl ?_
  obtain ⟨hO1, h⟩ := h
  refine r_invV x_343_1 (z := 251) (ns := 0) (by decide +kernel) (as := []) (r := []) rfl rfl rfl hO1 rfl rfl ?_
  refine r_callI h fun r5 M2 hx3 hok4 hr6 h => ?_
  replace h := h hx3 hok4 hr6
  replace hO1 := hO1.up hx3
  refine r_istore x_343_4 (by decide +kernel) rfl (lv1 := [(0, .ref a0), (1, g_n v1), (2, g_n v2), (3, g_n v3), (4, g_n r5)]) rfl ?_
  refine r_iload_n x_343_6 rfl ?_
  refine r_invS x_343_7 (z := 237) (ns := 0) (by decide +kernel) (as := [g_n v1]) (r := []) rfl rfl rfl ?_
  refine r_callI h fun r10 M7 hx8 hok9 hr11 h => ?_
  replace h := h hx8 hok9 hr11
  replace hO1 := hO1.up hx8
  refine r_istore x_343_10 (by decide +kernel) rfl (lv1 := [(0, .ref a0), (1, g_n v1), (2, g_n v2), (3, g_n v3), (4, g_n r5), (5, g_n r10)]) rfl ?_
  exact h
theorem s_X12_putUnwound_12 {d : Nat} {M : g_M} {Q : g_M → Prop} {a0 : Nat} {v1 : Int} (hv1 : g_InR v1) {v2 : Int} (hv2 : g_InR v2) {v3 : Int} (hv3 : g_InR v3) {v4 : Int} (hv4 : g_InR v4) {v5 : Int} (hv5 : g_InR v5) (h : g_ok M → g_O M a0 12 ∧ g_Call d 238 [.ref a0, g_n v1] M (g_qI fun r5 M2 => g_ext M M2 → g_ok M2 → g_InR r5 → ((v5 < r5 → ((v5 = v2 → g_InR (v5 + 1) ∧ g_Call d 232 [.ref a0, g_n v5] M2 (g_qI fun r52 M49 => g_ext M2 M49 → g_ok M49 → g_InR r52 → g_Call d 254 [.ref a0, g_n (v5 + 1), g_n r52, g_n v3] M49 (g_qV fun M54 => g_ext M49 M54 → g_ok M54 → g_Call d 235 [.ref a0, g_n v5] M54 (g_qI fun r60 M57 => g_ext M54 M57 → g_ok M57 → g_InR r60 → g_Run d 343 12 [(0, .ref a0), (1, g_n v1), (2, g_n v2), (3, g_n v3), (4, g_n v4), (5, g_n r60)] [] M57 (g_qV Q))))) ∧ (¬ v5 = v2 → ((v5 < v2 → g_Call d 235 [.ref a0, g_n v5] M2 (g_qI fun r13 M10 => g_ext M2 M10 → g_ok M10 → g_InR r13 → ((v2 < r13 → ∃ b15, g_r M10 a0 0 = some b15 ∧ ∃ n17, g_A M10 b15 0 n17 ∧ ((0 : Int) ≤ v5 ∧ (v5 : Int) < n17) ∧ g_Call d 246 [.ref a0, g_n (g_i M10 b15 v5)] M10 (g_qV fun M20 => g_ext M10 M20 → g_ok M20 → g_InR (v5 + 1) ∧ g_Call d 232 [.ref a0, g_n v5] M20 (g_qI fun r27 M24 => g_ext M20 M24 → g_ok M24 → g_InR r27 → g_Call d 248 [.ref a0, g_n (v5 + 1), g_n r27] M24 (g_qV fun M29 => g_ext M24 M29 → g_ok M29 → g_Call d 246 [.ref a0, g_n 0] M29 (g_qV fun M32 => g_ext M29 M32 → g_ok M32 → g_Call d 233 [.ref a0, g_n v5] M32 (g_qI fun r38 M35 => g_ext M32 M35 → g_ok M35 → g_InR r38 → g_Call d 343 [.ref a0, g_n r38, g_n v2, g_n v3] M35 (g_qV fun M40 => g_ext M35 M40 → g_ok M40 → g_Call d 235 [.ref a0, g_n v5] M40 (g_qI fun r46 M43 => g_ext M40 M43 → g_ok M43 → g_InR r46 → g_Run d 343 12 [(0, .ref a0), (1, g_n v1), (2, g_n v2), (3, g_n v3), (4, g_n v4), (5, g_n r46)] [] M43 (g_qV Q))))))))) ∧ (¬ v2 < r13 → g_Run d 343 107 [(0, .ref a0), (1, g_n v1), (2, g_n v2), (3, g_n v3), (4, g_n v4), (5, g_n v5)] [] M10 (g_qV Q))))) ∧ (¬ v5 < v2 → g_Run d 343 107 [(0, .ref a0), (1, g_n v1), (2, g_n v2), (3, g_n v3), (4, g_n v4), (5, g_n v5)] [] M2 (g_qV Q)))))) ∧ (¬ v5 < r5 → g_Call d 252 [.ref a0, g_n v4] M2 (g_qV fun M7 => g_ext M2 M7 → g_ok M7 → Q M7))))) : g_Run d 343 12 [(0, .ref a0), (1, g_n v1), (2, g_n v2), (3, g_n v3), (4, g_n v4), (5, g_n v5)] [] M (g_qV Q) := by
  refine g_Run.ok fun hok => ?_
  replace h := h hok
  refine r_iload x_343_12 rfl ?_
  refine r_aload_n x_343_14 rfl ?_
  refine r_iload_n x_343_15 rfl ?_
  obtain ⟨hO1, h⟩ := h
  refine r_invV x_343_16 (z := 238) (ns := 0) (by decide +kernel) (as := [g_n v1]) (r := [g_n v5]) rfl rfl rfl hO1 rfl rfl ?_
  refine r_callI h fun r5 M2 hx3 hok4 hr6 h => ?_
  replace h := h hx3 hok4 hr6
  replace hO1 := hO1.up hx3
  refine r_ic_ge x_343_19 (t := 130) (by decide +kernel) hv5 hr6 (fun hc => ?_) (fun hc => ?_)
  · replace h := h.2 hc
    refine r_aload_n x_343_130 rfl ?_
    refine r_iload x_343_131 rfl ?_
    refine r_invV x_343_133 (z := 252) (ns := 0) (by decide +kernel) (as := [g_n v4]) (r := []) rfl rfl rfl hO1 rfl rfl ?_
    refine r_callV h fun M7 hx8 hok9 h => ?_
    replace h := h hx8 hok9
    replace hO1 := hO1.up hx8
    exact r_retV x_343_136 rfl h
  · replace h := h.1 hc
    refine r_iload x_343_22 rfl ?_
    refine r_iload_n x_343_24 rfl ?_
    refine r_ic_ne x_343_25 (t := 46) (by decide +kernel) hv5 hv2 (fun hc => ?_) (fun hc => ?_)
    · replace h := h.2 hc
      refine r_iload x_343_46 rfl ?_
      refine r_iload_n x_343_48 rfl ?_
      refine r_ic_ge x_343_49 (t := 107) (by decide +kernel) hv5 hv2 (fun hc => ?_) (fun hc => ?_)
      · replace h := h.2 hc
        exact h
      · replace h := h.1 hc
        refine r_iload_n x_343_52 rfl ?_
        refine r_aload_n x_343_53 rfl ?_
        refine r_iload x_343_54 rfl ?_
        refine r_invV x_343_56 (z := 235) (ns := 0) (by decide +kernel) (as := [g_n v5]) (r := [g_n v2]) rfl rfl rfl hO1 rfl rfl ?_
        refine r_callI h fun r13 M10 hx11 hok12 hr14 h => ?_
        replace h := h hx11 hok12 hr14
        replace hO1 := hO1.up hx11
        refine r_ic_ge x_343_59 (t := 107) (by decide +kernel) hv2 hr14 (fun hc => ?_) (fun hc => ?_)
        · replace h := h.2 hc
          exact h
        · replace h := h.1 hc
          refine r_aload_n x_343_62 rfl ?_
          refine r_aload_n x_343_63 rfl ?_
          obtain ⟨b15, hb16, h⟩ := h
          refine r_getR x_343_64 rfl (ci := 12) (k := 0) (ns := 0) (by decide +kernel) (by decide) rfl (kz := 0) rfl hO1 hb16 ?_
          refine r_iload x_343_67 rfl ?_
          obtain ⟨n17, hA18, h⟩ := h
          obtain ⟨h19, h⟩ := h
          refine r_bald x_343_69 (Or.inl rfl) hA18 hv5 h19.1 h19.2 ?_
          refine r_invV x_343_70 (z := 246) (ns := 0) (by decide +kernel) (as := [g_n (g_i M10 b15 v5)]) (r := []) rfl rfl rfl hO1 rfl rfl ?_
          refine r_callV h fun M20 hx21 hok22 h => ?_
          replace h := h hx21 hok22
          replace hO1 := hO1.up hx21
          replace hA18 := hA18.up hx21
          refine r_aload_n x_343_73 rfl ?_
          refine r_iload x_343_74 rfl ?_
          refine r_iconst x_343_76 ?_
          refine r_iadd x_343_77 ?_
          obtain ⟨h23, h⟩ := h
          refine r_aload_n x_343_78 rfl ?_
          refine r_iload x_343_79 rfl ?_
          refine r_invV x_343_81 (z := 232) (ns := 0) (by decide +kernel) (as := [g_n v5]) (r := [g_n (v5 + 1), .ref a0]) rfl rfl rfl hO1 rfl rfl ?_
          refine r_callI h fun r27 M24 hx25 hok26 hr28 h => ?_
          replace h := h hx25 hok26 hr28
          replace hO1 := hO1.up hx25
          replace hA18 := hA18.up hx25
          refine r_invV x_343_84 (z := 248) (ns := 0) (by decide +kernel) (as := [g_n (v5 + 1), g_n r27]) (r := []) rfl rfl rfl hO1 rfl rfl ?_
          refine r_callV h fun M29 hx30 hok31 h => ?_
          replace h := h hx30 hok31
          replace hO1 := hO1.up hx30
          replace hA18 := hA18.up hx30
          refine r_aload_n x_343_87 rfl ?_
          refine r_iconst x_343_88 ?_
          refine r_invV x_343_89 (z := 246) (ns := 0) (by decide +kernel) (as := [g_n 0]) (r := []) rfl rfl rfl hO1 rfl rfl ?_
          refine r_callV h fun M32 hx33 hok34 h => ?_
          replace h := h hx33 hok34
          replace hO1 := hO1.up hx33
          replace hA18 := hA18.up hx33
          refine r_aload_n x_343_92 rfl ?_
          refine r_aload_n x_343_93 rfl ?_
          refine r_iload x_343_94 rfl ?_
          refine r_invV x_343_96 (z := 233) (ns := 0) (by decide +kernel) (as := [g_n v5]) (r := [.ref a0]) rfl rfl rfl hO1 rfl rfl ?_
          refine r_callI h fun r38 M35 hx36 hok37 hr39 h => ?_
          replace h := h hx36 hok37 hr39
          replace hO1 := hO1.up hx36
          replace hA18 := hA18.up hx36
          refine r_iload_n x_343_99 rfl ?_
          refine r_iload_n x_343_100 rfl ?_
          refine r_invV x_343_101 (z := 343) (ns := 0) (by decide +kernel) (as := [g_n r38, g_n v2, g_n v3]) (r := []) rfl rfl rfl hO1 rfl rfl ?_
          refine r_callV h fun M40 hx41 hok42 h => ?_
          replace h := h hx41 hok42
          replace hO1 := hO1.up hx41
          replace hA18 := hA18.up hx41
          refine r_goto x_343_104 (t := 119) (by decide +kernel) ?_
          refine r_aload_n x_343_119 rfl ?_
          refine r_iload x_343_120 rfl ?_
          refine r_invV x_343_122 (z := 235) (ns := 0) (by decide +kernel) (as := [g_n v5]) (r := []) rfl rfl rfl hO1 rfl rfl ?_
          refine r_callI h fun r46 M43 hx44 hok45 hr47 h => ?_
          replace h := h hx44 hok45 hr47
          replace hO1 := hO1.up hx44
          replace hA18 := hA18.up hx44
          refine r_istore x_343_125 (by decide +kernel) rfl (lv1 := [(0, .ref a0), (1, g_n v1), (2, g_n v2), (3, g_n v3), (4, g_n v4), (5, g_n r46)]) rfl ?_
          refine r_goto x_343_127 (t := 12) (by decide +kernel) ?_
          exact h
    · replace h := h.1 hc
      refine r_aload_n x_343_28 rfl ?_
      refine r_iload x_343_29 rfl ?_
      refine r_iconst x_343_31 ?_
      refine r_iadd x_343_32 ?_
      obtain ⟨h48, h⟩ := h
      refine r_aload_n x_343_33 rfl ?_
      refine r_iload x_343_34 rfl ?_
      refine r_invV x_343_36 (z := 232) (ns := 0) (by decide +kernel) (as := [g_n v5]) (r := [g_n (v5 + 1), .ref a0]) rfl rfl rfl hO1 rfl rfl ?_
      refine r_callI h fun r52 M49 hx50 hok51 hr53 h => ?_
      replace h := h hx50 hok51 hr53
      replace hO1 := hO1.up hx50
      refine r_iload_n x_343_39 rfl ?_
      refine r_invV x_343_40 (z := 254) (ns := 0) (by decide +kernel) (as := [g_n (v5 + 1), g_n r52, g_n v3]) (r := []) rfl rfl rfl hO1 rfl rfl ?_
      refine r_callV h fun M54 hx55 hok56 h => ?_
      replace h := h hx55 hok56
      replace hO1 := hO1.up hx55
      refine r_goto x_343_43 (t := 119) (by decide +kernel) ?_
      refine r_aload_n x_343_119 rfl ?_
      refine r_iload x_343_120 rfl ?_
      refine r_invV x_343_122 (z := 235) (ns := 0) (by decide +kernel) (as := [g_n v5]) (r := []) rfl rfl rfl hO1 rfl rfl ?_
      refine r_callI h fun r60 M57 hx58 hok59 hr61 h => ?_
      replace h := h hx58 hok59 hr61
      replace hO1 := hO1.up hx58
      refine r_istore x_343_125 (by decide +kernel) rfl (lv1 := [(0, .ref a0), (1, g_n v1), (2, g_n v2), (3, g_n v3), (4, g_n v4), (5, g_n r60)]) rfl ?_
      refine r_goto x_343_127 (t := 12) (by decide +kernel) ?_
      exact h
theorem s_X12_putUnwound_107 {d : Nat} {M : g_M} {Q : g_M → Prop} {a0 : Nat} {v1 : Int} (hv1 : g_InR v1) {v2 : Int} (hv2 : g_InR v2) {v3 : Int} (hv3 : g_InR v3) {v4 : Int} (hv4 : g_InR v4) {v5 : Int} (hv5 : g_InR v5) (h : g_ok M → g_O M a0 12 ∧ g_Call d 235 [.ref a0, g_n v5] M (g_qI fun r5 M2 => g_ext M M2 → g_ok M2 → g_InR r5 → g_Call d 248 [.ref a0, g_n v5, g_n r5] M2 (g_qV fun M7 => g_ext M2 M7 → g_ok M7 → g_Call d 235 [.ref a0, g_n v5] M7 (g_qI fun r13 M10 => g_ext M7 M10 → g_ok M10 → g_InR r13 → g_Run d 343 12 [(0, .ref a0), (1, g_n v1), (2, g_n v2), (3, g_n v3), (4, g_n v4), (5, g_n r13)] [] M10 (g_qV Q))))) : g_Run d 343 107 [(0, .ref a0), (1, g_n v1), (2, g_n v2), (3, g_n v3), (4, g_n v4), (5, g_n v5)] [] M (g_qV Q) := by
  refine g_Run.ok fun hok => ?_
  replace h := h hok
  refine r_aload_n x_343_107 rfl ?_
  refine r_iload x_343_108 rfl ?_
  refine r_aload_n x_343_110 rfl ?_
  refine r_iload x_343_111 rfl ?_
  obtain ⟨hO1, h⟩ := h
  refine r_invV x_343_113 (z := 235) (ns := 0) (by decide +kernel) (as := [g_n v5]) (r := [g_n v5, .ref a0]) rfl rfl rfl hO1 rfl rfl ?_
  refine r_callI h fun r5 M2 hx3 hok4 hr6 h => ?_
  replace h := h hx3 hok4 hr6
  replace hO1 := hO1.up hx3
  refine r_invV x_343_116 (z := 248) (ns := 0) (by decide +kernel) (as := [g_n v5, g_n r5]) (r := []) rfl rfl rfl hO1 rfl rfl ?_
  refine r_callV h fun M7 hx8 hok9 h => ?_
  replace h := h hx8 hok9
  replace hO1 := hO1.up hx8
  refine r_aload_n x_343_119 rfl ?_
  refine r_iload x_343_120 rfl ?_
  refine r_invV x_343_122 (z := 235) (ns := 0) (by decide +kernel) (as := [g_n v5]) (r := []) rfl rfl rfl hO1 rfl rfl ?_
  refine r_callI h fun r13 M10 hx11 hok12 hr14 h => ?_
  replace h := h hx11 hok12 hr14
  replace hO1 := hO1.up hx11
  refine r_istore x_343_125 (by decide +kernel) rfl (lv1 := [(0, .ref a0), (1, g_n v1), (2, g_n v2), (3, g_n v3), (4, g_n v4), (5, g_n r13)]) rfl ?_
  refine r_goto x_343_127 (t := 12) (by decide +kernel) ?_
  exact h
theorem m_X12_lookup {d : Nat} {M : g_M} {Q : g_M → Prop} {a0 : Nat} {v1 : Int} (hv1 : g_InR v1) {v2 : Int} (hv2 : g_InR v2) (h : g_ok M → g_O M a0 12 ∧ g_Call d 241 [.ref a0, g_n v1, g_n 0] M (g_qI fun r5 M2 => g_ext M M2 → g_ok M2 → g_InR r5 → g_Call d 241 [.ref a0, g_n v1, g_n 1] M2 (g_qI fun r10 M7 => g_ext M2 M7 → g_ok M7 → g_InR r10 → g_Call d 241 [.ref a0, g_n v1, g_n 2] M7 (g_qI fun r15 M12 => g_ext M7 M12 → g_ok M12 → g_InR r15 → g_Call d 233 [.ref a0, g_n r15] M12 (g_qI fun r20 M17 => g_ext M12 M17 → g_ok M17 → g_InR r20 → g_InR (r20 + 4) ∧ g_Call d 322 [.ref a0, g_n r15] M17 (g_qI fun r26 M23 => g_ext M17 M23 → g_ok M23 → g_InR r26 → g_Call d 240 [.ref a0, g_n v2, g_n (r20 + 4), g_n r26] M23 (g_qI fun r31 M28 => g_ext M23 M28 → g_ok M28 → g_InR r31 → g_Call d 251 [.ref a0] M28 (g_qI fun r36 M33 => g_ext M28 M33 → g_ok M33 → g_InR r36 → g_Call d 237 [g_n v2] M33 (g_qI fun r41 M38 => g_ext M33 M38 → g_ok M38 → g_InR r41 → g_Run d 344 64 [(0, .ref a0), (1, g_n v1), (2, g_n v2), (3, g_n r5), (4, g_n r10), (5, g_n r15), (6, g_n (r20 + 4)), (7, g_n r26), (8, g_n r31), (9, g_n r36), (10, g_n r41)] [] M38 (g_qV Q)))))))))) : g_Call (d + 1) 344 [.ref a0, g_n v1, g_n v2] M (g_qV Q) := by
  refine g_Call.ok fun hok0 => ?_
  replace h := h hok0
  refine r_body rfl (lv := [(0, .ref a0), (1, g_n v1), (2, g_n v2)]) rfl ?_
  refine g_Run.ok fun hok => ?_
  refine r_aload_n x_344_0 rfl ?_
  refine r_iload_n x_344_1 rfl ?_
  refine r_iconst x_344_2 ?_
  obtain ⟨hO1, h⟩ := h
  refine r_invV x_344_3 (z := 241) (ns := 0) (by decide +kernel) (as := [g_n v1, g_n 0]) (r := []) rfl rfl rfl hO1 rfl rfl ?_
  refine r_callI h fun r5 M2 hx3 hok4 hr6 h => ?_
  replace h := h hx3 hok4 hr6
  replace hO1 := hO1.up hx3
  refine r_istore_n x_344_6 (by decide +kernel) rfl (lv1 := [(0, .ref a0), (1, g_n v1), (2, g_n v2), (3, g_n r5)]) rfl ?_
  refine r_aload_n x_344_7 rfl ?_
  refine r_iload_n x_344_8 rfl ?_
  refine r_iconst x_344_9 ?_
  refine r_invV x_344_10 (z := 241) (ns := 0) (by decide +kernel) (as := [g_n v1, g_n 1]) (r := []) rfl rfl rfl hO1 rfl rfl ?_
  refine r_callI h fun r10 M7 hx8 hok9 hr11 h => ?_
  replace h := h hx8 hok9 hr11
  replace hO1 := hO1.up hx8
  refine r_istore x_344_13 (by decide +kernel) rfl (lv1 := [(0, .ref a0), (1, g_n v1), (2, g_n v2), (3, g_n r5), (4, g_n r10)]) rfl ?_
  refine r_aload_n x_344_15 rfl ?_
  refine r_iload_n x_344_16 rfl ?_
  refine r_iconst x_344_17 ?_
  refine r_invV x_344_18 (z := 241) (ns := 0) (by decide +kernel) (as := [g_n v1, g_n 2]) (r := []) rfl rfl rfl hO1 rfl rfl ?_
  refine r_callI h fun r15 M12 hx13 hok14 hr16 h => ?_
  replace h := h hx13 hok14 hr16
  replace hO1 := hO1.up hx13
  refine r_istore x_344_21 (by decide +kernel) rfl (lv1 := [(0, .ref a0), (1, g_n v1), (2, g_n v2), (3, g_n r5), (4, g_n r10), (5, g_n r15)]) rfl ?_
  refine r_aload_n x_344_23 rfl ?_
  refine r_iload x_344_24 rfl ?_
  refine r_invV x_344_26 (z := 233) (ns := 0) (by decide +kernel) (as := [g_n r15]) (r := []) rfl rfl rfl hO1 rfl rfl ?_
  refine r_callI h fun r20 M17 hx18 hok19 hr21 h => ?_
  replace h := h hx18 hok19 hr21
  replace hO1 := hO1.up hx18
  refine r_iconst x_344_29 ?_
  refine r_iadd x_344_30 ?_
  obtain ⟨h22, h⟩ := h
  refine r_istore x_344_31 (by decide +kernel) rfl (lv1 := [(0, .ref a0), (1, g_n v1), (2, g_n v2), (3, g_n r5), (4, g_n r10), (5, g_n r15), (6, g_n (r20 + 4))]) rfl ?_
  refine r_aload_n x_344_33 rfl ?_
  refine r_iload x_344_34 rfl ?_
  refine r_invV x_344_36 (z := 322) (ns := 0) (by decide +kernel) (as := [g_n r15]) (r := []) rfl rfl rfl hO1 rfl rfl ?_
  refine r_callI h fun r26 M23 hx24 hok25 hr27 h => ?_
  replace h := h hx24 hok25 hr27
  replace hO1 := hO1.up hx24
  refine r_istore x_344_39 (by decide +kernel) rfl (lv1 := [(0, .ref a0), (1, g_n v1), (2, g_n v2), (3, g_n r5), (4, g_n r10), (5, g_n r15), (6, g_n (r20 + 4)), (7, g_n r26)]) rfl ?_
  refine r_aload_n x_344_41 rfl ?_
  refine r_iload_n x_344_42 rfl ?_
  refine r_iload x_344_43 rfl ?_
  refine r_iload x_344_45 rfl ?_
  refine r_invV x_344_47 (z := 240) (ns := 0) (by decide +kernel) (as := [g_n v2, g_n (r20 + 4), g_n r26]) (r := []) rfl rfl rfl hO1 rfl rfl ?_
  refine r_callI h fun r31 M28 hx29 hok30 hr32 h => ?_
  replace h := h hx29 hok30 hr32
  replace hO1 := hO1.up hx29
  refine r_istore x_344_50 (by decide +kernel) rfl (lv1 := [(0, .ref a0), (1, g_n v1), (2, g_n v2), (3, g_n r5), (4, g_n r10), (5, g_n r15), (6, g_n (r20 + 4)), (7, g_n r26), (8, g_n r31)]) rfl ?_
  refine r_aload_n x_344_52 rfl ?_
  refine r_invV x_344_53 (z := 251) (ns := 0) (by decide +kernel) (as := []) (r := []) rfl rfl rfl hO1 rfl rfl ?_
  refine r_callI h fun r36 M33 hx34 hok35 hr37 h => ?_
  replace h := h hx34 hok35 hr37
  replace hO1 := hO1.up hx34
  refine r_istore x_344_56 (by decide +kernel) rfl (lv1 := [(0, .ref a0), (1, g_n v1), (2, g_n v2), (3, g_n r5), (4, g_n r10), (5, g_n r15), (6, g_n (r20 + 4)), (7, g_n r26), (8, g_n r31), (9, g_n r36)]) rfl ?_
  refine r_iload_n x_344_58 rfl ?_
  refine r_invS x_344_59 (z := 237) (ns := 0) (by decide +kernel) (as := [g_n v2]) (r := []) rfl rfl rfl ?_
  refine r_callI h fun r41 M38 hx39 hok40 hr42 h => ?_
  replace h := h hx39 hok40 hr42
  replace hO1 := hO1.up hx39
  refine r_istore x_344_62 (by decide +kernel) rfl (lv1 := [(0, .ref a0), (1, g_n v1), (2, g_n v2), (3, g_n r5), (4, g_n r10), (5, g_n r15), (6, g_n (r20 + 4)), (7, g_n r26), (8, g_n r31), (9, g_n r36), (10, g_n r41)]) rfl ?_
  exact h
theorem s_X12_lookup_64 {d : Nat} {M : g_M} {Q : g_M → Prop} {a0 : Nat} {v1 : Int} (hv1 : g_InR v1) {v2 : Int} (hv2 : g_InR v2) {v3 : Int} (hv3 : g_InR v3) {v4 : Int} (hv4 : g_InR v4) {v5 : Int} (hv5 : g_InR v5) {v6 : Int} (hv6 : g_InR v6) {v7 : Int} (hv7 : g_InR v7) {v8 : Int} (hv8 : g_InR v8) {v9 : Int} (hv9 : g_InR v9) {v10 : Int} (hv10 : g_InR v10) (h : g_ok M → g_O M a0 12 ∧ g_Call d 238 [.ref a0, g_n v2] M (g_qI fun r5 M2 => g_ext M M2 → g_ok M2 → g_InR r5 → ((v10 < r5 → ((v10 = v8 → g_Call d 346 [.ref a0, g_n v3, g_n v4, g_n v6, g_n v7, g_n v2] M2 (g_qV fun M35 => g_ext M2 M35 → g_ok M35 → g_Call d 235 [.ref a0, g_n v10] M35 (g_qI fun r41 M38 => g_ext M35 M38 → g_ok M38 → g_InR r41 → g_Run d 344 64 [(0, .ref a0), (1, g_n v1), (2, g_n v2), (3, g_n v3), (4, g_n v4), (5, g_n v5), (6, g_n v6), (7, g_n v7), (8, g_n v8), (9, g_n v9), (10, g_n r41)] [] M38 (g_qV Q)))) ∧ (¬ v10 = v8 → g_Call d 235 [.ref a0, g_n v10] M2 (g_qI fun r25 M22 => g_ext M2 M22 → g_ok M22 → g_InR r25 → g_Call d 248 [.ref a0, g_n v10, g_n r25] M22 (g_qV fun M27 => g_ext M22 M27 → g_ok M27 → g_Call d 235 [.ref a0, g_n v10] M27 (g_qI fun r33 M30 => g_ext M27 M30 → g_ok M30 → g_InR r33 → g_Run d 344 64 [(0, .ref a0), (1, g_n v1), (2, g_n v2), (3, g_n v3), (4, g_n v4), (5, g_n v5), (6, g_n v6), (7, g_n v7), (8, g_n v8), (9, g_n v9), (10, g_n r33)] [] M30 (g_qV Q))))))) ∧ (¬ v10 < r5 → ((v8 = (-1) → g_Call d 346 [.ref a0, g_n v3, g_n v4, g_n v6, g_n v7, g_n v2] M2 (g_qV fun M13 => g_ext M2 M13 → g_ok M13 → g_Call d 252 [.ref a0, g_n v9] M13 (g_qV fun M16 => g_ext M13 M16 → g_ok M16 → g_Call d 336 [.ref a0, g_n v9] M16 (g_qV fun M19 => g_ext M16 M19 → g_ok M19 → Q M19)))) ∧ (¬ v8 = (-1) → g_Call d 252 [.ref a0, g_n v9] M2 (g_qV fun M7 => g_ext M2 M7 → g_ok M7 → g_Call d 336 [.ref a0, g_n v9] M7 (g_qV fun M10 => g_ext M7 M10 → g_ok M10 → Q M10)))))))) : g_Run d 344 64 [(0, .ref a0), (1, g_n v1), (2, g_n v2), (3, g_n v3), (4, g_n v4), (5, g_n v5), (6, g_n v6), (7, g_n v7), (8, g_n v8), (9, g_n v9), (10, g_n v10)] [] M (g_qV Q) := by
  refine g_Run.ok fun hok => ?_
  replace h := h hok
  refine r_iload x_344_64 rfl ?_
  refine r_aload_n x_344_66 rfl ?_
  refine r_iload_n x_344_67 rfl ?_
  obtain ⟨hO1, h⟩ := h
  refine r_invV x_344_68 (z := 238) (ns := 0) (by decide +kernel) (as := [g_n v2]) (r := [g_n v10]) rfl rfl rfl hO1 rfl rfl ?_
  refine r_callI h fun r5 M2 hx3 hok4 hr6 h => ?_
  replace h := h hx3 hok4 hr6
  replace hO1 := hO1.up hx3
  refine r_ic_ge x_344_71 (t := 119) (by decide +kernel) hv10 hr6 (fun hc => ?_) (fun hc => ?_)
  · replace h := h.2 hc
    refine r_iload x_344_119 rfl ?_
    refine r_iconst x_344_121 ?_
    refine r_ic_ne x_344_122 (t := 137) (by decide +kernel) hv8 (g_Rk rfl) (fun hc => ?_) (fun hc => ?_)
    · replace h := h.2 hc
      refine r_aload_n x_344_137 rfl ?_
      refine r_iload x_344_138 rfl ?_
      refine r_invV x_344_140 (z := 252) (ns := 0) (by decide +kernel) (as := [g_n v9]) (r := []) rfl rfl rfl hO1 rfl rfl ?_
      refine r_callV h fun M7 hx8 hok9 h => ?_
      replace h := h hx8 hok9
      replace hO1 := hO1.up hx8
      refine r_aload_n x_344_143 rfl ?_
      refine r_iload x_344_144 rfl ?_
      refine r_invV x_344_146 (z := 336) (ns := 0) (by decide +kernel) (as := [g_n v9]) (r := []) rfl rfl rfl hO1 rfl rfl ?_
      refine r_callV h fun M10 hx11 hok12 h => ?_
      replace h := h hx11 hok12
      replace hO1 := hO1.up hx11
      exact r_retV x_344_149 rfl h
    · replace h := h.1 hc
      refine r_aload_n x_344_125 rfl ?_
      refine r_iload_n x_344_126 rfl ?_
      refine r_iload x_344_127 rfl ?_
      refine r_iload x_344_129 rfl ?_
      refine r_iload x_344_131 rfl ?_
      refine r_iload_n x_344_133 rfl ?_
      refine r_invV x_344_134 (z := 346) (ns := 0) (by decide +kernel) (as := [g_n v3, g_n v4, g_n v6, g_n v7, g_n v2]) (r := []) rfl rfl rfl hO1 rfl rfl ?_
      refine r_callV h fun M13 hx14 hok15 h => ?_
      replace h := h hx14 hok15
      replace hO1 := hO1.up hx14
      refine r_aload_n x_344_137 rfl ?_
      refine r_iload x_344_138 rfl ?_
      refine r_invV x_344_140 (z := 252) (ns := 0) (by decide +kernel) (as := [g_n v9]) (r := []) rfl rfl rfl hO1 rfl rfl ?_
      refine r_callV h fun M16 hx17 hok18 h => ?_
      replace h := h hx17 hok18
      replace hO1 := hO1.up hx17
      refine r_aload_n x_344_143 rfl ?_
      refine r_iload x_344_144 rfl ?_
      refine r_invV x_344_146 (z := 336) (ns := 0) (by decide +kernel) (as := [g_n v9]) (r := []) rfl rfl rfl hO1 rfl rfl ?_
      refine r_callV h fun M19 hx20 hok21 h => ?_
      replace h := h hx20 hok21
      replace hO1 := hO1.up hx20
      exact r_retV x_344_149 rfl h
  · replace h := h.1 hc
    refine r_iload x_344_74 rfl ?_
    refine r_iload x_344_76 rfl ?_
    refine r_ic_ne x_344_78 (t := 96) (by decide +kernel) hv10 hv8 (fun hc => ?_) (fun hc => ?_)
    · replace h := h.2 hc
      refine r_aload_n x_344_96 rfl ?_
      refine r_iload x_344_97 rfl ?_
      refine r_aload_n x_344_99 rfl ?_
      refine r_iload x_344_100 rfl ?_
      refine r_invV x_344_102 (z := 235) (ns := 0) (by decide +kernel) (as := [g_n v10]) (r := [g_n v10, .ref a0]) rfl rfl rfl hO1 rfl rfl ?_
      refine r_callI h fun r25 M22 hx23 hok24 hr26 h => ?_
      replace h := h hx23 hok24 hr26
      replace hO1 := hO1.up hx23
      refine r_invV x_344_105 (z := 248) (ns := 0) (by decide +kernel) (as := [g_n v10, g_n r25]) (r := []) rfl rfl rfl hO1 rfl rfl ?_
      refine r_callV h fun M27 hx28 hok29 h => ?_
      replace h := h hx28 hok29
      replace hO1 := hO1.up hx28
      refine r_aload_n x_344_108 rfl ?_
      refine r_iload x_344_109 rfl ?_
      refine r_invV x_344_111 (z := 235) (ns := 0) (by decide +kernel) (as := [g_n v10]) (r := []) rfl rfl rfl hO1 rfl rfl ?_
      refine r_callI h fun r33 M30 hx31 hok32 hr34 h => ?_
      replace h := h hx31 hok32 hr34
      replace hO1 := hO1.up hx31
      refine r_istore x_344_114 (by decide +kernel) rfl (lv1 := [(0, .ref a0), (1, g_n v1), (2, g_n v2), (3, g_n v3), (4, g_n v4), (5, g_n v5), (6, g_n v6), (7, g_n v7), (8, g_n v8), (9, g_n v9), (10, g_n r33)]) rfl ?_
      refine r_goto x_344_116 (t := 64) (by decide +kernel) ?_
      exact h
    · replace h := h.1 hc
      refine r_aload_n x_344_81 rfl ?_
      refine r_iload_n x_344_82 rfl ?_
      refine r_iload x_344_83 rfl ?_
      refine r_iload x_344_85 rfl ?_
      refine r_iload x_344_87 rfl ?_
      refine r_iload_n x_344_89 rfl ?_
      refine r_invV x_344_90 (z := 346) (ns := 0) (by decide +kernel) (as := [g_n v3, g_n v4, g_n v6, g_n v7, g_n v2]) (r := []) rfl rfl rfl hO1 rfl rfl ?_
      refine r_callV h fun M35 hx36 hok37 h => ?_
      replace h := h hx36 hok37
      replace hO1 := hO1.up hx36
      refine r_goto x_344_93 (t := 108) (by decide +kernel) ?_
      refine r_aload_n x_344_108 rfl ?_
      refine r_iload x_344_109 rfl ?_
      refine r_invV x_344_111 (z := 235) (ns := 0) (by decide +kernel) (as := [g_n v10]) (r := []) rfl rfl rfl hO1 rfl rfl ?_
      refine r_callI h fun r41 M38 hx39 hok40 hr42 h => ?_
      replace h := h hx39 hok40 hr42
      replace hO1 := hO1.up hx39
      refine r_istore x_344_114 (by decide +kernel) rfl (lv1 := [(0, .ref a0), (1, g_n v1), (2, g_n v2), (3, g_n v3), (4, g_n v4), (5, g_n v5), (6, g_n v6), (7, g_n v7), (8, g_n v8), (9, g_n v9), (10, g_n r41)]) rfl ?_
      refine r_goto x_344_116 (t := 64) (by decide +kernel) ?_
      exact h
theorem m_X12_once {d : Nat} {M : g_M} {Q : g_M → Prop} {a0 : Nat} {v1 : Int} (hv1 : g_InR v1) (h : g_ok M → g_Run d 345 4 [(0, .ref a0), (1, g_n v1), (2, g_n v1), (3, g_n v1)] [] M (g_qV Q)) : g_Call (d + 1) 345 [.ref a0, g_n v1] M (g_qV Q) := by
  refine g_Call.ok fun hok0 => ?_
  replace h := h hok0
  refine r_body rfl (lv := [(0, .ref a0), (1, g_n v1)]) rfl ?_
  refine g_Run.ok fun hok => ?_
  refine r_iload_n x_345_0 rfl ?_
  refine r_istore_n x_345_1 (by decide +kernel) rfl (lv1 := [(0, .ref a0), (1, g_n v1), (2, g_n v1)]) rfl ?_
  refine r_iload_n x_345_2 rfl ?_
  refine r_istore_n x_345_3 (by decide +kernel) rfl (lv1 := [(0, .ref a0), (1, g_n v1), (2, g_n v1), (3, g_n v1)]) rfl ?_
  exact h
theorem s_X12_once_4 {d : Nat} {M : g_M} {Q : g_M → Prop} {a0 : Nat} {v1 : Int} (hv1 : g_InR v1) {v2 : Int} (hv2 : g_InR v2) {v3 : Int} (hv3 : g_InR v3) (h : g_ok M → g_O M a0 12 ∧ ((v3 < g_i M a0 10 → g_Run d 345 15 [(0, .ref a0), (1, g_n v1), (2, g_n v2), (3, g_n v3), (4, g_n v1)] [] M (g_qV Q)) ∧ (¬ v3 < g_i M a0 10 → (∀ M2, M2 = g_wi M a0 10 v2 → g_ok M2 → Q M2)))) : g_Run d 345 4 [(0, .ref a0), (1, g_n v1), (2, g_n v2), (3, g_n v3)] [] M (g_qV Q) := by
  refine g_Run.ok fun hok => ?_
  replace h := h hok
  refine r_iload_n x_345_4 rfl ?_
  refine r_aload_n x_345_5 rfl ?_
  obtain ⟨hO1, h⟩ := h
  refine r_getI x_345_6 rfl (ci := 12) (k := 10) (ns := 0) (by decide +kernel) (by decide) rfl (kz := 10) rfl hO1 ?_
  refine r_ic_ge x_345_9 (t := 73) (by decide +kernel) hv3 (hok.1 _ _) (fun hc => ?_) (fun hc => ?_)
  · replace h := h.2 hc
    refine r_aload_n x_345_73 rfl ?_
    refine r_iload_n x_345_74 rfl ?_
    refine r_putI x_345_75 (ci := 12) (k := 10) (ns := 0) (by decide +kernel) (by decide) (g_f0 (by decide +kernel)) rfl hv2 trivial (kz := 10) rfl hO1 ?_
    obtain ⟨M2, hM3⟩ : ∃ Mz, Mz = g_wi M a0 10 v2 := ⟨_, rfl⟩
    rw [← hM3]
    refine g_Run.ok fun hok4 => ?_
    replace h := h M2 hM3 hok4
    have hx5 := g_extW hM3
    replace hO1 := hO1.up hx5
    exact r_retV x_345_78 rfl h
  · replace h := h.1 hc
    refine r_iload_n x_345_12 rfl ?_
    refine r_istore x_345_13 (by decide +kernel) rfl (lv1 := [(0, .ref a0), (1, g_n v1), (2, g_n v2), (3, g_n v3), (4, g_n v1)]) rfl ?_
    exact h
theorem s_X12_once_15 {d : Nat} {M : g_M} {Q : g_M → Prop} {a0 : Nat} {v1 : Int} (hv1 : g_InR v1) {v2 : Int} (hv2 : g_InR v2) {v3 : Int} (hv3 : g_InR v3) {v4 : Int} (hv4 : g_InR v4) (h : g_ok M → ((v4 < v2 → g_O M a0 12 ∧ ∃ b2, g_r M a0 9 = some b2 ∧ ∃ n4, g_A M b2 1 n4 ∧ ((0 : Int) ≤ v4 ∧ (v4 : Int) < n4) ∧ ∃ b7, g_r M a0 9 = some b7 ∧ ∃ n9, g_A M b7 1 n9 ∧ ((0 : Int) ≤ v3 ∧ (v3 : Int) < n9) ∧ ((g_i M b2 v4 = g_i M b7 v3 → g_Run d 345 43 [(0, .ref a0), (1, g_n v1), (2, g_n v2), (3, g_n v3), (4, g_n v4)] [] M (g_qV Q)) ∧ (¬ g_i M b2 v4 = g_i M b7 v3 → g_InR (v4 + 1) ∧ g_Run d 345 15 [(0, .ref a0), (1, g_n v1), (2, g_n v2), (3, g_n v3), (4, g_n (v4 + 1))] [] M (g_qV Q)))) ∧ (¬ v4 < v2 → g_Run d 345 43 [(0, .ref a0), (1, g_n v1), (2, g_n v2), (3, g_n v3), (4, g_n v4)] [] M (g_qV Q)))) : g_Run d 345 15 [(0, .ref a0), (1, g_n v1), (2, g_n v2), (3, g_n v3), (4, g_n v4)] [] M (g_qV Q) := by
  refine g_Run.ok fun hok => ?_
  replace h := h hok
  refine r_iload x_345_15 rfl ?_
  refine r_iload_n x_345_17 rfl ?_
  refine r_ic_ge x_345_18 (t := 43) (by decide +kernel) hv4 hv2 (fun hc => ?_) (fun hc => ?_)
  · replace h := h.2 hc
    exact h
  · replace h := h.1 hc
    refine r_aload_n x_345_21 rfl ?_
    obtain ⟨hO1, h⟩ := h
    obtain ⟨b2, hb3, h⟩ := h
    refine r_getR x_345_22 rfl (ci := 12) (k := 9) (ns := 0) (by decide +kernel) (by decide) rfl (kz := 9) rfl hO1 hb3 ?_
    refine r_iload x_345_25 rfl ?_
    obtain ⟨n4, hA5, h⟩ := h
    obtain ⟨h6, h⟩ := h
    refine r_iald x_345_27 hA5 hv4 h6.1 h6.2 ?_
    refine r_aload_n x_345_28 rfl ?_
    obtain ⟨b7, hb8, h⟩ := h
    refine r_getR x_345_29 rfl (ci := 12) (k := 9) (ns := 0) (by decide +kernel) (by decide) rfl (kz := 9) rfl hO1 hb8 ?_
    refine r_iload_n x_345_32 rfl ?_
    obtain ⟨n9, hA10, h⟩ := h
    obtain ⟨h11, h⟩ := h
    refine r_iald x_345_33 hA10 hv3 h11.1 h11.2 ?_
    refine r_ic_eq x_345_34 (t := 43) (by decide +kernel) (hok.1 _ _) (hok.1 _ _) (fun hc => ?_) (fun hc => ?_)
    · replace h := h.1 hc
      exact h
    · replace h := h.2 hc
      obtain ⟨h12, h⟩ := h
      refine r_iinc x_345_37 (by decide +kernel) rfl rfl (lv1 := [(0, .ref a0), (1, g_n v1), (2, g_n v2), (3, g_n v3), (4, g_n (v4 + 1))]) rfl ?_
      refine r_goto x_345_40 (t := 15) (by decide +kernel) ?_
      exact h
theorem s_X12_once_43 {d : Nat} {M : g_M} {Q : g_M → Prop} {a0 : Nat} {v1 : Int} (hv1 : g_InR v1) {v2 : Int} (hv2 : g_InR v2) {v3 : Int} (hv3 : g_InR v3) {v4 : Int} (hv4 : g_InR v4) (h : g_ok M → ((v4 < v2 → g_InR (v3 + 1) ∧ g_Run d 345 4 [(0, .ref a0), (1, g_n v1), (2, g_n v2), (3, g_n (v3 + 1))] [] M (g_qV Q)) ∧ (¬ v4 < v2 → g_O M a0 12 ∧ ∃ b2, g_r M a0 9 = some b2 ∧ ∃ b4, g_r M a0 9 = some b4 ∧ ∃ n6, g_A M b4 1 n6 ∧ ((0 : Int) ≤ v3 ∧ (v3 : Int) < n6) ∧ ∃ n9, g_A M b2 1 n9 ∧ ((0 : Int) ≤ v2 ∧ (v2 : Int) < n9) ∧ (∀ M12, M12 = g_wi M b2 v2 (g_i M b4 v3) → g_ok M12 → g_InR (v2 + 1) ∧ g_InR (v3 + 1) ∧ g_Run d 345 4 [(0, .ref a0), (1, g_n v1), (2, g_n (v2 + 1)), (3, g_n (v3 + 1))] [] M12 (g_qV Q))))) : g_Run d 345 43 [(0, .ref a0), (1, g_n v1), (2, g_n v2), (3, g_n v3), (4, g_n v4)] [] M (g_qV Q) := by
  refine g_Run.ok fun hok => ?_
  replace h := h hok
  refine r_iload x_345_43 rfl ?_
  refine r_iload_n x_345_45 rfl ?_
  refine r_ic_ge x_345_46 (t := 52) (by decide +kernel) hv4 hv2 (fun hc => ?_) (fun hc => ?_)
  · replace h := h.2 hc
    refine r_aload_n x_345_52 rfl ?_
    obtain ⟨hO1, h⟩ := h
    obtain ⟨b2, hb3, h⟩ := h
    refine r_getR x_345_53 rfl (ci := 12) (k := 9) (ns := 0) (by decide +kernel) (by decide) rfl (kz := 9) rfl hO1 hb3 ?_
    refine r_iload_n x_345_56 rfl ?_
    refine r_aload_n x_345_57 rfl ?_
    obtain ⟨b4, hb5, h⟩ := h
    refine r_getR x_345_58 rfl (ci := 12) (k := 9) (ns := 0) (by decide +kernel) (by decide) rfl (kz := 9) rfl hO1 hb5 ?_
    refine r_iload_n x_345_61 rfl ?_
    obtain ⟨n6, hA7, h⟩ := h
    obtain ⟨h8, h⟩ := h
    refine r_iald x_345_62 hA7 hv3 h8.1 h8.2 ?_
    obtain ⟨n9, hA10, h⟩ := h
    obtain ⟨h11, h⟩ := h
    refine r_iast x_345_63 hA10 hv2 h11.1 h11.2 (hok.1 _ _) ?_
    obtain ⟨M12, hM13⟩ : ∃ Mz, Mz = g_wi M b2 v2 (g_i M b4 v3) := ⟨_, rfl⟩
    rw [← hM13]
    refine g_Run.ok fun hok14 => ?_
    replace h := h M12 hM13 hok14
    have hx15 := g_extW hM13
    replace hO1 := hO1.up hx15
    replace hA7 := hA7.up hx15
    replace hA10 := hA10.up hx15
    obtain ⟨h16, h⟩ := h
    refine r_iinc x_345_64 (by decide +kernel) rfl rfl (lv1 := [(0, .ref a0), (1, g_n v1), (2, g_n (v2 + 1)), (3, g_n v3), (4, g_n v4)]) rfl ?_
    obtain ⟨h17, h⟩ := h
    refine r_iinc x_345_67 (by decide +kernel) rfl rfl (lv1 := [(0, .ref a0), (1, g_n v1), (2, g_n (v2 + 1)), (3, g_n (v3 + 1)), (4, g_n v4)]) rfl ?_
    refine r_goto x_345_70 (t := 4) (by decide +kernel) ?_
    refine g_drop [0, 1, 2, 3] (lv1 := [(0, .ref a0), (1, g_n v1), (2, g_n (v2 + 1)), (3, g_n (v3 + 1))]) rfl ?_
    exact h
  · replace h := h.1 hc
    refine r_goto x_345_49 (t := 67) (by decide +kernel) ?_
    obtain ⟨h18, h⟩ := h
    refine r_iinc x_345_67 (by decide +kernel) rfl rfl (lv1 := [(0, .ref a0), (1, g_n v1), (2, g_n v2), (3, g_n (v3 + 1)), (4, g_n v4)]) rfl ?_
    refine r_goto x_345_70 (t := 4) (by decide +kernel) ?_
    refine g_drop [0, 1, 2, 3] (lv1 := [(0, .ref a0), (1, g_n v1), (2, g_n v2), (3, g_n (v3 + 1))]) rfl ?_
    exact h
theorem m_X12_putJoined {d : Nat} {M : g_M} {Q : g_M → Prop} {a0 : Nat} {v1 : Int} (hv1 : g_InR v1) {v2 : Int} (hv2 : g_InR v2) {v3 : Int} (hv3 : g_InR v3) {v4 : Int} (hv4 : g_InR v4) {v5 : Int} (hv5 : g_InR v5) (h : g_ok M → g_O M a0 12 ∧ g_Call d 246 [.ref a0, g_n 4] M (g_qV fun M2 => g_ext M M2 → g_ok M2 → g_Call d 248 [.ref a0, g_n v3, g_n v4] M2 (g_qV fun M5 => g_ext M2 M5 → g_ok M5 → g_Call d 246 [.ref a0, g_n 0] M5 (g_qV fun M8 => g_ext M5 M8 → g_ok M8 → g_Call d 251 [.ref a0] M8 (g_qI fun r14 M11 => g_ext M8 M11 → g_ok M11 → g_InR r14 → g_Call d 233 [.ref a0, g_n v1] M11 (g_qI fun r19 M16 => g_ext M11 M16 → g_ok M16 → g_InR r19 → g_InR (r19 + 4) ∧ g_Call d 322 [.ref a0, g_n v1] M16 (g_qI fun r25 M22 => g_ext M16 M22 → g_ok M22 → g_InR r25 → g_Call d 281 [.ref a0, g_n v5, g_n (r19 + 4), g_n r25] M22 (g_qI fun r30 M27 => g_ext M22 M27 → g_ok M27 → g_InR r30 → ((r30 = g_i M27 a0 10 → g_Call d 277 [.ref a0, g_n ((-1))] M27 (g_qV fun M35 => g_ext M27 M35 → g_ok M35 → g_Call d 345 [.ref a0, g_n r30] M35 (g_qV fun M38 => g_ext M35 M38 → g_ok M38 → g_Run d 346 81 [(0, .ref a0), (1, g_n v1), (2, g_n v2), (3, g_n v3), (4, g_n v4), (5, g_n v5), (6, g_n r14), (7, g_n 0), (8, g_n (g_i M11 a0 10)), (9, g_n r30), (10, g_n (g_i M38 a0 10)), (11, g_n 0)] [] M38 (g_qV Q)))) ∧ (¬ r30 = g_i M27 a0 10 → g_Call d 345 [.ref a0, g_n r30] M27 (g_qV fun M32 => g_ext M27 M32 → g_ok M32 → g_Run d 346 81 [(0, .ref a0), (1, g_n v1), (2, g_n v2), (3, g_n v3), (4, g_n v4), (5, g_n v5), (6, g_n r14), (7, g_n 0), (8, g_n (g_i M11 a0 10)), (9, g_n r30), (10, g_n (g_i M32 a0 10)), (11, g_n 0)] [] M32 (g_qV Q)))))))))))) : g_Call (d + 1) 346 [.ref a0, g_n v1, g_n v2, g_n v3, g_n v4, g_n v5] M (g_qV Q) := by
  refine g_Call.ok fun hok0 => ?_
  replace h := h hok0
  refine r_body rfl (lv := [(0, .ref a0), (1, g_n v1), (2, g_n v2), (3, g_n v3), (4, g_n v4), (5, g_n v5)]) rfl ?_
  refine g_Run.ok fun hok => ?_
  refine r_aload_n x_346_0 rfl ?_
  refine r_iconst x_346_1 ?_
  obtain ⟨hO1, h⟩ := h
  refine r_invV x_346_2 (z := 246) (ns := 0) (by decide +kernel) (as := [g_n 4]) (r := []) rfl rfl rfl hO1 rfl rfl ?_
  refine r_callV h fun M2 hx3 hok4 h => ?_
  replace h := h hx3 hok4
  replace hO1 := hO1.up hx3
  refine r_aload_n x_346_5 rfl ?_
  refine r_iload_n x_346_6 rfl ?_
  refine r_iload x_346_7 rfl ?_
  refine r_invV x_346_9 (z := 248) (ns := 0) (by decide +kernel) (as := [g_n v3, g_n v4]) (r := []) rfl rfl rfl hO1 rfl rfl ?_
  refine r_callV h fun M5 hx6 hok7 h => ?_
  replace h := h hx6 hok7
  replace hO1 := hO1.up hx6
  refine r_aload_n x_346_12 rfl ?_
  refine r_iconst x_346_13 ?_
  refine r_invV x_346_14 (z := 246) (ns := 0) (by decide +kernel) (as := [g_n 0]) (r := []) rfl rfl rfl hO1 rfl rfl ?_
  refine r_callV h fun M8 hx9 hok10 h => ?_
  replace h := h hx9 hok10
  replace hO1 := hO1.up hx9
  refine r_aload_n x_346_17 rfl ?_
  refine r_invV x_346_18 (z := 251) (ns := 0) (by decide +kernel) (as := []) (r := []) rfl rfl rfl hO1 rfl rfl ?_
  refine r_callI h fun r14 M11 hx12 hok13 hr15 h => ?_
  replace h := h hx12 hok13 hr15
  replace hO1 := hO1.up hx12
  refine r_istore x_346_21 (by decide +kernel) rfl (lv1 := [(0, .ref a0), (1, g_n v1), (2, g_n v2), (3, g_n v3), (4, g_n v4), (5, g_n v5), (6, g_n r14)]) rfl ?_
  refine r_iconst x_346_23 ?_
  refine r_istore x_346_24 (by decide +kernel) rfl (lv1 := [(0, .ref a0), (1, g_n v1), (2, g_n v2), (3, g_n v3), (4, g_n v4), (5, g_n v5), (6, g_n r14), (7, g_n 0)]) rfl ?_
  refine r_aload_n x_346_26 rfl ?_
  refine r_getI x_346_27 rfl (ci := 12) (k := 10) (ns := 0) (by decide +kernel) (by decide) rfl (kz := 10) rfl hO1 ?_
  refine r_istore x_346_30 (by decide +kernel) rfl (lv1 := [(0, .ref a0), (1, g_n v1), (2, g_n v2), (3, g_n v3), (4, g_n v4), (5, g_n v5), (6, g_n r14), (7, g_n 0), (8, g_n (g_i M11 a0 10))]) rfl ?_
  refine r_aload_n x_346_32 rfl ?_
  refine r_iload x_346_33 rfl ?_
  refine r_aload_n x_346_35 rfl ?_
  refine r_iload_n x_346_36 rfl ?_
  refine r_invV x_346_37 (z := 233) (ns := 0) (by decide +kernel) (as := [g_n v1]) (r := [g_n v5, .ref a0]) rfl rfl rfl hO1 rfl rfl ?_
  refine r_callI h fun r19 M16 hx17 hok18 hr20 h => ?_
  replace h := h hx17 hok18 hr20
  replace hO1 := hO1.up hx17
  refine r_iconst x_346_40 ?_
  refine r_iadd x_346_41 ?_
  obtain ⟨h21, h⟩ := h
  refine r_aload_n x_346_42 rfl ?_
  refine r_iload_n x_346_43 rfl ?_
  refine r_invV x_346_44 (z := 322) (ns := 0) (by decide +kernel) (as := [g_n v1]) (r := [g_n (r19 + 4), g_n v5, .ref a0]) rfl rfl rfl hO1 rfl rfl ?_
  refine r_callI h fun r25 M22 hx23 hok24 hr26 h => ?_
  replace h := h hx23 hok24 hr26
  replace hO1 := hO1.up hx23
  refine r_invV x_346_47 (z := 281) (ns := 0) (by decide +kernel) (as := [g_n v5, g_n (r19 + 4), g_n r25]) (r := []) rfl rfl rfl hO1 rfl rfl ?_
  refine r_callI h fun r30 M27 hx28 hok29 hr31 h => ?_
  replace h := h hx28 hok29 hr31
  replace hO1 := hO1.up hx28
  refine r_istore x_346_50 (by decide +kernel) rfl (lv1 := [(0, .ref a0), (1, g_n v1), (2, g_n v2), (3, g_n v3), (4, g_n v4), (5, g_n v5), (6, g_n r14), (7, g_n 0), (8, g_n (g_i M11 a0 10)), (9, g_n r30)]) rfl ?_
  refine r_iload x_346_52 rfl ?_
  refine r_aload_n x_346_54 rfl ?_
  refine r_getI x_346_55 rfl (ci := 12) (k := 10) (ns := 0) (by decide +kernel) (by decide) rfl (kz := 10) rfl hO1 ?_
  refine r_ic_ne x_346_58 (t := 66) (by decide +kernel) hr31 (hok29.1 _ _) (fun hc => ?_) (fun hc => ?_)
  · replace h := h.2 hc
    refine r_aload_n x_346_66 rfl ?_
    refine r_iload x_346_67 rfl ?_
    refine r_invV x_346_69 (z := 345) (ns := 0) (by decide +kernel) (as := [g_n r30]) (r := []) rfl rfl rfl hO1 rfl rfl ?_
    refine r_callV h fun M32 hx33 hok34 h => ?_
    replace h := h hx33 hok34
    replace hO1 := hO1.up hx33
    refine r_aload_n x_346_72 rfl ?_
    refine r_getI x_346_73 rfl (ci := 12) (k := 10) (ns := 0) (by decide +kernel) (by decide) rfl (kz := 10) rfl hO1 ?_
    refine r_istore x_346_76 (by decide +kernel) rfl (lv1 := [(0, .ref a0), (1, g_n v1), (2, g_n v2), (3, g_n v3), (4, g_n v4), (5, g_n v5), (6, g_n r14), (7, g_n 0), (8, g_n (g_i M11 a0 10)), (9, g_n r30), (10, g_n (g_i M32 a0 10))]) rfl ?_
    refine r_iconst x_346_78 ?_
    refine r_istore x_346_79 (by decide +kernel) rfl (lv1 := [(0, .ref a0), (1, g_n v1), (2, g_n v2), (3, g_n v3), (4, g_n v4), (5, g_n v5), (6, g_n r14), (7, g_n 0), (8, g_n (g_i M11 a0 10)), (9, g_n r30), (10, g_n (g_i M32 a0 10)), (11, g_n 0)]) rfl ?_
    exact h
  · replace h := h.1 hc
    refine r_aload_n x_346_61 rfl ?_
    refine r_iconst x_346_62 ?_
    refine r_invV x_346_63 (z := 277) (ns := 0) (by decide +kernel) (as := [g_n ((-1))]) (r := []) rfl rfl rfl hO1 rfl rfl ?_
    refine r_callV h fun M35 hx36 hok37 h => ?_
    replace h := h hx36 hok37
    replace hO1 := hO1.up hx36
    refine r_aload_n x_346_66 rfl ?_
    refine r_iload x_346_67 rfl ?_
    refine r_invV x_346_69 (z := 345) (ns := 0) (by decide +kernel) (as := [g_n r30]) (r := []) rfl rfl rfl hO1 rfl rfl ?_
    refine r_callV h fun M38 hx39 hok40 h => ?_
    replace h := h hx39 hok40
    replace hO1 := hO1.up hx39
    refine r_aload_n x_346_72 rfl ?_
    refine r_getI x_346_73 rfl (ci := 12) (k := 10) (ns := 0) (by decide +kernel) (by decide) rfl (kz := 10) rfl hO1 ?_
    refine r_istore x_346_76 (by decide +kernel) rfl (lv1 := [(0, .ref a0), (1, g_n v1), (2, g_n v2), (3, g_n v3), (4, g_n v4), (5, g_n v5), (6, g_n r14), (7, g_n 0), (8, g_n (g_i M11 a0 10)), (9, g_n r30), (10, g_n (g_i M38 a0 10))]) rfl ?_
    refine r_iconst x_346_78 ?_
    refine r_istore x_346_79 (by decide +kernel) rfl (lv1 := [(0, .ref a0), (1, g_n v1), (2, g_n v2), (3, g_n v3), (4, g_n v4), (5, g_n v5), (6, g_n r14), (7, g_n 0), (8, g_n (g_i M11 a0 10)), (9, g_n r30), (10, g_n (g_i M38 a0 10)), (11, g_n 0)]) rfl ?_
    exact h
theorem s_X12_putJoined_81 {d : Nat} {M : g_M} {Q : g_M → Prop} {a0 : Nat} {v1 : Int} (hv1 : g_InR v1) {v2 : Int} (hv2 : g_InR v2) {v3 : Int} (hv3 : g_InR v3) {v4 : Int} (hv4 : g_InR v4) {v5 : Int} (hv5 : g_InR v5) {v6 : Int} (hv6 : g_InR v6) {v7 : Int} (hv7 : g_InR v7) {v8 : Int} (hv8 : g_InR v8) {v9 : Int} (hv9 : g_InR v9) {v10 : Int} (hv10 : g_InR v10) {v11 : Int} (hv11 : g_InR v11) (h : g_ok M → g_O M a0 12 ∧ ((v11 < g_i M a0 21 → ∃ b9, g_r M a0 20 = some b9 ∧ ∃ n11, g_A M b9 1 n11 ∧ ((0 : Int) ≤ v11 ∧ (v11 : Int) < n11) ∧ g_Call d 233 [.ref a0, g_n v2] M (g_qI fun r17 M14 => g_ext M M14 → g_ok M14 → g_InR r17 → g_InR (r17 + 4) ∧ g_Call d 322 [.ref a0, g_n v2] M14 (g_qI fun r23 M20 => g_ext M14 M20 → g_ok M20 → g_InR r23 → g_Call d 281 [.ref a0, g_n (g_i M b9 v11), g_n (r17 + 4), g_n r23] M20 (g_qI fun r28 M25 => g_ext M20 M25 → g_ok M25 → g_InR r28 → ((r28 = g_i M25 a0 10 → g_Call d 277 [.ref a0, g_n ((-1))] M25 (g_qV fun M33 => g_ext M25 M33 → g_ok M33 → g_Call d 345 [.ref a0, g_n r28] M33 (g_qV fun M36 => g_ext M33 M36 → g_ok M36 → g_Run d 346 142 [(0, .ref a0), (1, g_n v1), (2, g_n v2), (3, g_n v3), (4, g_n v4), (5, g_n v5), (6, g_n v6), (7, g_n v7), (8, g_n v8), (9, g_n v9), (10, g_n v10), (11, g_n v11), (12, g_n r28), (13, g_n 0), (14, g_n v9)] [] M36 (g_qV Q)))) ∧ (¬ r28 = g_i M25 a0 10 → g_Call d 345 [.ref a0, g_n r28] M25 (g_qV fun M30 => g_ext M25 M30 → g_ok M30 → g_Run d 346 142 [(0, .ref a0), (1, g_n v1), (2, g_n v2), (3, g_n v3), (4, g_n v4), (5, g_n v5), (6, g_n v6), (7, g_n v7), (8, g_n v8), (9, g_n v9), (10, g_n v10), (11, g_n v11), (12, g_n r28), (13, g_n 0), (14, g_n v9)] [] M30 (g_qV Q)))))))) ∧ (¬ v11 < g_i M a0 21 → (∀ M2, M2 = g_wi M a0 10 v8 → g_ok M2 → g_Call d 252 [.ref a0, g_n v6] M2 (g_qV fun M6 => g_ext M2 M6 → g_ok M6 → Q M6))))) : g_Run d 346 81 [(0, .ref a0), (1, g_n v1), (2, g_n v2), (3, g_n v3), (4, g_n v4), (5, g_n v5), (6, g_n v6), (7, g_n v7), (8, g_n v8), (9, g_n v9), (10, g_n v10), (11, g_n v11)] [] M (g_qV Q) := by
  refine g_Run.ok fun hok => ?_
  replace h := h hok
  refine r_iload x_346_81 rfl ?_
  refine r_aload_n x_346_83 rfl ?_
  obtain ⟨hO1, h⟩ := h
  refine r_getI x_346_84 rfl (ci := 12) (k := 21) (ns := 0) (by decide +kernel) (by decide) rfl (kz := 21) rfl hO1 ?_
  refine r_ic_ge x_346_87 (t := 274) (by decide +kernel) hv11 (hok.1 _ _) (fun hc => ?_) (fun hc => ?_)
  · replace h := h.2 hc
    refine r_aload_n x_346_274 rfl ?_
    refine r_iload x_346_275 rfl ?_
    refine r_putI x_346_277 (ci := 12) (k := 10) (ns := 0) (by decide +kernel) (by decide) (g_f0 (by decide +kernel)) rfl hv8 trivial (kz := 10) rfl hO1 ?_
    obtain ⟨M2, hM3⟩ : ∃ Mz, Mz = g_wi M a0 10 v8 := ⟨_, rfl⟩
    rw [← hM3]
    refine g_Run.ok fun hok4 => ?_
    replace h := h M2 hM3 hok4
    have hx5 := g_extW hM3
    replace hO1 := hO1.up hx5
    refine r_aload_n x_346_280 rfl ?_
    refine r_iload x_346_281 rfl ?_
    refine r_invV x_346_283 (z := 252) (ns := 0) (by decide +kernel) (as := [g_n v6]) (r := []) rfl rfl rfl hO1 rfl rfl ?_
    refine r_callV h fun M6 hx7 hok8 h => ?_
    replace h := h hx7 hok8
    replace hO1 := hO1.up hx7
    exact r_retV x_346_286 rfl h
  · replace h := h.1 hc
    refine r_aload_n x_346_90 rfl ?_
    refine r_aload_n x_346_91 rfl ?_
    obtain ⟨b9, hb10, h⟩ := h
    refine r_getR x_346_92 rfl (ci := 12) (k := 20) (ns := 0) (by decide +kernel) (by decide) rfl (kz := 20) rfl hO1 hb10 ?_
    refine r_iload x_346_95 rfl ?_
    obtain ⟨n11, hA12, h⟩ := h
    obtain ⟨h13, h⟩ := h
    refine r_iald x_346_97 hA12 hv11 h13.1 h13.2 ?_
    refine r_aload_n x_346_98 rfl ?_
    refine r_iload_n x_346_99 rfl ?_
    refine r_invV x_346_100 (z := 233) (ns := 0) (by decide +kernel) (as := [g_n v2]) (r := [g_n (g_i M b9 v11), .ref a0]) rfl rfl rfl hO1 rfl rfl ?_
    refine r_callI h fun r17 M14 hx15 hok16 hr18 h => ?_
    replace h := h hx15 hok16 hr18
    replace hO1 := hO1.up hx15
    replace hA12 := hA12.up hx15
    refine r_iconst x_346_103 ?_
    refine r_iadd x_346_104 ?_
    obtain ⟨h19, h⟩ := h
    refine r_aload_n x_346_105 rfl ?_
    refine r_iload_n x_346_106 rfl ?_
    refine r_invV x_346_107 (z := 322) (ns := 0) (by decide +kernel) (as := [g_n v2]) (r := [g_n (r17 + 4), g_n (g_i M b9 v11), .ref a0]) rfl rfl rfl hO1 rfl rfl ?_
    refine r_callI h fun r23 M20 hx21 hok22 hr24 h => ?_
    replace h := h hx21 hok22 hr24
    replace hO1 := hO1.up hx21
    replace hA12 := hA12.up hx21
    refine r_invV x_346_110 (z := 281) (ns := 0) (by decide +kernel) (as := [g_n (g_i M b9 v11), g_n (r17 + 4), g_n r23]) (r := []) rfl rfl rfl hO1 rfl rfl ?_
    refine r_callI h fun r28 M25 hx26 hok27 hr29 h => ?_
    replace h := h hx26 hok27 hr29
    replace hO1 := hO1.up hx26
    replace hA12 := hA12.up hx26
    refine r_istore x_346_113 (by decide +kernel) rfl (lv1 := [(0, .ref a0), (1, g_n v1), (2, g_n v2), (3, g_n v3), (4, g_n v4), (5, g_n v5), (6, g_n v6), (7, g_n v7), (8, g_n v8), (9, g_n v9), (10, g_n v10), (11, g_n v11), (12, g_n r28)]) rfl ?_
    refine r_iload x_346_115 rfl ?_
    refine r_aload_n x_346_117 rfl ?_
    refine r_getI x_346_118 rfl (ci := 12) (k := 10) (ns := 0) (by decide +kernel) (by decide) rfl (kz := 10) rfl hO1 ?_
    refine r_ic_ne x_346_121 (t := 129) (by decide +kernel) hr29 (hok27.1 _ _) (fun hc => ?_) (fun hc => ?_)
    · replace h := h.2 hc
      refine r_aload_n x_346_129 rfl ?_
      refine r_iload x_346_130 rfl ?_
      refine r_invV x_346_132 (z := 345) (ns := 0) (by decide +kernel) (as := [g_n r28]) (r := []) rfl rfl rfl hO1 rfl rfl ?_
      refine r_callV h fun M30 hx31 hok32 h => ?_
      replace h := h hx31 hok32
      replace hO1 := hO1.up hx31
      replace hA12 := hA12.up hx31
      refine r_iconst x_346_135 ?_
      refine r_istore x_346_136 (by decide +kernel) rfl (lv1 := [(0, .ref a0), (1, g_n v1), (2, g_n v2), (3, g_n v3), (4, g_n v4), (5, g_n v5), (6, g_n v6), (7, g_n v7), (8, g_n v8), (9, g_n v9), (10, g_n v10), (11, g_n v11), (12, g_n r28), (13, g_n 0)]) rfl ?_
      refine r_iload x_346_138 rfl ?_
      refine r_istore x_346_140 (by decide +kernel) rfl (lv1 := [(0, .ref a0), (1, g_n v1), (2, g_n v2), (3, g_n v3), (4, g_n v4), (5, g_n v5), (6, g_n v6), (7, g_n v7), (8, g_n v8), (9, g_n v9), (10, g_n v10), (11, g_n v11), (12, g_n r28), (13, g_n 0), (14, g_n v9)]) rfl ?_
      exact h
    · replace h := h.1 hc
      refine r_aload_n x_346_124 rfl ?_
      refine r_iconst x_346_125 ?_
      refine r_invV x_346_126 (z := 277) (ns := 0) (by decide +kernel) (as := [g_n ((-1))]) (r := []) rfl rfl rfl hO1 rfl rfl ?_
      refine r_callV h fun M33 hx34 hok35 h => ?_
      replace h := h hx34 hok35
      replace hO1 := hO1.up hx34
      replace hA12 := hA12.up hx34
      refine r_aload_n x_346_129 rfl ?_
      refine r_iload x_346_130 rfl ?_
      refine r_invV x_346_132 (z := 345) (ns := 0) (by decide +kernel) (as := [g_n r28]) (r := []) rfl rfl rfl hO1 rfl rfl ?_
      refine r_callV h fun M36 hx37 hok38 h => ?_
      replace h := h hx37 hok38
      replace hO1 := hO1.up hx37
      replace hA12 := hA12.up hx37
      refine r_iconst x_346_135 ?_
      refine r_istore x_346_136 (by decide +kernel) rfl (lv1 := [(0, .ref a0), (1, g_n v1), (2, g_n v2), (3, g_n v3), (4, g_n v4), (5, g_n v5), (6, g_n v6), (7, g_n v7), (8, g_n v8), (9, g_n v9), (10, g_n v10), (11, g_n v11), (12, g_n r28), (13, g_n 0)]) rfl ?_
      refine r_iload x_346_138 rfl ?_
      refine r_istore x_346_140 (by decide +kernel) rfl (lv1 := [(0, .ref a0), (1, g_n v1), (2, g_n v2), (3, g_n v3), (4, g_n v4), (5, g_n v5), (6, g_n v6), (7, g_n v7), (8, g_n v8), (9, g_n v9), (10, g_n v10), (11, g_n v11), (12, g_n r28), (13, g_n 0), (14, g_n v9)]) rfl ?_
      exact h
theorem s_X12_putJoined_142 {d : Nat} {M : g_M} {Q : g_M → Prop} {a0 : Nat} {v1 : Int} (hv1 : g_InR v1) {v2 : Int} (hv2 : g_InR v2) {v3 : Int} (hv3 : g_InR v3) {v4 : Int} (hv4 : g_InR v4) {v5 : Int} (hv5 : g_InR v5) {v6 : Int} (hv6 : g_InR v6) {v7 : Int} (hv7 : g_InR v7) {v8 : Int} (hv8 : g_InR v8) {v9 : Int} (hv9 : g_InR v9) {v10 : Int} (hv10 : g_InR v10) {v11 : Int} (hv11 : g_InR v11) {v12 : Int} (hv12 : g_InR v12) {v13 : Int} (hv13 : g_InR v13) {v14 : Int} (hv14 : g_InR v14) (h : g_ok M → ((v14 < v10 → ((v13 = 0 → g_Run d 346 158 [(0, .ref a0), (1, g_n v1), (2, g_n v2), (3, g_n v3), (4, g_n v4), (5, g_n v5), (6, g_n v6), (7, g_n v7), (8, g_n v8), (9, g_n v9), (10, g_n v10), (11, g_n v11), (12, g_n v12), (13, g_n v13), (14, g_n v14), (15, g_n v12)] [] M (g_qV Q)) ∧ (¬ v13 = 0 → g_Run d 346 210 [(0, .ref a0), (1, g_n v1), (2, g_n v2), (3, g_n v3), (4, g_n v4), (5, g_n v5), (6, g_n v6), (7, g_n v7), (8, g_n v8), (9, g_n v9), (10, g_n v10), (11, g_n v11), (12, g_n v12), (13, g_n v13), (14, g_n v14)] [] M (g_qV Q)))) ∧ (¬ v14 < v10 → g_Run d 346 210 [(0, .ref a0), (1, g_n v1), (2, g_n v2), (3, g_n v3), (4, g_n v4), (5, g_n v5), (6, g_n v6), (7, g_n v7), (8, g_n v8), (9, g_n v9), (10, g_n v10), (11, g_n v11), (12, g_n v12), (13, g_n v13), (14, g_n v14)] [] M (g_qV Q)))) : g_Run d 346 142 [(0, .ref a0), (1, g_n v1), (2, g_n v2), (3, g_n v3), (4, g_n v4), (5, g_n v5), (6, g_n v6), (7, g_n v7), (8, g_n v8), (9, g_n v9), (10, g_n v10), (11, g_n v11), (12, g_n v12), (13, g_n v13), (14, g_n v14)] [] M (g_qV Q) := by
  refine g_Run.ok fun hok => ?_
  replace h := h hok
  refine r_iload x_346_142 rfl ?_
  refine r_iload x_346_144 rfl ?_
  refine r_ic_ge x_346_146 (t := 210) (by decide +kernel) hv14 hv10 (fun hc => ?_) (fun hc => ?_)
  · replace h := h.2 hc
    exact h
  · replace h := h.1 hc
    refine r_iload x_346_149 rfl ?_
    refine r_if_ne x_346_151 (t := 210) (by decide +kernel) hv13 (fun hc => ?_) (fun hc => ?_)
    · replace h := h.2 hc
      exact h
    · replace h := h.1 hc
      refine r_iload x_346_154 rfl ?_
      refine r_istore x_346_156 (by decide +kernel) rfl (lv1 := [(0, .ref a0), (1, g_n v1), (2, g_n v2), (3, g_n v3), (4, g_n v4), (5, g_n v5), (6, g_n v6), (7, g_n v7), (8, g_n v8), (9, g_n v9), (10, g_n v10), (11, g_n v11), (12, g_n v12), (13, g_n v13), (14, g_n v14), (15, g_n v12)]) rfl ?_
      exact h
theorem s_X12_putJoined_158 {d : Nat} {M : g_M} {Q : g_M → Prop} {a0 : Nat} {v1 : Int} (hv1 : g_InR v1) {v2 : Int} (hv2 : g_InR v2) {v3 : Int} (hv3 : g_InR v3) {v4 : Int} (hv4 : g_InR v4) {v5 : Int} (hv5 : g_InR v5) {v6 : Int} (hv6 : g_InR v6) {v7 : Int} (hv7 : g_InR v7) {v8 : Int} (hv8 : g_InR v8) {v9 : Int} (hv9 : g_InR v9) {v10 : Int} (hv10 : g_InR v10) {v11 : Int} (hv11 : g_InR v11) {v12 : Int} (hv12 : g_InR v12) {v13 : Int} (hv13 : g_InR v13) {v14 : Int} (hv14 : g_InR v14) {v15 : Int} (hv15 : g_InR v15) (h : g_ok M → g_O M a0 12 ∧ ((v15 < g_i M a0 10 → ((v13 = 0 → ∃ b4, g_r M a0 9 = some b4 ∧ ∃ n6, g_A M b4 1 n6 ∧ ((0 : Int) ≤ v14 ∧ (v14 : Int) < n6) ∧ g_Call d 329 [g_n (g_i M b4 v14)] M (g_qI fun r12 M9 => g_ext M M9 → g_ok M9 → g_InR r12 → ∃ b14, g_r M9 a0 9 = some b14 ∧ ∃ n16, g_A M9 b14 1 n16 ∧ ((0 : Int) ≤ v15 ∧ (v15 : Int) < n16) ∧ g_Call d 329 [g_n (g_i M9 b14 v15)] M9 (g_qI fun r22 M19 => g_ext M9 M19 → g_ok M19 → g_InR r22 → g_Call d 271 [.ref a0, g_n r12, g_n r22] M19 (g_qI fun r27 M24 => g_ext M19 M24 → g_ok M24 → g_InR r27 → g_InR (v15 + 1) ∧ g_Run d 346 158 [(0, .ref a0), (1, g_n v1), (2, g_n v2), (3, g_n v3), (4, g_n v4), (5, g_n v5), (6, g_n v6), (7, g_n v7), (8, g_n v8), (9, g_n v9), (10, g_n v10), (11, g_n v11), (12, g_n v12), (13, g_n r27), (14, g_n v14), (15, g_n (v15 + 1))] [] M24 (g_qV Q))))) ∧ (¬ v13 = 0 → g_InR (v14 + 1) ∧ g_Run d 346 142 [(0, .ref a0), (1, g_n v1), (2, g_n v2), (3, g_n v3), (4, g_n v4), (5, g_n v5), (6, g_n v6), (7, g_n v7), (8, g_n v8), (9, g_n v9), (10, g_n v10), (11, g_n v11), (12, g_n v12), (13, g_n v13), (14, g_n (v14 + 1))] [] M (g_qV Q)))) ∧ (¬ v15 < g_i M a0 10 → g_InR (v14 + 1) ∧ g_Run d 346 142 [(0, .ref a0), (1, g_n v1), (2, g_n v2), (3, g_n v3), (4, g_n v4), (5, g_n v5), (6, g_n v6), (7, g_n v7), (8, g_n v8), (9, g_n v9), (10, g_n v10), (11, g_n v11), (12, g_n v12), (13, g_n v13), (14, g_n (v14 + 1))] [] M (g_qV Q)))) : g_Run d 346 158 [(0, .ref a0), (1, g_n v1), (2, g_n v2), (3, g_n v3), (4, g_n v4), (5, g_n v5), (6, g_n v6), (7, g_n v7), (8, g_n v8), (9, g_n v9), (10, g_n v10), (11, g_n v11), (12, g_n v12), (13, g_n v13), (14, g_n v14), (15, g_n v15)] [] M (g_qV Q) := by
  refine g_Run.ok fun hok => ?_
  replace h := h hok
  refine r_iload x_346_158 rfl ?_
  refine r_aload_n x_346_160 rfl ?_
  obtain ⟨hO1, h⟩ := h
  refine r_getI x_346_161 rfl (ci := 12) (k := 10) (ns := 0) (by decide +kernel) (by decide) rfl (kz := 10) rfl hO1 ?_
  refine r_ic_ge x_346_164 (t := 204) (by decide +kernel) hv15 (hok.1 _ _) (fun hc => ?_) (fun hc => ?_)
  · replace h := h.2 hc
    obtain ⟨h2, h⟩ := h
    refine r_iinc x_346_204 (by decide +kernel) rfl rfl (lv1 := [(0, .ref a0), (1, g_n v1), (2, g_n v2), (3, g_n v3), (4, g_n v4), (5, g_n v5), (6, g_n v6), (7, g_n v7), (8, g_n v8), (9, g_n v9), (10, g_n v10), (11, g_n v11), (12, g_n v12), (13, g_n v13), (14, g_n (v14 + 1)), (15, g_n v15)]) rfl ?_
    refine r_goto x_346_207 (t := 142) (by decide +kernel) ?_
    refine g_drop [0, 1, 2, 3, 4, 5, 6, 7, 8, 9, 10, 11, 12, 13, 14] (lv1 := [(0, .ref a0), (1, g_n v1), (2, g_n v2), (3, g_n v3), (4, g_n v4), (5, g_n v5), (6, g_n v6), (7, g_n v7), (8, g_n v8), (9, g_n v9), (10, g_n v10), (11, g_n v11), (12, g_n v12), (13, g_n v13), (14, g_n (v14 + 1))]) rfl ?_
    exact h
  · replace h := h.1 hc
    refine r_iload x_346_167 rfl ?_
    refine r_if_ne x_346_169 (t := 204) (by decide +kernel) hv13 (fun hc => ?_) (fun hc => ?_)
    · replace h := h.2 hc
      obtain ⟨h3, h⟩ := h
      refine r_iinc x_346_204 (by decide +kernel) rfl rfl (lv1 := [(0, .ref a0), (1, g_n v1), (2, g_n v2), (3, g_n v3), (4, g_n v4), (5, g_n v5), (6, g_n v6), (7, g_n v7), (8, g_n v8), (9, g_n v9), (10, g_n v10), (11, g_n v11), (12, g_n v12), (13, g_n v13), (14, g_n (v14 + 1)), (15, g_n v15)]) rfl ?_
      refine r_goto x_346_207 (t := 142) (by decide +kernel) ?_
      refine g_drop [0, 1, 2, 3, 4, 5, 6, 7, 8, 9, 10, 11, 12, 13, 14] (lv1 := [(0, .ref a0), (1, g_n v1), (2, g_n v2), (3, g_n v3), (4, g_n v4), (5, g_n v5), (6, g_n v6), (7, g_n v7), (8, g_n v8), (9, g_n v9), (10, g_n v10), (11, g_n v11), (12, g_n v12), (13, g_n v13), (14, g_n (v14 + 1))]) rfl ?_
      exact h
    · replace h := h.1 hc
      refine r_aload_n x_346_172 rfl ?_
      refine r_aload_n x_346_173 rfl ?_
      obtain ⟨b4, hb5, h⟩ := h
      refine r_getR x_346_174 rfl (ci := 12) (k := 9) (ns := 0) (by decide +kernel) (by decide) rfl (kz := 9) rfl hO1 hb5 ?_
      refine r_iload x_346_177 rfl ?_
      obtain ⟨n6, hA7, h⟩ := h
      obtain ⟨h8, h⟩ := h
      refine r_iald x_346_179 hA7 hv14 h8.1 h8.2 ?_
      refine r_invS x_346_180 (z := 329) (ns := 0) (by decide +kernel) (as := [g_n (g_i M b4 v14)]) (r := [.ref a0]) rfl rfl rfl ?_
      refine r_callI h fun r12 M9 hx10 hok11 hr13 h => ?_
      replace h := h hx10 hok11 hr13
      replace hO1 := hO1.up hx10
      replace hA7 := hA7.up hx10
      refine r_aload_n x_346_183 rfl ?_
      obtain ⟨b14, hb15, h⟩ := h
      refine r_getR x_346_184 rfl (ci := 12) (k := 9) (ns := 0) (by decide +kernel) (by decide) rfl (kz := 9) rfl hO1 hb15 ?_
      refine r_iload x_346_187 rfl ?_
      obtain ⟨n16, hA17, h⟩ := h
      obtain ⟨h18, h⟩ := h
      refine r_iald x_346_189 hA17 hv15 h18.1 h18.2 ?_
      refine r_invS x_346_190 (z := 329) (ns := 0) (by decide +kernel) (as := [g_n (g_i M9 b14 v15)]) (r := [g_n r12, .ref a0]) rfl rfl rfl ?_
      refine r_callI h fun r22 M19 hx20 hok21 hr23 h => ?_
      replace h := h hx20 hok21 hr23
      replace hO1 := hO1.up hx20
      replace hA7 := hA7.up hx20
      replace hA17 := hA17.up hx20
      refine r_invV x_346_193 (z := 271) (ns := 0) (by decide +kernel) (as := [g_n r12, g_n r22]) (r := []) rfl rfl rfl hO1 rfl rfl ?_
      refine r_callI h fun r27 M24 hx25 hok26 hr28 h => ?_
      replace h := h hx25 hok26 hr28
      replace hO1 := hO1.up hx25
      replace hA7 := hA7.up hx25
      replace hA17 := hA17.up hx25
      refine r_istore x_346_196 (by decide +kernel) rfl (lv1 := [(0, .ref a0), (1, g_n v1), (2, g_n v2), (3, g_n v3), (4, g_n v4), (5, g_n v5), (6, g_n v6), (7, g_n v7), (8, g_n v8), (9, g_n v9), (10, g_n v10), (11, g_n v11), (12, g_n v12), (13, g_n r27), (14, g_n v14), (15, g_n v15)]) rfl ?_
      obtain ⟨h29, h⟩ := h
      refine r_iinc x_346_198 (by decide +kernel) rfl rfl (lv1 := [(0, .ref a0), (1, g_n v1), (2, g_n v2), (3, g_n v3), (4, g_n v4), (5, g_n v5), (6, g_n v6), (7, g_n v7), (8, g_n v8), (9, g_n v9), (10, g_n v10), (11, g_n v11), (12, g_n v12), (13, g_n r27), (14, g_n v14), (15, g_n (v15 + 1))]) rfl ?_
      refine r_goto x_346_201 (t := 158) (by decide +kernel) ?_
      exact h
theorem s_X12_putJoined_210 {d : Nat} {M : g_M} {Q : g_M → Prop} {a0 : Nat} {v1 : Int} (hv1 : g_InR v1) {v2 : Int} (hv2 : g_InR v2) {v3 : Int} (hv3 : g_InR v3) {v4 : Int} (hv4 : g_InR v4) {v5 : Int} (hv5 : g_InR v5) {v6 : Int} (hv6 : g_InR v6) {v7 : Int} (hv7 : g_InR v7) {v8 : Int} (hv8 : g_InR v8) {v9 : Int} (hv9 : g_InR v9) {v10 : Int} (hv10 : g_InR v10) {v11 : Int} (hv11 : g_InR v11) {v12 : Int} (hv12 : g_InR v12) {v13 : Int} (hv13 : g_InR v13) {v14 : Int} (hv14 : g_InR v14) (h : g_ok M → g_O M a0 12 ∧ (∀ M2, M2 = g_wi M a0 10 v10 → g_ok M2 → ((v13 = 0 → g_InR (v11 + 1) ∧ g_Run d 346 81 [(0, .ref a0), (1, g_n v1), (2, g_n v2), (3, g_n v3), (4, g_n v4), (5, g_n v5), (6, g_n v6), (7, g_n v7), (8, g_n v8), (9, g_n v9), (10, g_n v10), (11, g_n (v11 + 1))] [] M2 (g_qV Q)) ∧ (¬ v13 = 0 → g_Call d 246 [.ref a0, g_n 3] M2 (g_qV fun M6 => g_ext M2 M6 → g_ok M6 → g_Call d 250 [.ref a0, g_n v7] M6 (g_qV fun M9 => g_ext M6 M9 → g_ok M9 → ∃ b12, g_r M9 a0 20 = some b12 ∧ ∃ n14, g_A M9 b12 1 n14 ∧ ((0 : Int) ≤ v11 ∧ (v11 : Int) < n14) ∧ ∃ b17, g_r M9 a0 20 = some b17 ∧ ∃ n19, g_A M9 b17 1 n19 ∧ ((0 : Int) ≤ v11 ∧ (v11 : Int) < n19) ∧ ∃ b22, g_r M9 a0 20 = some b22 ∧ ∃ n24, g_A M9 b22 1 n24 ∧ ((0 : Int) ≤ v11 ∧ (v11 : Int) < n24) ∧ g_Call d 227 [.ref a0, g_n (g_i M9 b22 v11)] M9 (g_qI fun r30 M27 => g_ext M9 M27 → g_ok M27 → g_InR r30 → g_InR ((g_i M9 b17 v11) + r30) ∧ g_Call d 248 [.ref a0, g_n (g_i M9 b12 v11), g_n ((g_i M9 b17 v11) + r30)] M27 (g_qV fun M33 => g_ext M27 M33 → g_ok M33 → g_InR (v7 + 1) ∧ g_InR (v11 + 1) ∧ g_Run d 346 81 [(0, .ref a0), (1, g_n v1), (2, g_n v2), (3, g_n v3), (4, g_n v4), (5, g_n v5), (6, g_n v6), (7, g_n (v7 + 1)), (8, g_n v8), (9, g_n v9), (10, g_n v10), (11, g_n (v11 + 1))] [] M33 (g_qV Q))))))))) : g_Run d 346 210 [(0, .ref a0), (1, g_n v1), (2, g_n v2), (3, g_n v3), (4, g_n v4), (5, g_n v5), (6, g_n v6), (7, g_n v7), (8, g_n v8), (9, g_n v9), (10, g_n v10), (11, g_n v11), (12, g_n v12), (13, g_n v13), (14, g_n v14)] [] M (g_qV Q) := by
  refine g_Run.ok fun hok => ?_
  replace h := h hok
  refine r_aload_n x_346_210 rfl ?_
  refine r_iload x_346_211 rfl ?_
  obtain ⟨hO1, h⟩ := h
  refine r_putI x_346_213 (ci := 12) (k := 10) (ns := 0) (by decide +kernel) (by decide) (g_f0 (by decide +kernel)) rfl hv10 trivial (kz := 10) rfl hO1 ?_
  obtain ⟨M2, hM3⟩ : ∃ Mz, Mz = g_wi M a0 10 v10 := ⟨_, rfl⟩
  rw [← hM3]
  refine g_Run.ok fun hok4 => ?_
  replace h := h M2 hM3 hok4
  have hx5 := g_extW hM3
  replace hO1 := hO1.up hx5
  refine r_iload x_346_216 rfl ?_
  refine r_if_ne x_346_218 (t := 224) (by decide +kernel) hv13 (fun hc => ?_) (fun hc => ?_)
  · replace h := h.2 hc
    refine r_aload_n x_346_224 rfl ?_
    refine r_iconst x_346_225 ?_
    refine r_invV x_346_226 (z := 246) (ns := 0) (by decide +kernel) (as := [g_n 3]) (r := []) rfl rfl rfl hO1 rfl rfl ?_
    refine r_callV h fun M6 hx7 hok8 h => ?_
    replace h := h hx7 hok8
    replace hO1 := hO1.up hx7
    refine r_aload_n x_346_229 rfl ?_
    refine r_iload x_346_230 rfl ?_
    refine r_invV x_346_232 (z := 250) (ns := 0) (by decide +kernel) (as := [g_n v7]) (r := []) rfl rfl rfl hO1 rfl rfl ?_
    refine r_callV h fun M9 hx10 hok11 h => ?_
    replace h := h hx10 hok11
    replace hO1 := hO1.up hx10
    refine r_aload_n x_346_235 rfl ?_
    refine r_aload_n x_346_236 rfl ?_
    obtain ⟨b12, hb13, h⟩ := h
    refine r_getR x_346_237 rfl (ci := 12) (k := 20) (ns := 0) (by decide +kernel) (by decide) rfl (kz := 20) rfl hO1 hb13 ?_
    refine r_iload x_346_240 rfl ?_
    obtain ⟨n14, hA15, h⟩ := h
    obtain ⟨h16, h⟩ := h
    refine r_iald x_346_242 hA15 hv11 h16.1 h16.2 ?_
    refine r_aload_n x_346_243 rfl ?_
    obtain ⟨b17, hb18, h⟩ := h
    refine r_getR x_346_244 rfl (ci := 12) (k := 20) (ns := 0) (by decide +kernel) (by decide) rfl (kz := 20) rfl hO1 hb18 ?_
    refine r_iload x_346_247 rfl ?_
    obtain ⟨n19, hA20, h⟩ := h
    obtain ⟨h21, h⟩ := h
    refine r_iald x_346_249 hA20 hv11 h21.1 h21.2 ?_
    refine r_aload_n x_346_250 rfl ?_
    refine r_aload_n x_346_251 rfl ?_
    obtain ⟨b22, hb23, h⟩ := h
    refine r_getR x_346_252 rfl (ci := 12) (k := 20) (ns := 0) (by decide +kernel) (by decide) rfl (kz := 20) rfl hO1 hb23 ?_
    refine r_iload x_346_255 rfl ?_
    obtain ⟨n24, hA25, h⟩ := h
    obtain ⟨h26, h⟩ := h
    refine r_iald x_346_257 hA25 hv11 h26.1 h26.2 ?_
    refine r_invV x_346_258 (z := 227) (ns := 0) (by decide +kernel) (as := [g_n (g_i M9 b22 v11)]) (r := [g_n (g_i M9 b17 v11), g_n (g_i M9 b12 v11), .ref a0]) rfl rfl rfl hO1 rfl rfl ?_
    refine r_callI h fun r30 M27 hx28 hok29 hr31 h => ?_
    replace h := h hx28 hok29 hr31
    replace hO1 := hO1.up hx28
    replace hA15 := hA15.up hx28
    replace hA20 := hA20.up hx28
    replace hA25 := hA25.up hx28
    refine r_iadd x_346_261 ?_
    obtain ⟨h32, h⟩ := h
    refine r_invV x_346_262 (z := 248) (ns := 0) (by decide +kernel) (as := [g_n (g_i M9 b12 v11), g_n ((g_i M9 b17 v11) + r30)]) (r := []) rfl rfl rfl hO1 rfl rfl ?_
    refine r_callV h fun M33 hx34 hok35 h => ?_
    replace h := h hx34 hok35
    replace hO1 := hO1.up hx34
    replace hA15 := hA15.up hx34
    replace hA20 := hA20.up hx34
    replace hA25 := hA25.up hx34
    obtain ⟨h36, h⟩ := h
    refine r_iinc x_346_265 (by decide +kernel) rfl rfl (lv1 := [(0, .ref a0), (1, g_n v1), (2, g_n v2), (3, g_n v3), (4, g_n v4), (5, g_n v5), (6, g_n v6), (7, g_n (v7 + 1)), (8, g_n v8), (9, g_n v9), (10, g_n v10), (11, g_n v11), (12, g_n v12), (13, g_n v13), (14, g_n v14)]) rfl ?_
    obtain ⟨h37, h⟩ := h
    refine r_iinc x_346_268 (by decide +kernel) rfl rfl (lv1 := [(0, .ref a0), (1, g_n v1), (2, g_n v2), (3, g_n v3), (4, g_n v4), (5, g_n v5), (6, g_n v6), (7, g_n (v7 + 1)), (8, g_n v8), (9, g_n v9), (10, g_n v10), (11, g_n (v11 + 1)), (12, g_n v12), (13, g_n v13), (14, g_n v14)]) rfl ?_
    refine r_goto x_346_271 (t := 81) (by decide +kernel) ?_
    refine g_drop [0, 1, 2, 3, 4, 5, 6, 7, 8, 9, 10, 11] (lv1 := [(0, .ref a0), (1, g_n v1), (2, g_n v2), (3, g_n v3), (4, g_n v4), (5, g_n v5), (6, g_n v6), (7, g_n (v7 + 1)), (8, g_n v8), (9, g_n v9), (10, g_n v10), (11, g_n (v11 + 1))]) rfl ?_
    exact h
  · replace h := h.1 hc
    refine r_goto x_346_221 (t := 268) (by decide +kernel) ?_
    obtain ⟨h38, h⟩ := h
    refine r_iinc x_346_268 (by decide +kernel) rfl rfl (lv1 := [(0, .ref a0), (1, g_n v1), (2, g_n v2), (3, g_n v3), (4, g_n v4), (5, g_n v5), (6, g_n v6), (7, g_n v7), (8, g_n v8), (9, g_n v9), (10, g_n v10), (11, g_n (v11 + 1)), (12, g_n v12), (13, g_n v13), (14, g_n v14)]) rfl ?_
    refine r_goto x_346_271 (t := 81) (by decide +kernel) ?_
    refine g_drop [0, 1, 2, 3, 4, 5, 6, 7, 8, 9, 10, 11] (lv1 := [(0, .ref a0), (1, g_n v1), (2, g_n v2), (3, g_n v3), (4, g_n v4), (5, g_n v5), (6, g_n v6), (7, g_n v7), (8, g_n v8), (9, g_n v9), (10, g_n v10), (11, g_n (v11 + 1))]) rfl ?_
    exact h
theorem m_X12_haveSameKey {d : Nat} {M : g_M} {Q : Int → g_M → Prop} {a0 : Nat} {v1 : Int} (hv1 : g_InR v1) {v2 : Int} (hv2 : g_InR v2) {v3 : Int} (hv3 : g_InR v3) (h : g_ok M → g_O M a0 12 ∧ g_Call d 328 [.ref a0, g_n v1, g_n v2] M (g_qI fun r5 M2 => g_ext M M2 → g_ok M2 → g_InR r5 → g_Call d 329 [g_n r5] M2 (g_qI fun r10 M7 => g_ext M2 M7 → g_ok M7 → g_InR r10 → g_Call d 327 [.ref a0, g_n v1, g_n v3] M7 (g_qI fun r15 M12 => g_ext M7 M12 → g_ok M12 → g_InR r15 → g_Call d 329 [g_n r15] M12 (g_qI fun r20 M17 => g_ext M12 M17 → g_ok M17 → g_InR r20 → g_Call d 271 [.ref a0, g_n r10, g_n r20] M17 (g_qI fun r25 M22 => g_ext M17 M22 → g_ok M22 → g_InR r25 → (r25 = 0 ∨ r25 = 1) ∧ Q r25 M22)))))) : g_Call (d + 1) 347 [.ref a0, g_n v1, g_n v2, g_n v3] M (g_qI Q) := by
  refine g_Call.ok fun hok0 => ?_
  replace h := h hok0
  refine r_body rfl (lv := [(0, .ref a0), (1, g_n v1), (2, g_n v2), (3, g_n v3)]) rfl ?_
  refine g_Run.ok fun hok => ?_
  refine r_aload_n x_347_0 rfl ?_
  refine r_iload_n x_347_1 rfl ?_
  refine r_iload_n x_347_2 rfl ?_
  obtain ⟨hO1, h⟩ := h
  refine r_invV x_347_3 (z := 328) (ns := 0) (by decide +kernel) (as := [g_n v1, g_n v2]) (r := []) rfl rfl rfl hO1 rfl rfl ?_
  refine r_callI h fun r5 M2 hx3 hok4 hr6 h => ?_
  replace h := h hx3 hok4 hr6
  replace hO1 := hO1.up hx3
  refine r_invS x_347_6 (z := 329) (ns := 0) (by decide +kernel) (as := [g_n r5]) (r := []) rfl rfl rfl ?_
  refine r_callI h fun r10 M7 hx8 hok9 hr11 h => ?_
  replace h := h hx8 hok9 hr11
  replace hO1 := hO1.up hx8
  refine r_istore x_347_9 (by decide +kernel) rfl (lv1 := [(0, .ref a0), (1, g_n v1), (2, g_n v2), (3, g_n v3), (4, g_n r10)]) rfl ?_
  refine r_aload_n x_347_11 rfl ?_
  refine r_iload_n x_347_12 rfl ?_
  refine r_iload_n x_347_13 rfl ?_
  refine r_invV x_347_14 (z := 327) (ns := 0) (by decide +kernel) (as := [g_n v1, g_n v3]) (r := []) rfl rfl rfl hO1 rfl rfl ?_
  refine r_callI h fun r15 M12 hx13 hok14 hr16 h => ?_
  replace h := h hx13 hok14 hr16
  replace hO1 := hO1.up hx13
  refine r_invS x_347_17 (z := 329) (ns := 0) (by decide +kernel) (as := [g_n r15]) (r := []) rfl rfl rfl ?_
  refine r_callI h fun r20 M17 hx18 hok19 hr21 h => ?_
  replace h := h hx18 hok19 hr21
  replace hO1 := hO1.up hx18
  refine r_istore x_347_20 (by decide +kernel) rfl (lv1 := [(0, .ref a0), (1, g_n v1), (2, g_n v2), (3, g_n v3), (4, g_n r10), (5, g_n r20)]) rfl ?_
  refine r_aload_n x_347_22 rfl ?_
  refine r_iload x_347_23 rfl ?_
  refine r_iload x_347_25 rfl ?_
  refine r_invV x_347_27 (z := 271) (ns := 0) (by decide +kernel) (as := [g_n r10, g_n r20]) (r := []) rfl rfl rfl hO1 rfl rfl ?_
  refine r_callI h fun r25 M22 hx23 hok24 hr26 h => ?_
  replace h := h hx23 hok24 hr26
  replace hO1 := hO1.up hx23
  obtain ⟨hz, h⟩ := h
  exact r_retZ x_347_30 rfl hz h
theorem m_X12_group {d : Nat} {M : g_M} {Q : Int → g_M → Prop} {a0 : Nat} {v1 : Int} (hv1 : g_InR v1) (h : g_ok M → g_Call d 237 [g_n v1] M (g_qI fun r4 M1 => g_ext M M1 → g_ok M1 → g_InR r4 → g_O M1 a0 12 ∧ (∀ M7, M7 = g_wi M1 a0 32 0 → g_ok M7 → g_Run d 348 12 [(0, .ref a0), (1, g_n v1), (2, g_n r4), (3, g_n 0)] [] M7 (g_qI Q)))) : g_Call (d + 1) 348 [.ref a0, g_n v1] M (g_qI Q) := by
  refine g_Call.ok fun hok0 => ?_
  replace h := h hok0
  refine r_body rfl (lv := [(0, .ref a0), (1, g_n v1)]) rfl ?_
  refine g_Run.ok fun hok => ?_
  refine r_iload_n x_348_0 rfl ?_
  refine r_invS x_348_1 (z := 237) (ns := 0) (by decide +kernel) (as := [g_n v1]) (r := []) rfl rfl rfl ?_
  refine r_callI h fun r4 M1 hx2 hok3 hr5 h => ?_
  replace h := h hx2 hok3 hr5
  refine r_istore_n x_348_4 (by decide +kernel) rfl (lv1 := [(0, .ref a0), (1, g_n v1), (2, g_n r4)]) rfl ?_
  refine r_aload_n x_348_5 rfl ?_
  refine r_iconst x_348_6 ?_
  obtain ⟨hO6, h⟩ := h
  refine r_putI x_348_7 (ci := 12) (k := 32) (ns := 0) (by decide +kernel) (by decide) (g_f0 (by decide +kernel)) rfl (g_Rk rfl) trivial (kz := 32) rfl hO6 ?_
  obtain ⟨M7, hM8⟩ : ∃ Mz, Mz = g_wi M1 a0 32 0 := ⟨_, rfl⟩
  rw [← hM8]
  refine g_Run.ok fun hok9 => ?_
  replace h := h M7 hM8 hok9
  have hx10 := g_extW hM8
  replace hO6 := hO6.up hx10
  refine r_iconst x_348_10 ?_
  refine r_istore_n x_348_11 (by decide +kernel) rfl (lv1 := [(0, .ref a0), (1, g_n v1), (2, g_n r4), (3, g_n 0)]) rfl ?_
  exact h
theorem s_X12_group_12 {d : Nat} {M : g_M} {Q : Int → g_M → Prop} {a0 : Nat} {v1 : Int} (hv1 : g_InR v1) {v2 : Int} (hv2 : g_InR v2) {v3 : Int} (hv3 : g_InR v3) (h : g_ok M → g_O M a0 12 ∧ ((v3 < g_i M a0 19 → g_Run d 348 23 [(0, .ref a0), (1, g_n v1), (2, g_n v2), (3, g_n v3), (4, g_n 0)] [] M (g_qI Q)) ∧ (¬ v3 < g_i M a0 19 → (∀ M2, M2 = g_wi M a0 33 1 → g_ok M2 → g_Run d 348 112 [(0, .ref a0), (1, g_n v1), (2, g_n v2), (3, g_n 0)] [] M2 (g_qI Q))))) : g_Run d 348 12 [(0, .ref a0), (1, g_n v1), (2, g_n v2), (3, g_n v3)] [] M (g_qI Q) := by
  refine g_Run.ok fun hok => ?_
  replace h := h hok
  refine r_iload_n x_348_12 rfl ?_
  refine r_aload_n x_348_13 rfl ?_
  obtain ⟨hO1, h⟩ := h
  refine r_getI x_348_14 rfl (ci := 12) (k := 19) (ns := 0) (by decide +kernel) (by decide) rfl (kz := 19) rfl hO1 ?_
  refine r_ic_ge x_348_17 (t := 105) (by decide +kernel) hv3 (hok.1 _ _) (fun hc => ?_) (fun hc => ?_)
  · replace h := h.2 hc
    refine r_aload_n x_348_105 rfl ?_
    refine r_iconst x_348_106 ?_
    refine r_putI x_348_107 (ci := 12) (k := 33) (ns := 0) (by decide +kernel) (by decide) (g_fZ (Or.inr rfl) (by decide +kernel)) rfl (g_Rk rfl) (g_zx (Or.inr rfl) rfl).2 (kz := 33) rfl hO1 ?_
    obtain ⟨M2, hM3⟩ : ∃ Mz, Mz = g_wi M a0 33 1 := ⟨_, rfl⟩
    rw [← hM3]
    refine g_Run.ok fun hok4 => ?_
    replace h := h M2 hM3 hok4
    have hx5 := g_extW hM3
    replace hO1 := hO1.up hx5
    refine r_iconst x_348_110 ?_
    refine r_istore_n x_348_111 (by decide +kernel) rfl (lv1 := [(0, .ref a0), (1, g_n v1), (2, g_n v2), (3, g_n 0)]) rfl ?_
    exact h
  · replace h := h.1 hc
    refine r_iconst x_348_20 ?_
    refine r_istore x_348_21 (by decide +kernel) rfl (lv1 := [(0, .ref a0), (1, g_n v1), (2, g_n v2), (3, g_n v3), (4, g_n 0)]) rfl ?_
    exact h
theorem s_X12_group_23 {d : Nat} {M : g_M} {Q : Int → g_M → Prop} {a0 : Nat} {v1 : Int} (hv1 : g_InR v1) {v2 : Int} (hv2 : g_InR v2) {v3 : Int} (hv3 : g_InR v3) {v4 : Int} (hv4 : g_InR v4) (h : g_ok M → g_O M a0 12 ∧ ((v4 < g_i M a0 32 → ∃ b2, g_r M a0 18 = some b2 ∧ ∃ n4, g_A M b2 1 n4 ∧ ((0 : Int) ≤ v3 ∧ (v3 : Int) < n4) ∧ ∃ b7, g_r M a0 18 = some b7 ∧ ∃ b9, g_r M a0 31 = some b9 ∧ ∃ n11, g_A M b9 1 n11 ∧ ((0 : Int) ≤ v4 ∧ (v4 : Int) < n11) ∧ ∃ n14, g_A M b7 1 n14 ∧ ((0 : Int) ≤ g_i M b9 v4 ∧ (g_i M b9 v4 : Int) < n14) ∧ g_Call d 347 [.ref a0, g_n v2, g_n (g_i M b2 v3), g_n (g_i M b7 (g_i M b9 v4))] M (g_qI fun r20 M17 => g_ext M M17 → g_ok M17 → g_InR r20 → ((r20 = 0 → g_InR (v4 + 1) ∧ g_Run d 348 23 [(0, .ref a0), (1, g_n v1), (2, g_n v2), (3, g_n v3), (4, g_n (v4 + 1))] [] M17 (g_qI Q)) ∧ (¬ r20 = 0 → g_Run d 348 64 [(0, .ref a0), (1, g_n v1), (2, g_n v2), (3, g_n v3), (4, g_n v4)] [] M17 (g_qI Q))))) ∧ (¬ v4 < g_i M a0 32 → g_Run d 348 64 [(0, .ref a0), (1, g_n v1), (2, g_n v2), (3, g_n v3), (4, g_n v4)] [] M (g_qI Q)))) : g_Run d 348 23 [(0, .ref a0), (1, g_n v1), (2, g_n v2), (3, g_n v3), (4, g_n v4)] [] M (g_qI Q) := by
  refine g_Run.ok fun hok => ?_
  replace h := h hok
  refine r_iload x_348_23 rfl ?_
  refine r_aload_n x_348_25 rfl ?_
  obtain ⟨hO1, h⟩ := h
  refine r_getI x_348_26 rfl (ci := 12) (k := 32) (ns := 0) (by decide +kernel) (by decide) rfl (kz := 32) rfl hO1 ?_
  refine r_ic_ge x_348_29 (t := 64) (by decide +kernel) hv4 (hok.1 _ _) (fun hc => ?_) (fun hc => ?_)
  · replace h := h.2 hc
    exact h
  · replace h := h.1 hc
    refine r_aload_n x_348_32 rfl ?_
    refine r_iload_n x_348_33 rfl ?_
    refine r_aload_n x_348_34 rfl ?_
    obtain ⟨b2, hb3, h⟩ := h
    refine r_getR x_348_35 rfl (ci := 12) (k := 18) (ns := 0) (by decide +kernel) (by decide) rfl (kz := 18) rfl hO1 hb3 ?_
    refine r_iload_n x_348_38 rfl ?_
    obtain ⟨n4, hA5, h⟩ := h
    obtain ⟨h6, h⟩ := h
    refine r_iald x_348_39 hA5 hv3 h6.1 h6.2 ?_
    refine r_aload_n x_348_40 rfl ?_
    obtain ⟨b7, hb8, h⟩ := h
    refine r_getR x_348_41 rfl (ci := 12) (k := 18) (ns := 0) (by decide +kernel) (by decide) rfl (kz := 18) rfl hO1 hb8 ?_
    refine r_aload_n x_348_44 rfl ?_
    obtain ⟨b9, hb10, h⟩ := h
    refine r_getR x_348_45 rfl (ci := 12) (k := 31) (ns := 0) (by decide +kernel) (by decide) rfl (kz := 31) rfl hO1 hb10 ?_
    refine r_iload x_348_48 rfl ?_
    obtain ⟨n11, hA12, h⟩ := h
    obtain ⟨h13, h⟩ := h
    refine r_iald x_348_50 hA12 hv4 h13.1 h13.2 ?_
    obtain ⟨n14, hA15, h⟩ := h
    obtain ⟨h16, h⟩ := h
    refine r_iald x_348_51 hA15 (hok.1 _ _) h16.1 h16.2 ?_
    refine r_invV x_348_52 (z := 347) (ns := 0) (by decide +kernel) (as := [g_n v2, g_n (g_i M b2 v3), g_n (g_i M b7 (g_i M b9 v4))]) (r := []) rfl rfl rfl hO1 rfl rfl ?_
    refine r_callI h fun r20 M17 hx18 hok19 hr21 h => ?_
    replace h := h hx18 hok19 hr21
    replace hO1 := hO1.up hx18
    replace hA5 := hA5.up hx18
    replace hA12 := hA12.up hx18
    replace hA15 := hA15.up hx18
    refine r_if_ne x_348_55 (t := 64) (by decide +kernel) hr21 (fun hc => ?_) (fun hc => ?_)
    · replace h := h.2 hc
      exact h
    · replace h := h.1 hc
      obtain ⟨h22, h⟩ := h
      refine r_iinc x_348_58 (by decide +kernel) rfl rfl (lv1 := [(0, .ref a0), (1, g_n v1), (2, g_n v2), (3, g_n v3), (4, g_n (v4 + 1))]) rfl ?_
      refine r_goto x_348_61 (t := 23) (by decide +kernel) ?_
      exact h
theorem s_X12_group_64 {d : Nat} {M : g_M} {Q : Int → g_M → Prop} {a0 : Nat} {v1 : Int} (hv1 : g_InR v1) {v2 : Int} (hv2 : g_InR v2) {v3 : Int} (hv3 : g_InR v3) {v4 : Int} (hv4 : g_InR v4) (h : g_ok M → g_O M a0 12 ∧ ∃ b2, g_r M a0 30 = some b2 ∧ ∃ n4, g_A M b2 1 n4 ∧ ((0 : Int) ≤ v3 ∧ (v3 : Int) < n4) ∧ (∀ M7, M7 = g_wi M b2 v3 v4 → g_ok M7 → ((v4 = g_i M7 a0 32 → ∃ b12, g_r M7 a0 31 = some b12 ∧ ∃ n14, g_A M7 b12 1 n14 ∧ ((0 : Int) ≤ v4 ∧ (v4 : Int) < n14) ∧ (∀ M17, M17 = g_wi M7 b12 v4 v3 → g_ok M17 → g_InR ((g_i M17 a0 32) + 1) ∧ (∀ M22, M22 = g_wi M17 a0 32 ((g_i M17 a0 32) + 1) → g_ok M22 → g_InR (v3 + 1) ∧ g_Run d 348 12 [(0, .ref a0), (1, g_n v1), (2, g_n v2), (3, g_n (v3 + 1))] [] M22 (g_qI Q)))) ∧ (¬ v4 = g_i M7 a0 32 → g_InR (v3 + 1) ∧ g_Run d 348 12 [(0, .ref a0), (1, g_n v1), (2, g_n v2), (3, g_n (v3 + 1))] [] M7 (g_qI Q))))) : g_Run d 348 64 [(0, .ref a0), (1, g_n v1), (2, g_n v2), (3, g_n v3), (4, g_n v4)] [] M (g_qI Q) := by
  refine g_Run.ok fun hok => ?_
  replace h := h hok
  refine r_aload_n x_348_64 rfl ?_
  obtain ⟨hO1, h⟩ := h
  obtain ⟨b2, hb3, h⟩ := h
  refine r_getR x_348_65 rfl (ci := 12) (k := 30) (ns := 0) (by decide +kernel) (by decide) rfl (kz := 30) rfl hO1 hb3 ?_
  refine r_iload_n x_348_68 rfl ?_
  refine r_iload x_348_69 rfl ?_
  obtain ⟨n4, hA5, h⟩ := h
  obtain ⟨h6, h⟩ := h
  refine r_iast x_348_71 hA5 hv3 h6.1 h6.2 hv4 ?_
  obtain ⟨M7, hM8⟩ : ∃ Mz, Mz = g_wi M b2 v3 v4 := ⟨_, rfl⟩
  rw [← hM8]
  refine g_Run.ok fun hok9 => ?_
  replace h := h M7 hM8 hok9
  have hx10 := g_extW hM8
  replace hO1 := hO1.up hx10
  replace hA5 := hA5.up hx10
  refine r_iload x_348_72 rfl ?_
  refine r_aload_n x_348_74 rfl ?_
  refine r_getI x_348_75 rfl (ci := 12) (k := 32) (ns := 0) (by decide +kernel) (by decide) rfl (kz := 32) rfl hO1 ?_
  refine r_ic_ne x_348_78 (t := 99) (by decide +kernel) hv4 (hok9.1 _ _) (fun hc => ?_) (fun hc => ?_)
  · replace h := h.2 hc
    obtain ⟨h11, h⟩ := h
    refine r_iinc x_348_99 (by decide +kernel) rfl rfl (lv1 := [(0, .ref a0), (1, g_n v1), (2, g_n v2), (3, g_n (v3 + 1)), (4, g_n v4)]) rfl ?_
    refine r_goto x_348_102 (t := 12) (by decide +kernel) ?_
    refine g_drop [0, 1, 2, 3] (lv1 := [(0, .ref a0), (1, g_n v1), (2, g_n v2), (3, g_n (v3 + 1))]) rfl ?_
    exact h
  · replace h := h.1 hc
    refine r_aload_n x_348_81 rfl ?_
    obtain ⟨b12, hb13, h⟩ := h
    refine r_getR x_348_82 rfl (ci := 12) (k := 31) (ns := 0) (by decide +kernel) (by decide) rfl (kz := 31) rfl hO1 hb13 ?_
    refine r_iload x_348_85 rfl ?_
    refine r_iload_n x_348_87 rfl ?_
    obtain ⟨n14, hA15, h⟩ := h
    obtain ⟨h16, h⟩ := h
    refine r_iast x_348_88 hA15 hv4 h16.1 h16.2 hv3 ?_
    obtain ⟨M17, hM18⟩ : ∃ Mz, Mz = g_wi M7 b12 v4 v3 := ⟨_, rfl⟩
    rw [← hM18]
    refine g_Run.ok fun hok19 => ?_
    replace h := h M17 hM18 hok19
    have hx20 := g_extW hM18
    replace hO1 := hO1.up hx20
    replace hA5 := hA5.up hx20
    replace hA15 := hA15.up hx20
    refine r_aload_n x_348_89 rfl ?_
    refine r_dup x_348_90 rfl ?_
    refine r_getI x_348_91 rfl (ci := 12) (k := 32) (ns := 0) (by decide +kernel) (by decide) rfl (kz := 32) rfl hO1 ?_
    refine r_iconst x_348_94 ?_
    refine r_iadd x_348_95 ?_
    obtain ⟨h21, h⟩ := h
    refine r_putI x_348_96 (ci := 12) (k := 32) (ns := 0) (by decide +kernel) (by decide) (g_f0 (by decide +kernel)) rfl h21 trivial (kz := 32) rfl hO1 ?_
    obtain ⟨M22, hM23⟩ : ∃ Mz, Mz = g_wi M17 a0 32 ((g_i M17 a0 32) + 1) := ⟨_, rfl⟩
    rw [← hM23]
    refine g_Run.ok fun hok24 => ?_
    replace h := h M22 hM23 hok24
    have hx25 := g_extW hM23
    replace hO1 := hO1.up hx25
    replace hA5 := hA5.up hx25
    replace hA15 := hA15.up hx25
    obtain ⟨h26, h⟩ := h
    refine r_iinc x_348_99 (by decide +kernel) rfl rfl (lv1 := [(0, .ref a0), (1, g_n v1), (2, g_n v2), (3, g_n (v3 + 1)), (4, g_n v4)]) rfl ?_
    refine r_goto x_348_102 (t := 12) (by decide +kernel) ?_
    refine g_drop [0, 1, 2, 3] (lv1 := [(0, .ref a0), (1, g_n v1), (2, g_n v2), (3, g_n (v3 + 1))]) rfl ?_
    exact h
theorem s_X12_group_112 {d : Nat} {M : g_M} {Q : Int → g_M → Prop} {a0 : Nat} {v1 : Int} (hv1 : g_InR v1) {v2 : Int} (hv2 : g_InR v2) {v3 : Int} (hv3 : g_InR v3) (h : g_ok M → g_O M a0 12 ∧ ((v3 < g_i M a0 32 → g_Call d 251 [.ref a0] M (g_qI fun r5 M2 => g_ext M M2 → g_ok M2 → g_InR r5 → g_InR (v2 + 1) ∧ g_Call d 232 [.ref a0, g_n v2] M2 (g_qI fun r11 M8 => g_ext M2 M8 → g_ok M8 → g_InR r11 → ∃ b13, g_r M8 a0 18 = some b13 ∧ ∃ b15, g_r M8 a0 31 = some b15 ∧ ∃ n17, g_A M8 b15 1 n17 ∧ ((0 : Int) ≤ v3 ∧ (v3 : Int) < n17) ∧ ∃ n20, g_A M8 b13 1 n20 ∧ ((0 : Int) ≤ g_i M8 b15 v3 ∧ (g_i M8 b15 v3 : Int) < n20) ∧ g_Call d 328 [.ref a0, g_n v2, g_n (g_i M8 b13 (g_i M8 b15 v3))] M8 (g_qI fun r26 M23 => g_ext M8 M23 → g_ok M23 → g_InR r26 → g_Call d 329 [g_n r26] M23 (g_qI fun r31 M28 => g_ext M23 M28 → g_ok M28 → g_InR r31 → g_Call d 254 [.ref a0, g_n (v2 + 1), g_n r11, g_n r31] M28 (g_qV fun M33 => g_ext M28 M33 → g_ok M33 → g_Call d 235 [.ref a0, g_n v2] M33 (g_qI fun r39 M36 => g_ext M33 M36 → g_ok M36 → g_InR r39 → g_Run d 348 164 [(0, .ref a0), (1, g_n v1), (2, g_n v2), (3, g_n v3), (4, g_n r5), (5, g_n r39)] [] M36 (g_qI Q)))))))) ∧ (¬ v3 < g_i M a0 32 → (g_i M a0 33 = 0 ∨ g_i M a0 33 = 1) ∧ Q (g_i M a0 33) M))) : g_Run d 348 112 [(0, .ref a0), (1, g_n v1), (2, g_n v2), (3, g_n v3)] [] M (g_qI Q) := by
  refine g_Run.ok fun hok => ?_
  replace h := h hok
  refine r_iload_n x_348_112 rfl ?_
  refine r_aload_n x_348_113 rfl ?_
  obtain ⟨hO1, h⟩ := h
  refine r_getI x_348_114 rfl (ci := 12) (k := 32) (ns := 0) (by decide +kernel) (by decide) rfl (kz := 32) rfl hO1 ?_
  refine r_ic_ge x_348_117 (t := 219) (by decide +kernel) hv3 (hok.1 _ _) (fun hc => ?_) (fun hc => ?_)
  · replace h := h.2 hc
    refine r_aload_n x_348_219 rfl ?_
    refine r_getI x_348_220 rfl (ci := 12) (k := 33) (ns := 0) (by decide +kernel) (by decide) rfl (kz := 33) rfl hO1 ?_
    obtain ⟨hz, h⟩ := h
    exact r_retZ x_348_223 rfl hz h
  · replace h := h.1 hc
    refine r_aload_n x_348_120 rfl ?_
    refine r_invV x_348_121 (z := 251) (ns := 0) (by decide +kernel) (as := []) (r := []) rfl rfl rfl hO1 rfl rfl ?_
    refine r_callI h fun r5 M2 hx3 hok4 hr6 h => ?_
    replace h := h hx3 hok4 hr6
    replace hO1 := hO1.up hx3
    refine r_istore x_348_124 (by decide +kernel) rfl (lv1 := [(0, .ref a0), (1, g_n v1), (2, g_n v2), (3, g_n v3), (4, g_n r5)]) rfl ?_
    refine r_aload_n x_348_126 rfl ?_
    refine r_iload_n x_348_127 rfl ?_
    refine r_iconst x_348_128 ?_
    refine r_iadd x_348_129 ?_
    obtain ⟨h7, h⟩ := h
    refine r_aload_n x_348_130 rfl ?_
    refine r_iload_n x_348_131 rfl ?_
    refine r_invV x_348_132 (z := 232) (ns := 0) (by decide +kernel) (as := [g_n v2]) (r := [g_n (v2 + 1), .ref a0]) rfl rfl rfl hO1 rfl rfl ?_
    refine r_callI h fun r11 M8 hx9 hok10 hr12 h => ?_
    replace h := h hx9 hok10 hr12
    replace hO1 := hO1.up hx9
    refine r_aload_n x_348_135 rfl ?_
    refine r_iload_n x_348_136 rfl ?_
    refine r_aload_n x_348_137 rfl ?_
    obtain ⟨b13, hb14, h⟩ := h
    refine r_getR x_348_138 rfl (ci := 12) (k := 18) (ns := 0) (by decide +kernel) (by decide) rfl (kz := 18) rfl hO1 hb14 ?_
    refine r_aload_n x_348_141 rfl ?_
    obtain ⟨b15, hb16, h⟩ := h
    refine r_getR x_348_142 rfl (ci := 12) (k := 31) (ns := 0) (by decide +kernel) (by decide) rfl (kz := 31) rfl hO1 hb16 ?_
    refine r_iload_n x_348_145 rfl ?_
    obtain ⟨n17, hA18, h⟩ := h
    obtain ⟨h19, h⟩ := h
    refine r_iald x_348_146 hA18 hv3 h19.1 h19.2 ?_
    obtain ⟨n20, hA21, h⟩ := h
    obtain ⟨h22, h⟩ := h
    refine r_iald x_348_147 hA21 (hok10.1 _ _) h22.1 h22.2 ?_
    refine r_invV x_348_148 (z := 328) (ns := 0) (by decide +kernel) (as := [g_n v2, g_n (g_i M8 b13 (g_i M8 b15 v3))]) (r := [g_n r11, g_n (v2 + 1), .ref a0]) rfl rfl rfl hO1 rfl rfl ?_
    refine r_callI h fun r26 M23 hx24 hok25 hr27 h => ?_
    replace h := h hx24 hok25 hr27
    replace hO1 := hO1.up hx24
    replace hA18 := hA18.up hx24
    replace hA21 := hA21.up hx24
    refine r_invS x_348_151 (z := 329) (ns := 0) (by decide +kernel) (as := [g_n r26]) (r := [g_n r11, g_n (v2 + 1), .ref a0]) rfl rfl rfl ?_
    refine r_callI h fun r31 M28 hx29 hok30 hr32 h => ?_
    replace h := h hx29 hok30 hr32
    replace hO1 := hO1.up hx29
    replace hA18 := hA18.up hx29
    replace hA21 := hA21.up hx29
    refine r_invV x_348_154 (z := 254) (ns := 0) (by decide +kernel) (as := [g_n (v2 + 1), g_n r11, g_n r31]) (r := []) rfl rfl rfl hO1 rfl rfl ?_
    refine r_callV h fun M33 hx34 hok35 h => ?_
    replace h := h hx34 hok35
    replace hO1 := hO1.up hx34
    replace hA18 := hA18.up hx34
    replace hA21 := hA21.up hx34
    refine r_aload_n x_348_157 rfl ?_
    refine r_iload_n x_348_158 rfl ?_
    refine r_invV x_348_159 (z := 235) (ns := 0) (by decide +kernel) (as := [g_n v2]) (r := []) rfl rfl rfl hO1 rfl rfl ?_
    refine r_callI h fun r39 M36 hx37 hok38 hr40 h => ?_
    replace h := h hx37 hok38 hr40
    replace hO1 := hO1.up hx37
    replace hA18 := hA18.up hx37
    replace hA21 := hA21.up hx37
    refine r_istore x_348_162 (by decide +kernel) rfl (lv1 := [(0, .ref a0), (1, g_n v1), (2, g_n v2), (3, g_n v3), (4, g_n r5), (5, g_n r39)]) rfl ?_
    exact h
theorem s_X12_group_164 {d : Nat} {M : g_M} {Q : Int → g_M → Prop} {a0 : Nat} {v1 : Int} (hv1 : g_InR v1) {v2 : Int} (hv2 : g_InR v2) {v3 : Int} (hv3 : g_InR v3) {v4 : Int} (hv4 : g_InR v4) {v5 : Int} (hv5 : g_InR v5) (h : g_ok M → g_O M a0 12 ∧ g_Call d 238 [.ref a0, g_n v1] M (g_qI fun r5 M2 => g_ext M M2 → g_ok M2 → g_InR r5 → ((v5 < r5 → g_Call d 233 [.ref a0, g_n v5] M2 (g_qI fun r17 M14 => g_ext M2 M14 → g_ok M14 → g_InR r17 → g_Call d 237 [g_n r17] M14 (g_qI fun r22 M19 => g_ext M14 M19 → g_ok M19 → g_InR r22 → g_Call d 350 [.ref a0, g_n v5, g_n r22, g_n v3] M19 (g_qV fun M24 => g_ext M19 M24 → g_ok M24 → g_Call d 235 [.ref a0, g_n v5] M24 (g_qI fun r30 M27 => g_ext M24 M27 → g_ok M27 → g_InR r30 → g_Run d 348 164 [(0, .ref a0), (1, g_n v1), (2, g_n v2), (3, g_n v3), (4, g_n v4), (5, g_n r30)] [] M27 (g_qI Q)))))) ∧ (¬ v5 < r5 → g_Call d 252 [.ref a0, g_n v4] M2 (g_qV fun M7 => g_ext M2 M7 → g_ok M7 → g_Call d 336 [.ref a0, g_n v4] M7 (g_qV fun M10 => g_ext M7 M10 → g_ok M10 → g_InR (v3 + 1) ∧ g_Run d 348 112 [(0, .ref a0), (1, g_n v1), (2, g_n v2), (3, g_n (v3 + 1))] [] M10 (g_qI Q))))))) : g_Run d 348 164 [(0, .ref a0), (1, g_n v1), (2, g_n v2), (3, g_n v3), (4, g_n v4), (5, g_n v5)] [] M (g_qI Q) := by
  refine g_Run.ok fun hok => ?_
  replace h := h hok
  refine r_iload x_348_164 rfl ?_
  refine r_aload_n x_348_166 rfl ?_
  refine r_iload_n x_348_167 rfl ?_
  obtain ⟨hO1, h⟩ := h
  refine r_invV x_348_168 (z := 238) (ns := 0) (by decide +kernel) (as := [g_n v1]) (r := [g_n v5]) rfl rfl rfl hO1 rfl rfl ?_
  refine r_callI h fun r5 M2 hx3 hok4 hr6 h => ?_
  replace h := h hx3 hok4 hr6
  replace hO1 := hO1.up hx3
  refine r_ic_ge x_348_171 (t := 201) (by decide +kernel) hv5 hr6 (fun hc => ?_) (fun hc => ?_)
  · replace h := h.2 hc
    refine r_aload_n x_348_201 rfl ?_
    refine r_iload x_348_202 rfl ?_
    refine r_invV x_348_204 (z := 252) (ns := 0) (by decide +kernel) (as := [g_n v4]) (r := []) rfl rfl rfl hO1 rfl rfl ?_
    refine r_callV h fun M7 hx8 hok9 h => ?_
    replace h := h hx8 hok9
    replace hO1 := hO1.up hx8
    refine r_aload_n x_348_207 rfl ?_
    refine r_iload x_348_208 rfl ?_
    refine r_invV x_348_210 (z := 336) (ns := 0) (by decide +kernel) (as := [g_n v4]) (r := []) rfl rfl rfl hO1 rfl rfl ?_
    refine r_callV h fun M10 hx11 hok12 h => ?_
    replace h := h hx11 hok12
    replace hO1 := hO1.up hx11
    obtain ⟨h13, h⟩ := h
    refine r_iinc x_348_213 (by decide +kernel) rfl rfl (lv1 := [(0, .ref a0), (1, g_n v1), (2, g_n v2), (3, g_n (v3 + 1)), (4, g_n v4), (5, g_n v5)]) rfl ?_
    refine r_goto x_348_216 (t := 112) (by decide +kernel) ?_
    refine g_drop [0, 1, 2, 3] (lv1 := [(0, .ref a0), (1, g_n v1), (2, g_n v2), (3, g_n (v3 + 1))]) rfl ?_
    exact h
  · replace h := h.1 hc
    refine r_aload_n x_348_174 rfl ?_
    refine r_iload x_348_175 rfl ?_
    refine r_aload_n x_348_177 rfl ?_
    refine r_iload x_348_178 rfl ?_
    refine r_invV x_348_180 (z := 233) (ns := 0) (by decide +kernel) (as := [g_n v5]) (r := [g_n v5, .ref a0]) rfl rfl rfl hO1 rfl rfl ?_
    refine r_callI h fun r17 M14 hx15 hok16 hr18 h => ?_
    replace h := h hx15 hok16 hr18
    replace hO1 := hO1.up hx15
    refine r_invS x_348_183 (z := 237) (ns := 0) (by decide +kernel) (as := [g_n r17]) (r := [g_n v5, .ref a0]) rfl rfl rfl ?_
    refine r_callI h fun r22 M19 hx20 hok21 hr23 h => ?_
    replace h := h hx20 hok21 hr23
    replace hO1 := hO1.up hx20
    refine r_iload_n x_348_186 rfl ?_
    refine r_invV x_348_187 (z := 350) (ns := 0) (by decide +kernel) (as := [g_n v5, g_n r22, g_n v3]) (r := []) rfl rfl rfl hO1 rfl rfl ?_
    refine r_callV h fun M24 hx25 hok26 h => ?_
    replace h := h hx25 hok26
    replace hO1 := hO1.up hx25
    refine r_aload_n x_348_190 rfl ?_
    refine r_iload x_348_191 rfl ?_
    refine r_invV x_348_193 (z := 235) (ns := 0) (by decide +kernel) (as := [g_n v5]) (r := []) rfl rfl rfl hO1 rfl rfl ?_
    refine r_callI h fun r30 M27 hx28 hok29 hr31 h => ?_
    replace h := h hx28 hok29 hr31
    replace hO1 := hO1.up hx28
    refine r_istore x_348_196 (by decide +kernel) rfl (lv1 := [(0, .ref a0), (1, g_n v1), (2, g_n v2), (3, g_n v3), (4, g_n v4), (5, g_n r30)]) rfl ?_
    refine r_goto x_348_198 (t := 164) (by decide +kernel) ?_
    exact h
theorem m_X12_putName {d : Nat} {M : g_M} {Q : g_M → Prop} {a0 : Nat} {v1 : Int} (hv1 : g_InR v1) {v2 : Int} (hv2 : g_InR v2) (h : g_ok M → g_O M a0 12 ∧ g_Call d 246 [.ref a0, g_n v1] M (g_qV fun M2 => g_ext M M2 → g_ok M2 → g_InR (v2 + 1) ∧ g_Call d 232 [.ref a0, g_n v2] M2 (g_qI fun r9 M6 => g_ext M2 M6 → g_ok M6 → g_InR r9 → g_Call d 248 [.ref a0, g_n (v2 + 1), g_n r9] M6 (g_qV fun M11 => g_ext M6 M11 → g_ok M11 → g_Call d 246 [.ref a0, g_n 0] M11 (g_qV fun M14 => g_ext M11 M14 → g_ok M14 → Q M14))))) : g_Call (d + 1) 349 [.ref a0, g_n v1, g_n v2] M (g_qV Q) := by
  refine g_Call.ok fun hok0 => ?_
  replace h := h hok0
  refine r_body rfl (lv := [(0, .ref a0), (1, g_n v1), (2, g_n v2)]) rfl ?_
  refine g_Run.ok fun hok => ?_
  refine r_aload_n x_349_0 rfl ?_
  refine r_iload_n x_349_1 rfl ?_
  obtain ⟨hO1, h⟩ := h
  refine r_invV x_349_2 (z := 246) (ns := 0) (by decide +kernel) (as := [g_n v1]) (r := []) rfl rfl rfl hO1 rfl rfl ?_
  refine r_callV h fun M2 hx3 hok4 h => ?_
  replace h := h hx3 hok4
  replace hO1 := hO1.up hx3
  refine r_aload_n x_349_5 rfl ?_
  refine r_iload_n x_349_6 rfl ?_
  refine r_iconst x_349_7 ?_
  refine r_iadd x_349_8 ?_
  obtain ⟨h5, h⟩ := h
  refine r_aload_n x_349_9 rfl ?_
  refine r_iload_n x_349_10 rfl ?_
  refine r_invV x_349_11 (z := 232) (ns := 0) (by decide +kernel) (as := [g_n v2]) (r := [g_n (v2 + 1), .ref a0]) rfl rfl rfl hO1 rfl rfl ?_
  refine r_callI h fun r9 M6 hx7 hok8 hr10 h => ?_
  replace h := h hx7 hok8 hr10
  replace hO1 := hO1.up hx7
  refine r_invV x_349_14 (z := 248) (ns := 0) (by decide +kernel) (as := [g_n (v2 + 1), g_n r9]) (r := []) rfl rfl rfl hO1 rfl rfl ?_
  refine r_callV h fun M11 hx12 hok13 h => ?_
  replace h := h hx12 hok13
  replace hO1 := hO1.up hx12
  refine r_aload_n x_349_17 rfl ?_
  refine r_iconst x_349_18 ?_
  refine r_invV x_349_19 (z := 246) (ns := 0) (by decide +kernel) (as := [g_n 0]) (r := []) rfl rfl rfl hO1 rfl rfl ?_
  refine r_callV h fun M14 hx15 hok16 h => ?_
  replace h := h hx15 hok16
  replace hO1 := hO1.up hx15
  exact r_retV x_349_22 rfl h
theorem m_X12_gather {d : Nat} {M : g_M} {Q : g_M → Prop} {a0 : Nat} {v1 : Int} (hv1 : g_InR v1) {v2 : Int} (hv2 : g_InR v2) {v3 : Int} (hv3 : g_InR v3) (h : g_ok M → g_O M a0 12 ∧ g_Call d 236 [.ref a0, g_n v2, .ref (4 * 120 + 1)] M (g_qI fun r5 M2 => g_ext M M2 → g_ok M2 → g_InR r5 → ((r5 = 0 → g_Call d 236 [.ref a0, g_n v2, .ref (4 * 113 + 1)] M2 (g_qI fun r13 M10 => g_ext M2 M10 → g_ok M10 → g_InR r13 → ((r13 = 0 → g_Call d 236 [.ref a0, g_n v2, .ref (4 * 118 + 1)] M10 (g_qI fun r18 M15 => g_ext M10 M15 → g_ok M15 → g_InR r18 → ((r18 = 0 → g_Call d 236 [.ref a0, g_n v2, .ref (4 * 119 + 1)] M15 (g_qI fun r23 M20 => g_ext M15 M20 → g_ok M20 → g_InR r23 → ((r23 = 0 → g_Call d 236 [.ref a0, g_n v2, .ref (4 * 116 + 1)] M20 (g_qI fun r28 M25 => g_ext M20 M25 → g_ok M25 → g_InR r28 → ((r28 = 0 → g_Call d 236 [.ref a0, g_n v2, .ref (4 * 117 + 1)] M25 (g_qI fun r43 M40 => g_ext M25 M40 → g_ok M40 → g_InR r43 → ((r43 = 0 → g_Call d 236 [.ref a0, g_n v2, .ref (4 * 115 + 1)] M40 (g_qI fun r48 M45 => g_ext M40 M45 → g_ok M45 → g_InR r48 → g_Call d 352 [.ref a0, g_n v2, g_n v3, g_n r48] M45 (g_qI fun r53 M50 => g_ext M45 M50 → g_ok M50 → g_InR r53 → g_Run d 350 129 [(0, .ref a0), (1, g_n v1), (2, g_n v2), (3, g_n v3)] [g_n r53] M50 (g_qV Q)))) ∧ (¬ r43 = 0 → g_Call d 236 [.ref a0, g_n v2, .ref (4 * 117 + 1)] M40 (g_qI fun r58 M55 => g_ext M40 M55 → g_ok M55 → g_InR r58 → g_Call d 351 [.ref a0, g_n v3, g_n r58] M55 (g_qI fun r63 M60 => g_ext M55 M60 → g_ok M60 → g_InR r63 → g_Run d 350 129 [(0, .ref a0), (1, g_n v1), (2, g_n v2), (3, g_n v3)] [g_n r63] M60 (g_qV Q))))))) ∧ (¬ r28 = 0 → g_Call d 236 [.ref a0, g_n v2, .ref (4 * 117 + 1)] M25 (g_qI fun r33 M30 => g_ext M25 M30 → g_ok M30 → g_InR r33 → g_Call d 351 [.ref a0, g_n v3, g_n r33] M30 (g_qI fun r38 M35 => g_ext M30 M35 → g_ok M35 → g_InR r38 → g_Run d 350 129 [(0, .ref a0), (1, g_n v1), (2, g_n v2), (3, g_n v3)] [g_n r38] M35 (g_qV Q))))))) ∧ (¬ r23 = 0 → g_Run d 350 54 [(0, .ref a0), (1, g_n v1), (2, g_n v2), (3, g_n v3)] [] M20 (g_qV Q))))) ∧ (¬ r18 = 0 → g_Run d 350 54 [(0, .ref a0), (1, g_n v1), (2, g_n v2), (3, g_n v3)] [] M15 (g_qV Q))))) ∧ (¬ r13 = 0 → g_Call d 353 [.ref a0, g_n v1, g_n v2, g_n v3] M10 (g_qV fun M65 => g_ext M10 M65 → g_ok M65 → Q M65))))) ∧ (¬ r5 = 0 → g_Call d 353 [.ref a0, g_n v1, g_n v2, g_n v3] M2 (g_qV fun M7 => g_ext M2 M7 → g_ok M7 → Q M7))))) : g_Call (d + 1) 350 [.ref a0, g_n v1, g_n v2, g_n v3] M (g_qV Q) := by
  refine g_Call.ok fun hok0 => ?_
  replace h := h hok0
  refine r_body rfl (lv := [(0, .ref a0), (1, g_n v1), (2, g_n v2), (3, g_n v3)]) rfl ?_
  refine g_Run.ok fun hok => ?_
  refine r_aload_n x_350_0 rfl ?_
  refine r_iload_n x_350_1 rfl ?_
  refine r_ldcw x_350_2 (v := .ref (4 * 120 + 1)) rfl ?_
  obtain ⟨hO1, h⟩ := h
  refine r_invV x_350_5 (z := 236) (ns := 0) (by decide +kernel) (as := [g_n v2, .ref (4 * 120 + 1)]) (r := []) rfl rfl rfl hO1 rfl rfl ?_
  refine r_callI h fun r5 M2 hx3 hok4 hr6 h => ?_
  replace h := h hx3 hok4 hr6
  replace hO1 := hO1.up hx3
  refine r_if_ne x_350_8 (t := 22) (by decide +kernel) hr6 (fun hc => ?_) (fun hc => ?_)
  · replace h := h.2 hc
    refine r_aload_n x_350_22 rfl ?_
    refine r_iload_n x_350_23 rfl ?_
    refine r_iload_n x_350_24 rfl ?_
    refine r_iload_n x_350_25 rfl ?_
    refine r_invV x_350_26 (z := 353) (ns := 0) (by decide +kernel) (as := [g_n v1, g_n v2, g_n v3]) (r := []) rfl rfl rfl hO1 rfl rfl ?_
    refine r_callV h fun M7 hx8 hok9 h => ?_
    replace h := h hx8 hok9
    replace hO1 := hO1.up hx8
    refine r_goto x_350_29 (t := 168) (by decide +kernel) ?_
    exact r_retV x_350_168 rfl h
  · replace h := h.1 hc
    refine r_aload_n x_350_11 rfl ?_
    refine r_iload_n x_350_12 rfl ?_
    refine r_ldcw x_350_13 (v := .ref (4 * 113 + 1)) rfl ?_
    refine r_invV x_350_16 (z := 236) (ns := 0) (by decide +kernel) (as := [g_n v2, .ref (4 * 113 + 1)]) (r := []) rfl rfl rfl hO1 rfl rfl ?_
    refine r_callI h fun r13 M10 hx11 hok12 hr14 h => ?_
    replace h := h hx11 hok12 hr14
    replace hO1 := hO1.up hx11
    refine r_if_eq x_350_19 (t := 32) (by decide +kernel) hr14 (fun hc => ?_) (fun hc => ?_)
    · replace h := h.1 hc
      refine r_aload_n x_350_32 rfl ?_
      refine r_iload_n x_350_33 rfl ?_
      refine r_ldcw x_350_34 (v := .ref (4 * 118 + 1)) rfl ?_
      refine r_invV x_350_37 (z := 236) (ns := 0) (by decide +kernel) (as := [g_n v2, .ref (4 * 118 + 1)]) (r := []) rfl rfl rfl hO1 rfl rfl ?_
      refine r_callI h fun r18 M15 hx16 hok17 hr19 h => ?_
      replace h := h hx16 hok17 hr19
      replace hO1 := hO1.up hx16
      refine r_if_ne x_350_40 (t := 54) (by decide +kernel) hr19 (fun hc => ?_) (fun hc => ?_)
      · replace h := h.2 hc
        exact h
      · replace h := h.1 hc
        refine r_aload_n x_350_43 rfl ?_
        refine r_iload_n x_350_44 rfl ?_
        refine r_ldcw x_350_45 (v := .ref (4 * 119 + 1)) rfl ?_
        refine r_invV x_350_48 (z := 236) (ns := 0) (by decide +kernel) (as := [g_n v2, .ref (4 * 119 + 1)]) (r := []) rfl rfl rfl hO1 rfl rfl ?_
        refine r_callI h fun r23 M20 hx21 hok22 hr24 h => ?_
        replace h := h hx21 hok22 hr24
        replace hO1 := hO1.up hx21
        refine r_if_eq x_350_51 (t := 77) (by decide +kernel) hr24 (fun hc => ?_) (fun hc => ?_)
        · replace h := h.1 hc
          refine r_aload_n x_350_77 rfl ?_
          refine r_iload_n x_350_78 rfl ?_
          refine r_ldcw x_350_79 (v := .ref (4 * 116 + 1)) rfl ?_
          refine r_invV x_350_82 (z := 236) (ns := 0) (by decide +kernel) (as := [g_n v2, .ref (4 * 116 + 1)]) (r := []) rfl rfl rfl hO1 rfl rfl ?_
          refine r_callI h fun r28 M25 hx26 hok27 hr29 h => ?_
          replace h := h hx26 hok27 hr29
          replace hO1 := hO1.up hx26
          refine r_if_ne x_350_85 (t := 99) (by decide +kernel) hr29 (fun hc => ?_) (fun hc => ?_)
          · replace h := h.2 hc
            refine r_aload_n x_350_99 rfl ?_
            refine r_iload_n x_350_100 rfl ?_
            refine r_aload_n x_350_101 rfl ?_
            refine r_iload_n x_350_102 rfl ?_
            refine r_ldcw x_350_103 (v := .ref (4 * 117 + 1)) rfl ?_
            refine r_invV x_350_106 (z := 236) (ns := 0) (by decide +kernel) (as := [g_n v2, .ref (4 * 117 + 1)]) (r := [g_n v3, .ref a0]) rfl rfl rfl hO1 rfl rfl ?_
            refine r_callI h fun r33 M30 hx31 hok32 hr34 h => ?_
            replace h := h hx31 hok32 hr34
            replace hO1 := hO1.up hx31
            refine r_invV x_350_109 (z := 351) (ns := 0) (by decide +kernel) (as := [g_n v3, g_n r33]) (r := []) rfl rfl rfl hO1 rfl rfl ?_
            refine r_callI h fun r38 M35 hx36 hok37 hr39 h => ?_
            replace h := h hx36 hok37 hr39
            replace hO1 := hO1.up hx36
            refine r_goto x_350_112 (t := 129) (by decide +kernel) ?_
            exact h
          · replace h := h.1 hc
            refine r_aload_n x_350_88 rfl ?_
            refine r_iload_n x_350_89 rfl ?_
            refine r_ldcw x_350_90 (v := .ref (4 * 117 + 1)) rfl ?_
            refine r_invV x_350_93 (z := 236) (ns := 0) (by decide +kernel) (as := [g_n v2, .ref (4 * 117 + 1)]) (r := []) rfl rfl rfl hO1 rfl rfl ?_
            refine r_callI h fun r43 M40 hx41 hok42 hr44 h => ?_
            replace h := h hx41 hok42 hr44
            replace hO1 := hO1.up hx41
            refine r_if_eq x_350_96 (t := 115) (by decide +kernel) hr44 (fun hc => ?_) (fun hc => ?_)
            · replace h := h.1 hc
              refine r_aload_n x_350_115 rfl ?_
              refine r_iload_n x_350_116 rfl ?_
              refine r_iload_n x_350_117 rfl ?_
              refine r_aload_n x_350_118 rfl ?_
              refine r_iload_n x_350_119 rfl ?_
              refine r_ldcw x_350_120 (v := .ref (4 * 115 + 1)) rfl ?_
              refine r_invV x_350_123 (z := 236) (ns := 0) (by decide +kernel) (as := [g_n v2, .ref (4 * 115 + 1)]) (r := [g_n v3, g_n v2, .ref a0]) rfl rfl rfl hO1 rfl rfl ?_
              refine r_callI h fun r48 M45 hx46 hok47 hr49 h => ?_
              replace h := h hx46 hok47 hr49
              replace hO1 := hO1.up hx46
              refine r_invV x_350_126 (z := 352) (ns := 0) (by decide +kernel) (as := [g_n v2, g_n v3, g_n r48]) (r := []) rfl rfl rfl hO1 rfl rfl ?_
              refine r_callI h fun r53 M50 hx51 hok52 hr54 h => ?_
              replace h := h hx51 hok52 hr54
              replace hO1 := hO1.up hx51
              exact h
            · replace h := h.2 hc
              refine r_aload_n x_350_99 rfl ?_
              refine r_iload_n x_350_100 rfl ?_
              refine r_aload_n x_350_101 rfl ?_
              refine r_iload_n x_350_102 rfl ?_
              refine r_ldcw x_350_103 (v := .ref (4 * 117 + 1)) rfl ?_
              refine r_invV x_350_106 (z := 236) (ns := 0) (by decide +kernel) (as := [g_n v2, .ref (4 * 117 + 1)]) (r := [g_n v3, .ref a0]) rfl rfl rfl hO1 rfl rfl ?_
              refine r_callI h fun r58 M55 hx56 hok57 hr59 h => ?_
              replace h := h hx56 hok57 hr59
              replace hO1 := hO1.up hx56
              refine r_invV x_350_109 (z := 351) (ns := 0) (by decide +kernel) (as := [g_n v3, g_n r58]) (r := []) rfl rfl rfl hO1 rfl rfl ?_
              refine r_callI h fun r63 M60 hx61 hok62 hr64 h => ?_
              replace h := h hx61 hok62 hr64
              replace hO1 := hO1.up hx61
              refine r_goto x_350_112 (t := 129) (by decide +kernel) ?_
              exact h
        · replace h := h.2 hc
          exact h
    · replace h := h.2 hc
      refine r_aload_n x_350_22 rfl ?_
      refine r_iload_n x_350_23 rfl ?_
      refine r_iload_n x_350_24 rfl ?_
      refine r_iload_n x_350_25 rfl ?_
      refine r_invV x_350_26 (z := 353) (ns := 0) (by decide +kernel) (as := [g_n v1, g_n v2, g_n v3]) (r := []) rfl rfl rfl hO1 rfl rfl ?_
      refine r_callV h fun M65 hx66 hok67 h => ?_
      replace h := h hx66 hok67
      replace hO1 := hO1.up hx66
      refine r_goto x_350_29 (t := 168) (by decide +kernel) ?_
      exact r_retV x_350_168 rfl h
theorem s_X12_gather_54 {d : Nat} {M : g_M} {Q : g_M → Prop} {a0 : Nat} {v1 : Int} (hv1 : g_InR v1) {v2 : Int} (hv2 : g_InR v2) {v3 : Int} (hv3 : g_InR v3) (h : g_ok M → g_O M a0 12 ∧ g_Call d 349 [.ref a0, g_n 4, g_n v1] M (g_qV fun M2 => g_ext M M2 → g_ok M2 → g_Call d 236 [.ref a0, g_n v2, .ref (4 * 119 + 1)] M2 (g_qI fun r8 M5 => g_ext M2 M5 → g_ok M5 → g_InR r8 → g_Call d 354 [.ref a0, g_n v2, g_n v3, g_n r8] M5 (g_qV fun M10 => g_ext M5 M10 → g_ok M10 → Q M10)))) : g_Run d 350 54 [(0, .ref a0), (1, g_n v1), (2, g_n v2), (3, g_n v3)] [] M (g_qV Q) := by
  refine g_Run.ok fun hok => ?_
  replace h := h hok
  refine r_aload_n x_350_54 rfl ?_
  refine r_iconst x_350_55 ?_
  refine r_iload_n x_350_56 rfl ?_
  obtain ⟨hO1, h⟩ := h
  refine r_invV x_350_57 (z := 349) (ns := 0) (by decide +kernel) (as := [g_n 4, g_n v1]) (r := []) rfl rfl rfl hO1 rfl rfl ?_
  refine r_callV h fun M2 hx3 hok4 h => ?_
  replace h := h hx3 hok4
  replace hO1 := hO1.up hx3
  refine r_aload_n x_350_60 rfl ?_
  refine r_iload_n x_350_61 rfl ?_
  refine r_iload_n x_350_62 rfl ?_
  refine r_aload_n x_350_63 rfl ?_
  refine r_iload_n x_350_64 rfl ?_
  refine r_ldcw x_350_65 (v := .ref (4 * 119 + 1)) rfl ?_
  refine r_invV x_350_68 (z := 236) (ns := 0) (by decide +kernel) (as := [g_n v2, .ref (4 * 119 + 1)]) (r := [g_n v3, g_n v2, .ref a0]) rfl rfl rfl hO1 rfl rfl ?_
  refine r_callI h fun r8 M5 hx6 hok7 hr9 h => ?_
  replace h := h hx6 hok7 hr9
  replace hO1 := hO1.up hx6
  refine r_invV x_350_71 (z := 354) (ns := 0) (by decide +kernel) (as := [g_n v2, g_n v3, g_n r8]) (r := []) rfl rfl rfl hO1 rfl rfl ?_
  refine r_callV h fun M10 hx11 hok12 h => ?_
  replace h := h hx11 hok12
  replace hO1 := hO1.up hx11
  refine r_goto x_350_74 (t := 168) (by decide +kernel) ?_
  exact r_retV x_350_168 rfl h
theorem s_X12_gather_129 {d : Nat} {M : g_M} {Q : g_M → Prop} {a0 : Nat} {v1 : Int} (hv1 : g_InR v1) {v2 : Int} (hv2 : g_InR v2) {v3 : Int} (hv3 : g_InR v3) {w0 : Int} (hw0 : g_InR w0) (h : g_ok M → g_InR (v1 + 1) ∧ g_O M a0 12 ∧ g_Call d 232 [.ref a0, g_n v1] M (g_qI fun r6 M3 => g_ext M M3 → g_ok M3 → g_InR r6 → ((w0 < 0 → g_Call d 254 [.ref a0, g_n (v1 + 1), g_n r6, g_n 2706200] M3 (g_qV fun M26 => g_ext M3 M26 → g_ok M26 → Q M26)) ∧ (¬ w0 < 0 → ∃ b8, g_r M3 a0 18 = some b8 ∧ ∃ n10, g_A M3 b8 1 n10 ∧ ((0 : Int) ≤ w0 ∧ (w0 : Int) < n10) ∧ g_Call d 328 [.ref a0, g_n v2, g_n (g_i M3 b8 w0)] M3 (g_qI fun r16 M13 => g_ext M3 M13 → g_ok M13 → g_InR r16 → g_Call d 329 [g_n r16] M13 (g_qI fun r21 M18 => g_ext M13 M18 → g_ok M18 → g_InR r21 → g_Call d 254 [.ref a0, g_n (v1 + 1), g_n r6, g_n r21] M18 (g_qV fun M23 => g_ext M18 M23 → g_ok M23 → Q M23))))))) : g_Run d 350 129 [(0, .ref a0), (1, g_n v1), (2, g_n v2), (3, g_n v3)] [g_n w0] M (g_qV Q) := by
  refine g_Run.ok fun hok => ?_
  replace h := h hok
  refine r_istore x_350_129 (by decide +kernel) rfl (lv1 := [(0, .ref a0), (1, g_n v1), (2, g_n v2), (3, g_n v3), (4, g_n w0)]) rfl ?_
  refine r_aload_n x_350_131 rfl ?_
  refine r_iload_n x_350_132 rfl ?_
  refine r_iconst x_350_133 ?_
  refine r_iadd x_350_134 ?_
  obtain ⟨h1, h⟩ := h
  refine r_aload_n x_350_135 rfl ?_
  refine r_iload_n x_350_136 rfl ?_
  obtain ⟨hO2, h⟩ := h
  refine r_invV x_350_137 (z := 232) (ns := 0) (by decide +kernel) (as := [g_n v1]) (r := [g_n (v1 + 1), .ref a0]) rfl rfl rfl hO2 rfl rfl ?_
  refine r_callI h fun r6 M3 hx4 hok5 hr7 h => ?_
  replace h := h hx4 hok5 hr7
  replace hO2 := hO2.up hx4
  refine r_iload x_350_140 rfl ?_
  refine r_if_ge x_350_142 (t := 150) (by decide +kernel) hw0 (fun hc => ?_) (fun hc => ?_)
  · replace h := h.2 hc
    refine r_aload_n x_350_150 rfl ?_
    refine r_iload_n x_350_151 rfl ?_
    refine r_aload_n x_350_152 rfl ?_
    obtain ⟨b8, hb9, h⟩ := h
    refine r_getR x_350_153 rfl (ci := 12) (k := 18) (ns := 0) (by decide +kernel) (by decide) rfl (kz := 18) rfl hO2 hb9 ?_
    refine r_iload x_350_156 rfl ?_
    obtain ⟨n10, hA11, h⟩ := h
    obtain ⟨h12, h⟩ := h
    refine r_iald x_350_158 hA11 hw0 h12.1 h12.2 ?_
    refine r_invV x_350_159 (z := 328) (ns := 0) (by decide +kernel) (as := [g_n v2, g_n (g_i M3 b8 w0)]) (r := [g_n r6, g_n (v1 + 1), .ref a0]) rfl rfl rfl hO2 rfl rfl ?_
    refine r_callI h fun r16 M13 hx14 hok15 hr17 h => ?_
    replace h := h hx14 hok15 hr17
    replace hO2 := hO2.up hx14
    replace hA11 := hA11.up hx14
    refine r_invS x_350_162 (z := 329) (ns := 0) (by decide +kernel) (as := [g_n r16]) (r := [g_n r6, g_n (v1 + 1), .ref a0]) rfl rfl rfl ?_
    refine r_callI h fun r21 M18 hx19 hok20 hr22 h => ?_
    replace h := h hx19 hok20 hr22
    replace hO2 := hO2.up hx19
    replace hA11 := hA11.up hx19
    refine r_invV x_350_165 (z := 254) (ns := 0) (by decide +kernel) (as := [g_n (v1 + 1), g_n r6, g_n r21]) (r := []) rfl rfl rfl hO2 rfl rfl ?_
    refine r_callV h fun M23 hx24 hok25 h => ?_
    replace h := h hx24 hok25
    replace hO2 := hO2.up hx24
    replace hA11 := hA11.up hx24
    exact r_retV x_350_168 rfl h
  · replace h := h.1 hc
    refine r_ldc x_350_145 (v := g_n 2706200) rfl ?_
    refine r_goto x_350_147 (t := 165) (by decide +kernel) ?_
    refine r_invV x_350_165 (z := 254) (ns := 0) (by decide +kernel) (as := [g_n (v1 + 1), g_n r6, g_n 2706200]) (r := []) rfl rfl rfl hO2 rfl rfl ?_
    refine r_callV h fun M26 hx27 hok28 h => ?_
    replace h := h hx27 hok28
    replace hO2 := hO2.up hx27
    exact r_retV x_350_168 rfl h
theorem m_X12_end {d : Nat} {M : g_M} {Q : Int → g_M → Prop} {a0 : Nat} {v1 : Int} (hv1 : g_InR v1) {v2 : Int} (hv2 : g_InR v2) (h : g_ok M → g_O M a0 12 ∧ ∃ b2, g_r M a0 31 = some b2 ∧ ∃ n4, g_A M b2 1 n4 ∧ ((0 : Int) ≤ v1 ∧ (v1 : Int) < n4) ∧ g_Run d 351 10 [(0, .ref a0), (1, g_n v1), (2, g_n v2), (3, g_n (g_i M b2 v1)), (4, g_n 0)] [] M (g_qI Q)) : g_Call (d + 1) 351 [.ref a0, g_n v1, g_n v2] M (g_qI Q) := by
  refine g_Call.ok fun hok0 => ?_
  replace h := h hok0
  refine r_body rfl (lv := [(0, .ref a0), (1, g_n v1), (2, g_n v2)]) rfl ?_
  refine g_Run.ok fun hok => ?_
  refine r_aload_n x_351_0 rfl ?_
  obtain ⟨hO1, h⟩ := h
  obtain ⟨b2, hb3, h⟩ := h
  refine r_getR x_351_1 rfl (ci := 12) (k := 31) (ns := 0) (by decide +kernel) (by decide) rfl (kz := 31) rfl hO1 hb3 ?_
  refine r_iload_n x_351_4 rfl ?_
  obtain ⟨n4, hA5, h⟩ := h
  obtain ⟨h6, h⟩ := h
  refine r_iald x_351_5 hA5 hv1 h6.1 h6.2 ?_
  refine r_istore_n x_351_6 (by decide +kernel) rfl (lv1 := [(0, .ref a0), (1, g_n v1), (2, g_n v2), (3, g_n (g_i M b2 v1))]) rfl ?_
  refine r_iconst x_351_7 ?_
  refine r_istore x_351_8 (by decide +kernel) rfl (lv1 := [(0, .ref a0), (1, g_n v1), (2, g_n v2), (3, g_n (g_i M b2 v1)), (4, g_n 0)]) rfl ?_
  exact h
theorem s_X12_end_10 {d : Nat} {M : g_M} {Q : Int → g_M → Prop} {a0 : Nat} {v1 : Int} (hv1 : g_InR v1) {v2 : Int} (hv2 : g_InR v2) {v3 : Int} (hv3 : g_InR v3) {v4 : Int} (hv4 : g_InR v4) (h : g_ok M → g_O M a0 12 ∧ ((v4 < g_i M a0 19 → ((v2 = 0 → Q v3 M) ∧ (¬ v2 = 0 → ∃ b2, g_r M a0 30 = some b2 ∧ ∃ n4, g_A M b2 1 n4 ∧ ((0 : Int) ≤ v4 ∧ (v4 : Int) < n4) ∧ ((g_i M b2 v4 = v1 → g_InR (v4 + 1) ∧ g_Run d 351 10 [(0, .ref a0), (1, g_n v1), (2, g_n v2), (3, g_n v4), (4, g_n (v4 + 1))] [] M (g_qI Q)) ∧ (¬ g_i M b2 v4 = v1 → g_InR (v4 + 1) ∧ g_Run d 351 10 [(0, .ref a0), (1, g_n v1), (2, g_n v2), (3, g_n v3), (4, g_n (v4 + 1))] [] M (g_qI Q)))))) ∧ (¬ v4 < g_i M a0 19 → Q v3 M))) : g_Run d 351 10 [(0, .ref a0), (1, g_n v1), (2, g_n v2), (3, g_n v3), (4, g_n v4)] [] M (g_qI Q) := by
  refine g_Run.ok fun hok => ?_
  replace h := h hok
  refine r_iload x_351_10 rfl ?_
  refine r_aload_n x_351_12 rfl ?_
  obtain ⟨hO1, h⟩ := h
  refine r_getI x_351_13 rfl (ci := 12) (k := 19) (ns := 0) (by decide +kernel) (by decide) rfl (kz := 19) rfl hO1 ?_
  refine r_ic_ge x_351_16 (t := 43) (by decide +kernel) hv4 (hok.1 _ _) (fun hc => ?_) (fun hc => ?_)
  · replace h := h.2 hc
    refine r_iload_n x_351_43 rfl ?_
    exact r_retI x_351_44 rfl hv3 h
  · replace h := h.1 hc
    refine r_iload_n x_351_19 rfl ?_
    refine r_if_eq x_351_20 (t := 43) (by decide +kernel) hv2 (fun hc => ?_) (fun hc => ?_)
    · replace h := h.1 hc
      refine r_iload_n x_351_43 rfl ?_
      exact r_retI x_351_44 rfl hv3 h
    · replace h := h.2 hc
      refine r_aload_n x_351_23 rfl ?_
      obtain ⟨b2, hb3, h⟩ := h
      refine r_getR x_351_24 rfl (ci := 12) (k := 30) (ns := 0) (by decide +kernel) (by decide) rfl (kz := 30) rfl hO1 hb3 ?_
      refine r_iload x_351_27 rfl ?_
      obtain ⟨n4, hA5, h⟩ := h
      obtain ⟨h6, h⟩ := h
      refine r_iald x_351_29 hA5 hv4 h6.1 h6.2 ?_
      refine r_iload_n x_351_30 rfl ?_
      refine r_ic_ne x_351_31 (t := 37) (by decide +kernel) (hok.1 _ _) hv1 (fun hc => ?_) (fun hc => ?_)
      · replace h := h.2 hc
        obtain ⟨h7, h⟩ := h
        refine r_iinc x_351_37 (by decide +kernel) rfl rfl (lv1 := [(0, .ref a0), (1, g_n v1), (2, g_n v2), (3, g_n v3), (4, g_n (v4 + 1))]) rfl ?_
        refine r_goto x_351_40 (t := 10) (by decide +kernel) ?_
        exact h
      · replace h := h.1 hc
        refine r_iload x_351_34 rfl ?_
        refine r_istore_n x_351_36 (by decide +kernel) rfl (lv1 := [(0, .ref a0), (1, g_n v1), (2, g_n v2), (3, g_n v4), (4, g_n v4)]) rfl ?_
        obtain ⟨h8, h⟩ := h
        refine r_iinc x_351_37 (by decide +kernel) rfl rfl (lv1 := [(0, .ref a0), (1, g_n v1), (2, g_n v2), (3, g_n v4), (4, g_n (v4 + 1))]) rfl ?_
        refine r_goto x_351_40 (t := 10) (by decide +kernel) ?_
        exact h
theorem m_X12_most {d : Nat} {M : g_M} {Q : Int → g_M → Prop} {a0 : Nat} {v1 : Int} (hv1 : g_InR v1) {v2 : Int} (hv2 : g_InR v2) {v3 : Int} (hv3 : g_InR v3) (h : g_ok M → g_Run d 352 6 [(0, .ref a0), (1, g_n v1), (2, g_n v2), (3, g_n v3), (4, g_n ((-1))), (5, g_n 0)] [] M (g_qI Q)) : g_Call (d + 1) 352 [.ref a0, g_n v1, g_n v2, g_n v3] M (g_qI Q) := by
  refine g_Call.ok fun hok0 => ?_
  replace h := h hok0
  refine r_body rfl (lv := [(0, .ref a0), (1, g_n v1), (2, g_n v2), (3, g_n v3)]) rfl ?_
  refine g_Run.ok fun hok => ?_
  refine r_iconst x_352_0 ?_
  refine r_istore x_352_1 (by decide +kernel) rfl (lv1 := [(0, .ref a0), (1, g_n v1), (2, g_n v2), (3, g_n v3), (4, g_n ((-1)))]) rfl ?_
  refine r_iconst x_352_3 ?_
  refine r_istore x_352_4 (by decide +kernel) rfl (lv1 := [(0, .ref a0), (1, g_n v1), (2, g_n v2), (3, g_n v3), (4, g_n ((-1))), (5, g_n 0)]) rfl ?_
  exact h
theorem s_X12_most_6 {d : Nat} {M : g_M} {Q : Int → g_M → Prop} {a0 : Nat} {v1 : Int} (hv1 : g_InR v1) {v2 : Int} (hv2 : g_InR v2) {v3 : Int} (hv3 : g_InR v3) {v4 : Int} (hv4 : g_InR v4) {v5 : Int} (hv5 : g_InR v5) (h : g_ok M → g_O M a0 12 ∧ ((v5 < g_i M a0 19 → ∃ b2, g_r M a0 30 = some b2 ∧ ∃ n4, g_A M b2 1 n4 ∧ ((0 : Int) ≤ v5 ∧ (v5 : Int) < n4) ∧ ((g_i M b2 v5 = v2 → ∃ b7, g_r M a0 18 = some b7 ∧ ∃ n9, g_A M b7 1 n9 ∧ ((0 : Int) ≤ v5 ∧ (v5 : Int) < n9) ∧ g_Call d 328 [.ref a0, g_n v1, g_n (g_i M b7 v5)] M (g_qI fun r15 M12 => g_ext M M12 → g_ok M12 → g_InR r15 → ((r15 = (-1) → g_InR (v5 + 1) ∧ g_Run d 352 6 [(0, .ref a0), (1, g_n v1), (2, g_n v2), (3, g_n v3), (4, g_n v4), (5, g_n (v5 + 1))] [] M12 (g_qI Q)) ∧ (¬ r15 = (-1) → ((v4 < 0 → g_InR (v5 + 1) ∧ g_Run d 352 6 [(0, .ref a0), (1, g_n v1), (2, g_n v2), (3, g_n v3), (4, g_n v5), (5, g_n (v5 + 1))] [] M12 (g_qI Q)) ∧ (¬ v4 < 0 → ∃ b17, g_r M12 a0 18 = some b17 ∧ ∃ n19, g_A M12 b17 1 n19 ∧ ((0 : Int) ≤ v4 ∧ (v4 : Int) < n19) ∧ g_Call d 327 [.ref a0, g_n v1, g_n (g_i M12 b17 v4)] M12 (g_qI fun r25 M22 => g_ext M12 M22 → g_ok M22 → g_InR r25 → g_Call d 269 [.ref a0, g_n r15, g_n r25] M22 (g_qI fun r30 M27 => g_ext M22 M27 → g_ok M27 → g_InR r30 → ((v3 = 0 → ((r30 < 0 → g_InR (v5 + 1) ∧ g_Run d 352 6 [(0, .ref a0), (1, g_n v1), (2, g_n v2), (3, g_n v3), (4, g_n v5), (5, g_n (v5 + 1))] [] M27 (g_qI Q)) ∧ (¬ r30 < 0 → g_InR (v5 + 1) ∧ g_Run d 352 6 [(0, .ref a0), (1, g_n v1), (2, g_n v2), (3, g_n v3), (4, g_n v4), (5, g_n (v5 + 1))] [] M27 (g_qI Q)))) ∧ (¬ v3 = 0 → ((0 < r30 → g_InR (v5 + 1) ∧ g_Run d 352 6 [(0, .ref a0), (1, g_n v1), (2, g_n v2), (3, g_n v3), (4, g_n v5), (5, g_n (v5 + 1))] [] M27 (g_qI Q)) ∧ (¬ 0 < r30 → g_InR (v5 + 1) ∧ g_Run d 352 6 [(0, .ref a0), (1, g_n v1), (2, g_n v2), (3, g_n v3), (4, g_n v4), (5, g_n (v5 + 1))] [] M27 (g_qI Q))))))))))))) ∧ (¬ g_i M b2 v5 = v2 → g_InR (v5 + 1) ∧ g_Run d 352 6 [(0, .ref a0), (1, g_n v1), (2, g_n v2), (3, g_n v3), (4, g_n v4), (5, g_n (v5 + 1))] [] M (g_qI Q)))) ∧ (¬ v5 < g_i M a0 19 → Q v4 M))) : g_Run d 352 6 [(0, .ref a0), (1, g_n v1), (2, g_n v2), (3, g_n v3), (4, g_n v4), (5, g_n v5)] [] M (g_qI Q) := by
  refine g_Run.ok fun hok => ?_
  replace h := h hok
  refine r_iload x_352_6 rfl ?_
  refine r_aload_n x_352_8 rfl ?_
  obtain ⟨hO1, h⟩ := h
  refine r_getI x_352_9 rfl (ci := 12) (k := 19) (ns := 0) (by decide +kernel) (by decide) rfl (kz := 19) rfl hO1 ?_
  refine r_ic_ge x_352_12 (t := 111) (by decide +kernel) hv5 (hok.1 _ _) (fun hc => ?_) (fun hc => ?_)
  · replace h := h.2 hc
    refine r_iload x_352_111 rfl ?_
    exact r_retI x_352_113 rfl hv4 h
  · replace h := h.1 hc
    refine r_aload_n x_352_15 rfl ?_
    obtain ⟨b2, hb3, h⟩ := h
    refine r_getR x_352_16 rfl (ci := 12) (k := 30) (ns := 0) (by decide +kernel) (by decide) rfl (kz := 30) rfl hO1 hb3 ?_
    refine r_iload x_352_19 rfl ?_
    obtain ⟨n4, hA5, h⟩ := h
    obtain ⟨h6, h⟩ := h
    refine r_iald x_352_21 hA5 hv5 h6.1 h6.2 ?_
    refine r_iload_n x_352_22 rfl ?_
    refine r_ic_eq x_352_23 (t := 29) (by decide +kernel) (hok.1 _ _) hv2 (fun hc => ?_) (fun hc => ?_)
    · replace h := h.1 hc
      refine r_aload_n x_352_29 rfl ?_
      refine r_iload_n x_352_30 rfl ?_
      refine r_aload_n x_352_31 rfl ?_
      obtain ⟨b7, hb8, h⟩ := h
      refine r_getR x_352_32 rfl (ci := 12) (k := 18) (ns := 0) (by decide +kernel) (by decide) rfl (kz := 18) rfl hO1 hb8 ?_
      refine r_iload x_352_35 rfl ?_
      obtain ⟨n9, hA10, h⟩ := h
      obtain ⟨h11, h⟩ := h
      refine r_iald x_352_37 hA10 hv5 h11.1 h11.2 ?_
      refine r_invV x_352_38 (z := 328) (ns := 0) (by decide +kernel) (as := [g_n v1, g_n (g_i M b7 v5)]) (r := []) rfl rfl rfl hO1 rfl rfl ?_
      refine r_callI h fun r15 M12 hx13 hok14 hr16 h => ?_
      replace h := h hx13 hok14 hr16
      replace hO1 := hO1.up hx13
      replace hA5 := hA5.up hx13
      replace hA10 := hA10.up hx13
      refine r_istore x_352_41 (by decide +kernel) rfl (lv1 := [(0, .ref a0), (1, g_n v1), (2, g_n v2), (3, g_n v3), (4, g_n v4), (5, g_n v5), (6, g_n r15)]) rfl ?_
      refine r_iload x_352_43 rfl ?_
      refine r_iconst x_352_45 ?_
      refine r_ic_ne x_352_46 (t := 52) (by decide +kernel) hr16 (g_Rk rfl) (fun hc => ?_) (fun hc => ?_)
      · replace h := h.2 hc
        refine r_iload x_352_52 rfl ?_
        refine r_if_ge x_352_54 (t := 64) (by decide +kernel) hv4 (fun hc => ?_) (fun hc => ?_)
        · replace h := h.2 hc
          refine r_aload_n x_352_64 rfl ?_
          refine r_iload x_352_65 rfl ?_
          refine r_aload_n x_352_67 rfl ?_
          refine r_iload_n x_352_68 rfl ?_
          refine r_aload_n x_352_69 rfl ?_
          obtain ⟨b17, hb18, h⟩ := h
          refine r_getR x_352_70 rfl (ci := 12) (k := 18) (ns := 0) (by decide +kernel) (by decide) rfl (kz := 18) rfl hO1 hb18 ?_
          refine r_iload x_352_73 rfl ?_
          obtain ⟨n19, hA20, h⟩ := h
          obtain ⟨h21, h⟩ := h
          refine r_iald x_352_75 hA20 hv4 h21.1 h21.2 ?_
          refine r_invV x_352_76 (z := 327) (ns := 0) (by decide +kernel) (as := [g_n v1, g_n (g_i M12 b17 v4)]) (r := [g_n r15, .ref a0]) rfl rfl rfl hO1 rfl rfl ?_
          refine r_callI h fun r25 M22 hx23 hok24 hr26 h => ?_
          replace h := h hx23 hok24 hr26
          replace hO1 := hO1.up hx23
          replace hA5 := hA5.up hx23
          replace hA10 := hA10.up hx23
          replace hA20 := hA20.up hx23
          refine r_invV x_352_79 (z := 269) (ns := 0) (by decide +kernel) (as := [g_n r15, g_n r25]) (r := []) rfl rfl rfl hO1 rfl rfl ?_
          refine r_callI h fun r30 M27 hx28 hok29 hr31 h => ?_
          replace h := h hx28 hok29 hr31
          replace hO1 := hO1.up hx28
          replace hA5 := hA5.up hx28
          replace hA10 := hA10.up hx28
          replace hA20 := hA20.up hx28
          refine r_istore x_352_82 (by decide +kernel) rfl (lv1 := [(0, .ref a0), (1, g_n v1), (2, g_n v2), (3, g_n v3), (4, g_n v4), (5, g_n v5), (6, g_n r15), (7, g_n r30)]) rfl ?_
          refine r_iload_n x_352_84 rfl ?_
          refine r_if_eq x_352_85 (t := 96) (by decide +kernel) hv3 (fun hc => ?_) (fun hc => ?_)
          · replace h := h.1 hc
            refine r_iload x_352_96 rfl ?_
            refine r_if_ge x_352_98 (t := 105) (by decide +kernel) hr31 (fun hc => ?_) (fun hc => ?_)
            · replace h := h.2 hc
              obtain ⟨h32, h⟩ := h
              refine r_iinc x_352_105 (by decide +kernel) rfl rfl (lv1 := [(0, .ref a0), (1, g_n v1), (2, g_n v2), (3, g_n v3), (4, g_n v4), (5, g_n (v5 + 1)), (6, g_n r15), (7, g_n r30)]) rfl ?_
              refine r_goto x_352_108 (t := 6) (by decide +kernel) ?_
              refine g_drop [0, 1, 2, 3, 4, 5] (lv1 := [(0, .ref a0), (1, g_n v1), (2, g_n v2), (3, g_n v3), (4, g_n v4), (5, g_n (v5 + 1))]) rfl ?_
              exact h
            · replace h := h.1 hc
              refine r_iload x_352_101 rfl ?_
              refine r_istore x_352_103 (by decide +kernel) rfl (lv1 := [(0, .ref a0), (1, g_n v1), (2, g_n v2), (3, g_n v3), (4, g_n v5), (5, g_n v5), (6, g_n r15), (7, g_n r30)]) rfl ?_
              obtain ⟨h33, h⟩ := h
              refine r_iinc x_352_105 (by decide +kernel) rfl rfl (lv1 := [(0, .ref a0), (1, g_n v1), (2, g_n v2), (3, g_n v3), (4, g_n v5), (5, g_n (v5 + 1)), (6, g_n r15), (7, g_n r30)]) rfl ?_
              refine r_goto x_352_108 (t := 6) (by decide +kernel) ?_
              refine g_drop [0, 1, 2, 3, 4, 5] (lv1 := [(0, .ref a0), (1, g_n v1), (2, g_n v2), (3, g_n v3), (4, g_n v5), (5, g_n (v5 + 1))]) rfl ?_
              exact h
          · replace h := h.2 hc
            refine r_iload x_352_88 rfl ?_
            refine r_if_le x_352_90 (t := 105) (by decide +kernel) hr31 (fun hc => ?_) (fun hc => ?_)
            · replace h := h.2 hc
              obtain ⟨h34, h⟩ := h
              refine r_iinc x_352_105 (by decide +kernel) rfl rfl (lv1 := [(0, .ref a0), (1, g_n v1), (2, g_n v2), (3, g_n v3), (4, g_n v4), (5, g_n (v5 + 1)), (6, g_n r15), (7, g_n r30)]) rfl ?_
              refine r_goto x_352_108 (t := 6) (by decide +kernel) ?_
              refine g_drop [0, 1, 2, 3, 4, 5] (lv1 := [(0, .ref a0), (1, g_n v1), (2, g_n v2), (3, g_n v3), (4, g_n v4), (5, g_n (v5 + 1))]) rfl ?_
              exact h
            · replace h := h.1 hc
              refine r_goto x_352_93 (t := 101) (by decide +kernel) ?_
              refine r_iload x_352_101 rfl ?_
              refine r_istore x_352_103 (by decide +kernel) rfl (lv1 := [(0, .ref a0), (1, g_n v1), (2, g_n v2), (3, g_n v3), (4, g_n v5), (5, g_n v5), (6, g_n r15), (7, g_n r30)]) rfl ?_
              obtain ⟨h35, h⟩ := h
              refine r_iinc x_352_105 (by decide +kernel) rfl rfl (lv1 := [(0, .ref a0), (1, g_n v1), (2, g_n v2), (3, g_n v3), (4, g_n v5), (5, g_n (v5 + 1)), (6, g_n r15), (7, g_n r30)]) rfl ?_
              refine r_goto x_352_108 (t := 6) (by decide +kernel) ?_
              refine g_drop [0, 1, 2, 3, 4, 5] (lv1 := [(0, .ref a0), (1, g_n v1), (2, g_n v2), (3, g_n v3), (4, g_n v5), (5, g_n (v5 + 1))]) rfl ?_
              exact h
        · replace h := h.1 hc
          refine r_iload x_352_57 rfl ?_
          refine r_istore x_352_59 (by decide +kernel) rfl (lv1 := [(0, .ref a0), (1, g_n v1), (2, g_n v2), (3, g_n v3), (4, g_n v5), (5, g_n v5), (6, g_n r15)]) rfl ?_
          refine r_goto x_352_61 (t := 105) (by decide +kernel) ?_
          obtain ⟨h36, h⟩ := h
          refine r_iinc x_352_105 (by decide +kernel) rfl rfl (lv1 := [(0, .ref a0), (1, g_n v1), (2, g_n v2), (3, g_n v3), (4, g_n v5), (5, g_n (v5 + 1)), (6, g_n r15)]) rfl ?_
          refine r_goto x_352_108 (t := 6) (by decide +kernel) ?_
          refine g_drop [0, 1, 2, 3, 4, 5] (lv1 := [(0, .ref a0), (1, g_n v1), (2, g_n v2), (3, g_n v3), (4, g_n v5), (5, g_n (v5 + 1))]) rfl ?_
          exact h
      · replace h := h.1 hc
        refine r_goto x_352_49 (t := 105) (by decide +kernel) ?_
        obtain ⟨h37, h⟩ := h
        refine r_iinc x_352_105 (by decide +kernel) rfl rfl (lv1 := [(0, .ref a0), (1, g_n v1), (2, g_n v2), (3, g_n v3), (4, g_n v4), (5, g_n (v5 + 1)), (6, g_n r15)]) rfl ?_
        refine r_goto x_352_108 (t := 6) (by decide +kernel) ?_
        refine g_drop [0, 1, 2, 3, 4, 5] (lv1 := [(0, .ref a0), (1, g_n v1), (2, g_n v2), (3, g_n v3), (4, g_n v4), (5, g_n (v5 + 1))]) rfl ?_
        exact h
    · replace h := h.2 hc
      refine r_goto x_352_26 (t := 105) (by decide +kernel) ?_
      obtain ⟨h38, h⟩ := h
      refine r_iinc x_352_105 (by decide +kernel) rfl rfl (lv1 := [(0, .ref a0), (1, g_n v1), (2, g_n v2), (3, g_n v3), (4, g_n v4), (5, g_n (v5 + 1))]) rfl ?_
      refine r_goto x_352_108 (t := 6) (by decide +kernel) ?_
      exact h
theorem m_X12_putTotal {d : Nat} {M : g_M} {Q : g_M → Prop} {a0 : Nat} {v1 : Int} (hv1 : g_InR v1) {v2 : Int} (hv2 : g_InR v2) {v3 : Int} (hv3 : g_InR v3) (h : g_ok M → g_Run d 353 9 [(0, .ref a0), (1, g_n v1), (2, g_n v2), (3, g_n v3), (4, .long 0), (6, .long 0), (8, g_n 0)] [] M (g_qV Q)) : g_Call (d + 1) 353 [.ref a0, g_n v1, g_n v2, g_n v3] M (g_qV Q) := by
  refine g_Call.ok fun hok0 => ?_
  replace h := h hok0
  refine r_body rfl (lv := [(0, .ref a0), (1, g_n v1), (2, g_n v2), (3, g_n v3)]) rfl ?_
  refine g_Run.ok fun hok => ?_
  refine r_lconst x_353_0 ?_
  show g_Run d 353 1 [(0, .ref a0), (1, g_n v1), (2, g_n v2), (3, g_n v3)] [.long 0] M _
  refine r_lstore x_353_1 (by decide +kernel) rfl (lv1 := [(0, .ref a0), (1, g_n v1), (2, g_n v2), (3, g_n v3), (4, .long 0)]) rfl ?_
  refine r_lconst x_353_3 ?_
  show g_Run d 353 4 [(0, .ref a0), (1, g_n v1), (2, g_n v2), (3, g_n v3), (4, .long 0)] [.long 0] M _
  refine r_lstore x_353_4 (by decide +kernel) rfl (lv1 := [(0, .ref a0), (1, g_n v1), (2, g_n v2), (3, g_n v3), (4, .long 0), (6, .long 0)]) rfl ?_
  refine r_iconst x_353_6 ?_
  refine r_istore x_353_7 (by decide +kernel) rfl (lv1 := [(0, .ref a0), (1, g_n v1), (2, g_n v2), (3, g_n v3), (4, .long 0), (6, .long 0), (8, g_n 0)]) rfl ?_
  exact h
theorem s_X12_putTotal_9 {d : Nat} {M : g_M} {Q : g_M → Prop} {a0 : Nat} {v1 : Int} (hv1 : g_InR v1) {v2 : Int} (hv2 : g_InR v2) {v3 : Int} (hv3 : g_InR v3) {V4 : Int64} {V6 : Int64} {v8 : Int} (hv8 : g_InR v8) (h : g_ok M → g_O M a0 12 ∧ ((v8 < g_i M a0 19 → ∃ b2, g_r M a0 30 = some b2 ∧ ∃ n4, g_A M b2 1 n4 ∧ ((0 : Int) ≤ v8 ∧ (v8 : Int) < n4) ∧ ((g_i M b2 v8 = v3 → g_Call d 236 [.ref a0, g_n v2, .ref (4 * 113 + 1)] M (g_qI fun r10 M7 => g_ext M M7 → g_ok M7 → g_InR r10 → ((r10 = 0 → g_Run d 353 86 [(0, .ref a0), (1, g_n v1), (2, g_n v2), (3, g_n v3), (4, .long V4), (6, .long V6), (8, g_n v8), (9, .long 1)] [] M7 (g_qV Q)) ∧ (¬ r10 = 0 → ∃ b12, g_r M7 a0 18 = some b12 ∧ ∃ n14, g_A M7 b12 1 n14 ∧ ((0 : Int) ≤ v8 ∧ (v8 : Int) < n14) ∧ g_Call d 328 [.ref a0, g_n v2, g_n (g_i M7 b12 v8)] M7 (g_qI fun r20 M17 => g_ext M7 M17 → g_ok M17 → g_InR r20 → ((r20 = (-1) → g_InR (v8 + 1) ∧ g_Run d 353 9 [(0, .ref a0), (1, g_n v1), (2, g_n v2), (3, g_n v3), (4, .long V4), (6, .long V6), (8, g_n (v8 + 1))] [] M17 (g_qV Q)) ∧ (¬ r20 = (-1) → g_Call d 242 [.ref a0, g_n r20] M17 (g_qI fun r26 M23 => g_ext M17 M23 → g_ok M23 → g_InR r26 → ((r26 = 0 → g_InR (v8 + 1) ∧ g_Run d 353 9 [(0, .ref a0), (1, g_n v1), (2, g_n v2), (3, g_n v3), (4, .long V4), (6, .long V6), (8, g_n (v8 + 1))] [] M23 (g_qV Q)) ∧ (¬ r26 = 0 → g_Call d 243 [.ref a0, g_n r20] M23 (g_qL fun R31 M28 => g_ext M23 M28 → g_ok M28 → g_Run d 353 86 [(0, .ref a0), (1, g_n v1), (2, g_n v2), (3, g_n v3), (4, .long V4), (6, .long V6), (8, g_n v8), (9, .long R31)] [] M28 (g_qV Q)))))))))))) ∧ (¬ g_i M b2 v8 = v3 → g_InR (v8 + 1) ∧ g_Run d 353 9 [(0, .ref a0), (1, g_n v1), (2, g_n v2), (3, g_n v3), (4, .long V4), (6, .long V6), (8, g_n (v8 + 1))] [] M (g_qV Q)))) ∧ (¬ v8 < g_i M a0 19 → ((g_lc (V6 + (V4 >>> ((Int32.ofInt 32).toInt64 &&& 63))) ((-2147483648)) < 0 → g_Run d 353 159 [(0, .ref a0), (1, g_n v1), (2, g_n v2), (3, g_n v3), (4, .long (V4 &&& 4294967295)), (6, .long (V6 + (V4 >>> ((Int32.ofInt 32).toInt64 &&& 63)))), (8, g_n v8)] [g_n 0, g_n (g_i M a0 33), .ref a0] M (g_qV Q)) ∧ (¬ g_lc (V6 + (V4 >>> ((Int32.ofInt 32).toInt64 &&& 63))) ((-2147483648)) < 0 → ((0 < g_lc (V6 + (V4 >>> ((Int32.ofInt 32).toInt64 &&& 63))) 2147483647 → g_Run d 353 159 [(0, .ref a0), (1, g_n v1), (2, g_n v2), (3, g_n v3), (4, .long (V4 &&& 4294967295)), (6, .long (V6 + (V4 >>> ((Int32.ofInt 32).toInt64 &&& 63)))), (8, g_n v8)] [g_n 0, g_n (g_i M a0 33), .ref a0] M (g_qV Q)) ∧ (¬ 0 < g_lc (V6 + (V4 >>> ((Int32.ofInt 32).toInt64 &&& 63))) 2147483647 → g_Run d 353 159 [(0, .ref a0), (1, g_n v1), (2, g_n v2), (3, g_n v3), (4, .long (V4 &&& 4294967295)), (6, .long (V6 + (V4 >>> ((Int32.ofInt 32).toInt64 &&& 63)))), (8, g_n v8)] [g_n 1, g_n (g_i M a0 33), .ref a0] M (g_qV Q)))))))) : g_Run d 353 9 [(0, .ref a0), (1, g_n v1), (2, g_n v2), (3, g_n v3), (4, .long V4), (6, .long V6), (8, g_n v8)] [] M (g_qV Q) := by
  refine g_Run.ok fun hok => ?_
  replace h := h hok
  refine r_iload x_353_9 rfl ?_
  refine r_aload_n x_353_11 rfl ?_
  obtain ⟨hO1, h⟩ := h
  refine r_getI x_353_12 rfl (ci := 12) (k := 19) (ns := 0) (by decide +kernel) (by decide) rfl (kz := 19) rfl hO1 ?_
  refine r_ic_ge x_353_15 (t := 113) (by decide +kernel) hv8 (hok.1 _ _) (fun hc => ?_) (fun hc => ?_)
  · replace h := h.2 hc
    refine r_lload x_353_113 rfl ?_
    refine r_lload x_353_115 rfl ?_
    refine r_bipush x_353_117 (x := 32) rfl ?_
    refine r_lshr x_353_119 ?_
    refine r_ladd x_353_120 ?_
    refine r_lstore x_353_121 (by decide +kernel) rfl (lv1 := [(0, .ref a0), (1, g_n v1), (2, g_n v2), (3, g_n v3), (4, .long V4), (6, .long (V6 + (V4 >>> ((Int32.ofInt 32).toInt64 &&& 63)))), (8, g_n v8)]) rfl ?_
    refine r_lload x_353_123 rfl ?_
    refine r_ldc2 x_353_125 (X := 4294967295) rfl ?_
    refine r_land x_353_128 ?_
    refine r_lstore x_353_129 (by decide +kernel) rfl (lv1 := [(0, .ref a0), (1, g_n v1), (2, g_n v2), (3, g_n v3), (4, .long (V4 &&& 4294967295)), (6, .long (V6 + (V4 >>> ((Int32.ofInt 32).toInt64 &&& 63)))), (8, g_n v8)]) rfl ?_
    refine r_aload_n x_353_131 rfl ?_
    refine r_dup x_353_132 rfl ?_
    refine r_getI x_353_133 rfl (ci := 12) (k := 33) (ns := 0) (by decide +kernel) (by decide) rfl (kz := 33) rfl hO1 ?_
    refine r_lload x_353_136 rfl ?_
    refine r_ldc2 x_353_138 (X := (-2147483648)) rfl ?_
    refine r_lcmp x_353_141 ?_
    refine r_if_lt x_353_142 (t := 158) (by decide +kernel) (g_InR_toInt _) (fun hc => ?_) (fun hc => ?_)
    · replace h := h.1 hc
      refine r_iconst x_353_158 ?_
      exact h
    · replace h := h.2 hc
      refine r_lload x_353_145 rfl ?_
      refine r_ldc2 x_353_147 (X := 2147483647) rfl ?_
      refine r_lcmp x_353_150 ?_
      refine r_if_gt x_353_151 (t := 158) (by decide +kernel) (g_InR_toInt _) (fun hc => ?_) (fun hc => ?_)
      · replace h := h.1 hc
        refine r_iconst x_353_158 ?_
        exact h
      · replace h := h.2 hc
        refine r_iconst x_353_154 ?_
        refine r_goto x_353_155 (t := 159) (by decide +kernel) ?_
        exact h
  · replace h := h.1 hc
    refine r_aload_n x_353_18 rfl ?_
    obtain ⟨b2, hb3, h⟩ := h
    refine r_getR x_353_19 rfl (ci := 12) (k := 30) (ns := 0) (by decide +kernel) (by decide) rfl (kz := 30) rfl hO1 hb3 ?_
    refine r_iload x_353_22 rfl ?_
    obtain ⟨n4, hA5, h⟩ := h
    obtain ⟨h6, h⟩ := h
    refine r_iald x_353_24 hA5 hv8 h6.1 h6.2 ?_
    refine r_iload_n x_353_25 rfl ?_
    refine r_ic_eq x_353_26 (t := 32) (by decide +kernel) (hok.1 _ _) hv3 (fun hc => ?_) (fun hc => ?_)
    · replace h := h.1 hc
      refine r_lconst x_353_32 ?_
      show g_Run d 353 33 [(0, .ref a0), (1, g_n v1), (2, g_n v2), (3, g_n v3), (4, .long V4), (6, .long V6), (8, g_n v8)] [.long 1] M _
      refine r_lstore x_353_33 (by decide +kernel) rfl (lv1 := [(0, .ref a0), (1, g_n v1), (2, g_n v2), (3, g_n v3), (4, .long V4), (6, .long V6), (8, g_n v8), (9, .long 1)]) rfl ?_
      refine r_aload_n x_353_35 rfl ?_
      refine r_iload_n x_353_36 rfl ?_
      refine r_ldcw x_353_37 (v := .ref (4 * 113 + 1)) rfl ?_
      refine r_invV x_353_40 (z := 236) (ns := 0) (by decide +kernel) (as := [g_n v2, .ref (4 * 113 + 1)]) (r := []) rfl rfl rfl hO1 rfl rfl ?_
      refine r_callI h fun r10 M7 hx8 hok9 hr11 h => ?_
      replace h := h hx8 hok9 hr11
      replace hO1 := hO1.up hx8
      replace hA5 := hA5.up hx8
      refine r_if_eq x_353_43 (t := 86) (by decide +kernel) hr11 (fun hc => ?_) (fun hc => ?_)
      · replace h := h.1 hc
        exact h
      · replace h := h.2 hc
        refine r_aload_n x_353_46 rfl ?_
        refine r_iload_n x_353_47 rfl ?_
        refine r_aload_n x_353_48 rfl ?_
        obtain ⟨b12, hb13, h⟩ := h
        refine r_getR x_353_49 rfl (ci := 12) (k := 18) (ns := 0) (by decide +kernel) (by decide) rfl (kz := 18) rfl hO1 hb13 ?_
        refine r_iload x_353_52 rfl ?_
        obtain ⟨n14, hA15, h⟩ := h
        obtain ⟨h16, h⟩ := h
        refine r_iald x_353_54 hA15 hv8 h16.1 h16.2 ?_
        refine r_invV x_353_55 (z := 328) (ns := 0) (by decide +kernel) (as := [g_n v2, g_n (g_i M7 b12 v8)]) (r := []) rfl rfl rfl hO1 rfl rfl ?_
        refine r_callI h fun r20 M17 hx18 hok19 hr21 h => ?_
        replace h := h hx18 hok19 hr21
        replace hO1 := hO1.up hx18
        replace hA5 := hA5.up hx18
        replace hA15 := hA15.up hx18
        refine r_istore x_353_58 (by decide +kernel) rfl (lv1 := [(0, .ref a0), (1, g_n v1), (2, g_n v2), (3, g_n v3), (4, .long V4), (6, .long V6), (8, g_n v8), (9, .long 1), (11, g_n r20)]) rfl ?_
        refine r_iload x_353_60 rfl ?_
        refine r_iconst x_353_62 ?_
        refine r_ic_eq x_353_63 (t := 107) (by decide +kernel) hr21 (g_Rk rfl) (fun hc => ?_) (fun hc => ?_)
        · replace h := h.1 hc
          obtain ⟨h22, h⟩ := h
          refine r_iinc x_353_107 (by decide +kernel) rfl rfl (lv1 := [(0, .ref a0), (1, g_n v1), (2, g_n v2), (3, g_n v3), (4, .long V4), (6, .long V6), (8, g_n (v8 + 1)), (9, .long 1), (11, g_n r20)]) rfl ?_
          refine r_goto x_353_110 (t := 9) (by decide +kernel) ?_
          refine g_drop [0, 1, 2, 3, 4, 6, 8] (lv1 := [(0, .ref a0), (1, g_n v1), (2, g_n v2), (3, g_n v3), (4, .long V4), (6, .long V6), (8, g_n (v8 + 1))]) rfl ?_
          exact h
        · replace h := h.2 hc
          refine r_aload_n x_353_66 rfl ?_
          refine r_iload x_353_67 rfl ?_
          refine r_invV x_353_69 (z := 242) (ns := 0) (by decide +kernel) (as := [g_n r20]) (r := []) rfl rfl rfl hO1 rfl rfl ?_
          refine r_callI h fun r26 M23 hx24 hok25 hr27 h => ?_
          replace h := h hx24 hok25 hr27
          replace hO1 := hO1.up hx24
          replace hA5 := hA5.up hx24
          replace hA15 := hA15.up hx24
          refine r_if_ne x_353_72 (t := 78) (by decide +kernel) hr27 (fun hc => ?_) (fun hc => ?_)
          · replace h := h.2 hc
            refine r_aload_n x_353_78 rfl ?_
            refine r_iload x_353_79 rfl ?_
            refine r_invV x_353_81 (z := 243) (ns := 0) (by decide +kernel) (as := [g_n r20]) (r := []) rfl rfl rfl hO1 rfl rfl ?_
            refine r_callL h fun R31 M28 hx29 hok30 h => ?_
            replace h := h hx29 hok30
            replace hO1 := hO1.up hx29
            replace hA5 := hA5.up hx29
            replace hA15 := hA15.up hx29
            refine r_lstore x_353_84 (by decide +kernel) rfl (lv1 := [(0, .ref a0), (1, g_n v1), (2, g_n v2), (3, g_n v3), (4, .long V4), (6, .long V6), (8, g_n v8), (9, .long R31), (11, g_n r20)]) rfl ?_
            refine g_drop [0, 1, 2, 3, 4, 6, 8, 9] (lv1 := [(0, .ref a0), (1, g_n v1), (2, g_n v2), (3, g_n v3), (4, .long V4), (6, .long V6), (8, g_n v8), (9, .long R31)]) rfl ?_
            exact h
          · replace h := h.1 hc
            refine r_goto x_353_75 (t := 107) (by decide +kernel) ?_
            obtain ⟨h32, h⟩ := h
            refine r_iinc x_353_107 (by decide +kernel) rfl rfl (lv1 := [(0, .ref a0), (1, g_n v1), (2, g_n v2), (3, g_n v3), (4, .long V4), (6, .long V6), (8, g_n (v8 + 1)), (9, .long 1), (11, g_n r20)]) rfl ?_
            refine r_goto x_353_110 (t := 9) (by decide +kernel) ?_
            refine g_drop [0, 1, 2, 3, 4, 6, 8] (lv1 := [(0, .ref a0), (1, g_n v1), (2, g_n v2), (3, g_n v3), (4, .long V4), (6, .long V6), (8, g_n (v8 + 1))]) rfl ?_
            exact h
    · replace h := h.2 hc
      refine r_goto x_353_29 (t := 107) (by decide +kernel) ?_
      obtain ⟨h33, h⟩ := h
      refine r_iinc x_353_107 (by decide +kernel) rfl rfl (lv1 := [(0, .ref a0), (1, g_n v1), (2, g_n v2), (3, g_n v3), (4, .long V4), (6, .long V6), (8, g_n (v8 + 1))]) rfl ?_
      refine r_goto x_353_110 (t := 9) (by decide +kernel) ?_
      exact h
theorem s_X12_putTotal_86 {d : Nat} {M : g_M} {Q : g_M → Prop} {a0 : Nat} {v1 : Int} (hv1 : g_InR v1) {v2 : Int} (hv2 : g_InR v2) {v3 : Int} (hv3 : g_InR v3) {V4 : Int64} {V6 : Int64} {v8 : Int} (hv8 : g_InR v8) {V9 : Int64} (h : g_ok M → g_InR (v8 + 1) ∧ g_Run d 353 9 [(0, .ref a0), (1, g_n v1), (2, g_n v2), (3, g_n v3), (4, .long (V4 + (V9 &&& 4294967295))), (6, .long (V6 + (V9 >>> ((Int32.ofInt 32).toInt64 &&& 63)))), (8, g_n (v8 + 1))] [] M (g_qV Q)) : g_Run d 353 86 [(0, .ref a0), (1, g_n v1), (2, g_n v2), (3, g_n v3), (4, .long V4), (6, .long V6), (8, g_n v8), (9, .long V9)] [] M (g_qV Q) := by
  refine g_Run.ok fun hok => ?_
  replace h := h hok
  refine r_lload x_353_86 rfl ?_
  refine r_lload x_353_88 rfl ?_
  refine r_ldc2 x_353_90 (X := 4294967295) rfl ?_
  refine r_land x_353_93 ?_
  refine r_ladd x_353_94 ?_
  refine r_lstore x_353_95 (by decide +kernel) rfl (lv1 := [(0, .ref a0), (1, g_n v1), (2, g_n v2), (3, g_n v3), (4, .long (V4 + (V9 &&& 4294967295))), (6, .long V6), (8, g_n v8), (9, .long V9)]) rfl ?_
  refine r_lload x_353_97 rfl ?_
  refine r_lload x_353_99 rfl ?_
  refine r_bipush x_353_101 (x := 32) rfl ?_
  refine r_lshr x_353_103 ?_
  refine r_ladd x_353_104 ?_
  refine r_lstore x_353_105 (by decide +kernel) rfl (lv1 := [(0, .ref a0), (1, g_n v1), (2, g_n v2), (3, g_n v3), (4, .long (V4 + (V9 &&& 4294967295))), (6, .long (V6 + (V9 >>> ((Int32.ofInt 32).toInt64 &&& 63)))), (8, g_n v8), (9, .long V9)]) rfl ?_
  obtain ⟨h1, h⟩ := h
  refine r_iinc x_353_107 (by decide +kernel) rfl rfl (lv1 := [(0, .ref a0), (1, g_n v1), (2, g_n v2), (3, g_n v3), (4, .long (V4 + (V9 &&& 4294967295))), (6, .long (V6 + (V9 >>> ((Int32.ofInt 32).toInt64 &&& 63)))), (8, g_n (v8 + 1)), (9, .long V9)]) rfl ?_
  refine r_goto x_353_110 (t := 9) (by decide +kernel) ?_
  refine g_drop [0, 1, 2, 3, 4, 6, 8] (lv1 := [(0, .ref a0), (1, g_n v1), (2, g_n v2), (3, g_n v3), (4, .long (V4 + (V9 &&& 4294967295))), (6, .long (V6 + (V9 >>> ((Int32.ofInt 32).toInt64 &&& 63)))), (8, g_n (v8 + 1))]) rfl ?_
  exact h
theorem s_X12_putTotal_159 {d : Nat} {M : g_M} {Q : g_M → Prop} {a0 : Nat} {v1 : Int} (hv1 : g_InR v1) {v2 : Int} (hv2 : g_InR v2) {v3 : Int} (hv3 : g_InR v3) {V4 : Int64} {V6 : Int64} {v8 : Int} (hv8 : g_InR v8) {w0 : Int} (hw0 : g_InR w0) {w1 : Int} (hw1 : g_InR w1) {c2 : Nat} (h : g_ok M → g_O M c2 12 ∧ (g_and w1 w0 = 0 ∨ g_and w1 w0 = 1) ∧ (∀ M3, M3 = g_wi M c2 33 (g_and w1 w0) → g_ok M3 → g_O M3 a0 12 ∧ g_Call d 349 [.ref a0, g_n 18, g_n v1] M3 (g_qV fun M8 => g_ext M3 M8 → g_ok M8 → g_Call d 247 [.ref a0, g_n V4.toInt32.toInt] M8 (g_qV fun M11 => g_ext M8 M11 → g_ok M11 → g_Call d 247 [.ref a0, g_n V6.toInt32.toInt] M11 (g_qV fun M14 => g_ext M11 M14 → g_ok M14 → Q M14))))) : g_Run d 353 159 [(0, .ref a0), (1, g_n v1), (2, g_n v2), (3, g_n v3), (4, .long V4), (6, .long V6), (8, g_n v8)] [g_n w0, g_n w1, .ref c2] M (g_qV Q) := by
  refine g_Run.ok fun hok => ?_
  replace h := h hok
  refine r_iand x_353_159 ?_
  obtain ⟨hO1, h⟩ := h
  obtain ⟨h2, h⟩ := h
  refine r_putI x_353_160 (ci := 12) (k := 33) (ns := 0) (by decide +kernel) (by decide) (g_fZ h2 (by decide +kernel)) rfl (g_InR_toInt _) (g_zx h2 rfl).2 (kz := 33) rfl hO1 ?_
  obtain ⟨M3, hM4⟩ : ∃ Mz, Mz = g_wi M c2 33 (g_and w1 w0) := ⟨_, rfl⟩
  rw [← hM4]
  refine g_Run.ok fun hok5 => ?_
  replace h := h M3 hM4 hok5
  have hx6 := g_extW hM4
  replace hO1 := hO1.up hx6
  refine r_aload_n x_353_163 rfl ?_
  refine r_bipush x_353_164 (x := 18) rfl ?_
  refine r_iload_n x_353_166 rfl ?_
  obtain ⟨hO7, h⟩ := h
  refine r_invV x_353_167 (z := 349) (ns := 0) (by decide +kernel) (as := [g_n 18, g_n v1]) (r := []) rfl rfl rfl hO7 rfl rfl ?_
  refine r_callV h fun M8 hx9 hok10 h => ?_
  replace h := h hx9 hok10
  replace hO1 := hO1.up hx9
  replace hO7 := hO7.up hx9
  refine r_aload_n x_353_170 rfl ?_
  refine r_lload x_353_171 rfl ?_
  refine r_l2i x_353_173 ?_
  refine r_invV x_353_174 (z := 247) (ns := 0) (by decide +kernel) (as := [g_n V4.toInt32.toInt]) (r := []) rfl rfl rfl hO7 rfl rfl ?_
  refine r_callV h fun M11 hx12 hok13 h => ?_
  replace h := h hx12 hok13
  replace hO1 := hO1.up hx12
  replace hO7 := hO7.up hx12
  refine r_aload_n x_353_177 rfl ?_
  refine r_lload x_353_178 rfl ?_
  refine r_l2i x_353_180 ?_
  refine r_invV x_353_181 (z := 247) (ns := 0) (by decide +kernel) (as := [g_n V6.toInt32.toInt]) (r := []) rfl rfl rfl hO7 rfl rfl ?_
  refine r_callV h fun M14 hx15 hok16 h => ?_
  replace h := h hx15 hok16
  replace hO1 := hO1.up hx15
  replace hO7 := hO7.up hx15
  exact r_retV x_353_184 rfl h
theorem m_X12_putGathered {d : Nat} {M : g_M} {Q : g_M → Prop} {a0 : Nat} {v1 : Int} (hv1 : g_InR v1) {v2 : Int} (hv2 : g_InR v2) {v3 : Int} (hv3 : g_InR v3) (h : g_ok M → g_O M a0 12 ∧ g_Call d 251 [.ref a0] M (g_qI fun r5 M2 => g_ext M M2 → g_ok M2 → g_InR r5 → g_Run d 354 12 [(0, .ref a0), (1, g_n v1), (2, g_n v2), (3, g_n v3), (4, g_n r5), (5, g_n 0), (6, g_n 0)] [] M2 (g_qV Q))) : g_Call (d + 1) 354 [.ref a0, g_n v1, g_n v2, g_n v3] M (g_qV Q) := by
  refine g_Call.ok fun hok0 => ?_
  replace h := h hok0
  refine r_body rfl (lv := [(0, .ref a0), (1, g_n v1), (2, g_n v2), (3, g_n v3)]) rfl ?_
  refine g_Run.ok fun hok => ?_
  refine r_aload_n x_354_0 rfl ?_
  obtain ⟨hO1, h⟩ := h
  refine r_invV x_354_1 (z := 251) (ns := 0) (by decide +kernel) (as := []) (r := []) rfl rfl rfl hO1 rfl rfl ?_
  refine r_callI h fun r5 M2 hx3 hok4 hr6 h => ?_
  replace h := h hx3 hok4 hr6
  replace hO1 := hO1.up hx3
  refine r_istore x_354_4 (by decide +kernel) rfl (lv1 := [(0, .ref a0), (1, g_n v1), (2, g_n v2), (3, g_n v3), (4, g_n r5)]) rfl ?_
  refine r_iconst x_354_6 ?_
  refine r_istore x_354_7 (by decide +kernel) rfl (lv1 := [(0, .ref a0), (1, g_n v1), (2, g_n v2), (3, g_n v3), (4, g_n r5), (5, g_n 0)]) rfl ?_
  refine r_iconst x_354_9 ?_
  refine r_istore x_354_10 (by decide +kernel) rfl (lv1 := [(0, .ref a0), (1, g_n v1), (2, g_n v2), (3, g_n v3), (4, g_n r5), (5, g_n 0), (6, g_n 0)]) rfl ?_
  exact h
theorem s_X12_putGathered_12 {d : Nat} {M : g_M} {Q : g_M → Prop} {a0 : Nat} {v1 : Int} (hv1 : g_InR v1) {v2 : Int} (hv2 : g_InR v2) {v3 : Int} (hv3 : g_InR v3) {v4 : Int} (hv4 : g_InR v4) {v5 : Int} (hv5 : g_InR v5) {v6 : Int} (hv6 : g_InR v6) (h : g_ok M → g_O M a0 12 ∧ ((v6 < g_i M a0 19 → ∃ b5, g_r M a0 30 = some b5 ∧ ∃ n7, g_A M b5 1 n7 ∧ ((0 : Int) ≤ v6 ∧ (v6 : Int) < n7) ∧ ((g_i M b5 v6 = v2 → ∃ b10, g_r M a0 18 = some b10 ∧ ∃ n12, g_A M b10 1 n12 ∧ ((0 : Int) ≤ v6 ∧ (v6 : Int) < n12) ∧ g_Call d 328 [.ref a0, g_n v1, g_n (g_i M b10 v6)] M (g_qI fun r18 M15 => g_ext M M15 → g_ok M15 → g_InR r18 → ((r18 = (-1) → g_InR (v6 + 1) ∧ g_Run d 354 12 [(0, .ref a0), (1, g_n v1), (2, g_n v2), (3, g_n v3), (4, g_n v4), (5, g_n v5), (6, g_n (v6 + 1))] [] M15 (g_qV Q)) ∧ (¬ r18 = (-1) → ((v3 = 0 → g_Run d 354 75 [(0, .ref a0), (1, g_n v1), (2, g_n v2), (3, g_n v3), (4, g_n v4), (5, g_n v5), (6, g_n v6), (7, g_n r18)] [] M15 (g_qV Q)) ∧ (¬ v3 = 0 → g_Call d 355 [.ref a0, g_n v1, g_n v2, g_n v6, g_n r18] M15 (g_qI fun r24 M21 => g_ext M15 M21 → g_ok M21 → g_InR r24 → ((r24 = 0 → g_Run d 354 75 [(0, .ref a0), (1, g_n v1), (2, g_n v2), (3, g_n v3), (4, g_n v4), (5, g_n v5), (6, g_n v6), (7, g_n r18)] [] M21 (g_qV Q)) ∧ (¬ r24 = 0 → g_InR (v6 + 1) ∧ g_Run d 354 12 [(0, .ref a0), (1, g_n v1), (2, g_n v2), (3, g_n v3), (4, g_n v4), (5, g_n v5), (6, g_n (v6 + 1))] [] M21 (g_qV Q)))))))))) ∧ (¬ g_i M b5 v6 = v2 → g_InR (v6 + 1) ∧ g_Run d 354 12 [(0, .ref a0), (1, g_n v1), (2, g_n v2), (3, g_n v3), (4, g_n v4), (5, g_n v5), (6, g_n (v6 + 1))] [] M (g_qV Q)))) ∧ (¬ v6 < g_i M a0 19 → g_Call d 252 [.ref a0, g_n v4] M (g_qV fun M2 => g_ext M M2 → g_ok M2 → Q M2)))) : g_Run d 354 12 [(0, .ref a0), (1, g_n v1), (2, g_n v2), (3, g_n v3), (4, g_n v4), (5, g_n v5), (6, g_n v6)] [] M (g_qV Q) := by
  refine g_Run.ok fun hok => ?_
  replace h := h hok
  refine r_iload x_354_12 rfl ?_
  refine r_aload_n x_354_14 rfl ?_
  obtain ⟨hO1, h⟩ := h
  refine r_getI x_354_15 rfl (ci := 12) (k := 19) (ns := 0) (by decide +kernel) (by decide) rfl (kz := 19) rfl hO1 ?_
  refine r_ic_ge x_354_18 (t := 107) (by decide +kernel) hv6 (hok.1 _ _) (fun hc => ?_) (fun hc => ?_)
  · replace h := h.2 hc
    refine r_aload_n x_354_107 rfl ?_
    refine r_iload x_354_108 rfl ?_
    refine r_invV x_354_110 (z := 252) (ns := 0) (by decide +kernel) (as := [g_n v4]) (r := []) rfl rfl rfl hO1 rfl rfl ?_
    refine r_callV h fun M2 hx3 hok4 h => ?_
    replace h := h hx3 hok4
    replace hO1 := hO1.up hx3
    exact r_retV x_354_113 rfl h
  · replace h := h.1 hc
    refine r_aload_n x_354_21 rfl ?_
    obtain ⟨b5, hb6, h⟩ := h
    refine r_getR x_354_22 rfl (ci := 12) (k := 30) (ns := 0) (by decide +kernel) (by decide) rfl (kz := 30) rfl hO1 hb6 ?_
    refine r_iload x_354_25 rfl ?_
    obtain ⟨n7, hA8, h⟩ := h
    obtain ⟨h9, h⟩ := h
    refine r_iald x_354_27 hA8 hv6 h9.1 h9.2 ?_
    refine r_iload_n x_354_28 rfl ?_
    refine r_ic_eq x_354_29 (t := 35) (by decide +kernel) (hok.1 _ _) hv2 (fun hc => ?_) (fun hc => ?_)
    · replace h := h.1 hc
      refine r_aload_n x_354_35 rfl ?_
      refine r_iload_n x_354_36 rfl ?_
      refine r_aload_n x_354_37 rfl ?_
      obtain ⟨b10, hb11, h⟩ := h
      refine r_getR x_354_38 rfl (ci := 12) (k := 18) (ns := 0) (by decide +kernel) (by decide) rfl (kz := 18) rfl hO1 hb11 ?_
      refine r_iload x_354_41 rfl ?_
      obtain ⟨n12, hA13, h⟩ := h
      obtain ⟨h14, h⟩ := h
      refine r_iald x_354_43 hA13 hv6 h14.1 h14.2 ?_
      refine r_invV x_354_44 (z := 328) (ns := 0) (by decide +kernel) (as := [g_n v1, g_n (g_i M b10 v6)]) (r := []) rfl rfl rfl hO1 rfl rfl ?_
      refine r_callI h fun r18 M15 hx16 hok17 hr19 h => ?_
      replace h := h hx16 hok17 hr19
      replace hO1 := hO1.up hx16
      replace hA8 := hA8.up hx16
      replace hA13 := hA13.up hx16
      refine r_istore x_354_47 (by decide +kernel) rfl (lv1 := [(0, .ref a0), (1, g_n v1), (2, g_n v2), (3, g_n v3), (4, g_n v4), (5, g_n v5), (6, g_n v6), (7, g_n r18)]) rfl ?_
      refine r_iload x_354_49 rfl ?_
      refine r_iconst x_354_51 ?_
      refine r_ic_eq x_354_52 (t := 101) (by decide +kernel) hr19 (g_Rk rfl) (fun hc => ?_) (fun hc => ?_)
      · replace h := h.1 hc
        obtain ⟨h20, h⟩ := h
        refine r_iinc x_354_101 (by decide +kernel) rfl rfl (lv1 := [(0, .ref a0), (1, g_n v1), (2, g_n v2), (3, g_n v3), (4, g_n v4), (5, g_n v5), (6, g_n (v6 + 1)), (7, g_n r18)]) rfl ?_
        refine r_goto x_354_104 (t := 12) (by decide +kernel) ?_
        refine g_drop [0, 1, 2, 3, 4, 5, 6] (lv1 := [(0, .ref a0), (1, g_n v1), (2, g_n v2), (3, g_n v3), (4, g_n v4), (5, g_n v5), (6, g_n (v6 + 1))]) rfl ?_
        exact h
      · replace h := h.2 hc
        refine r_iload_n x_354_55 rfl ?_
        refine r_if_eq x_354_56 (t := 75) (by decide +kernel) hv3 (fun hc => ?_) (fun hc => ?_)
        · replace h := h.1 hc
          exact h
        · replace h := h.2 hc
          refine r_aload_n x_354_59 rfl ?_
          refine r_iload_n x_354_60 rfl ?_
          refine r_iload_n x_354_61 rfl ?_
          refine r_iload x_354_62 rfl ?_
          refine r_iload x_354_64 rfl ?_
          refine r_invV x_354_66 (z := 355) (ns := 0) (by decide +kernel) (as := [g_n v1, g_n v2, g_n v6, g_n r18]) (r := []) rfl rfl rfl hO1 rfl rfl ?_
          refine r_callI h fun r24 M21 hx22 hok23 hr25 h => ?_
          replace h := h hx22 hok23 hr25
          replace hO1 := hO1.up hx22
          replace hA8 := hA8.up hx22
          replace hA13 := hA13.up hx22
          refine r_if_eq x_354_69 (t := 75) (by decide +kernel) hr25 (fun hc => ?_) (fun hc => ?_)
          · replace h := h.1 hc
            exact h
          · replace h := h.2 hc
            refine r_goto x_354_72 (t := 101) (by decide +kernel) ?_
            obtain ⟨h26, h⟩ := h
            refine r_iinc x_354_101 (by decide +kernel) rfl rfl (lv1 := [(0, .ref a0), (1, g_n v1), (2, g_n v2), (3, g_n v3), (4, g_n v4), (5, g_n v5), (6, g_n (v6 + 1)), (7, g_n r18)]) rfl ?_
            refine r_goto x_354_104 (t := 12) (by decide +kernel) ?_
            refine g_drop [0, 1, 2, 3, 4, 5, 6] (lv1 := [(0, .ref a0), (1, g_n v1), (2, g_n v2), (3, g_n v3), (4, g_n v4), (5, g_n v5), (6, g_n (v6 + 1))]) rfl ?_
            exact h
    · replace h := h.2 hc
      refine r_goto x_354_32 (t := 101) (by decide +kernel) ?_
      obtain ⟨h27, h⟩ := h
      refine r_iinc x_354_101 (by decide +kernel) rfl rfl (lv1 := [(0, .ref a0), (1, g_n v1), (2, g_n v2), (3, g_n v3), (4, g_n v4), (5, g_n v5), (6, g_n (v6 + 1))]) rfl ?_
      refine r_goto x_354_104 (t := 12) (by decide +kernel) ?_
      exact h
theorem s_X12_putGathered_75 {d : Nat} {M : g_M} {Q : g_M → Prop} {a0 : Nat} {v1 : Int} (hv1 : g_InR v1) {v2 : Int} (hv2 : g_InR v2) {v3 : Int} (hv3 : g_InR v3) {v4 : Int} (hv4 : g_InR v4) {v5 : Int} (hv5 : g_InR v5) {v6 : Int} (hv6 : g_InR v6) {v7 : Int} (hv7 : g_InR v7) (h : g_ok M → g_O M a0 12 ∧ ∃ b2, g_r M a0 0 = some b2 ∧ ∃ n4, g_A M b2 0 n4 ∧ ((0 : Int) ≤ v7 ∧ (v7 : Int) < n4) ∧ g_Call d 246 [.ref a0, g_n (g_i M b2 v7)] M (g_qV fun M7 => g_ext M M7 → g_ok M7 → g_Call d 250 [.ref a0, g_n v5] M7 (g_qV fun M10 => g_ext M7 M10 → g_ok M10 → g_Call d 253 [.ref a0, g_n v7] M10 (g_qV fun M13 => g_ext M10 M13 → g_ok M13 → g_InR (v5 + 1) ∧ g_InR (v6 + 1) ∧ g_Run d 354 12 [(0, .ref a0), (1, g_n v1), (2, g_n v2), (3, g_n v3), (4, g_n v4), (5, g_n (v5 + 1)), (6, g_n (v6 + 1))] [] M13 (g_qV Q))))) : g_Run d 354 75 [(0, .ref a0), (1, g_n v1), (2, g_n v2), (3, g_n v3), (4, g_n v4), (5, g_n v5), (6, g_n v6), (7, g_n v7)] [] M (g_qV Q) := by
  refine g_Run.ok fun hok => ?_
  replace h := h hok
  refine r_aload_n x_354_75 rfl ?_
  refine r_aload_n x_354_76 rfl ?_
  obtain ⟨hO1, h⟩ := h
  obtain ⟨b2, hb3, h⟩ := h
  refine r_getR x_354_77 rfl (ci := 12) (k := 0) (ns := 0) (by decide +kernel) (by decide) rfl (kz := 0) rfl hO1 hb3 ?_
  refine r_iload x_354_80 rfl ?_
  obtain ⟨n4, hA5, h⟩ := h
  obtain ⟨h6, h⟩ := h
  refine r_bald x_354_82 (Or.inl rfl) hA5 hv7 h6.1 h6.2 ?_
  refine r_invV x_354_83 (z := 246) (ns := 0) (by decide +kernel) (as := [g_n (g_i M b2 v7)]) (r := []) rfl rfl rfl hO1 rfl rfl ?_
  refine r_callV h fun M7 hx8 hok9 h => ?_
  replace h := h hx8 hok9
  replace hO1 := hO1.up hx8
  replace hA5 := hA5.up hx8
  refine r_aload_n x_354_86 rfl ?_
  refine r_iload x_354_87 rfl ?_
  refine r_invV x_354_89 (z := 250) (ns := 0) (by decide +kernel) (as := [g_n v5]) (r := []) rfl rfl rfl hO1 rfl rfl ?_
  refine r_callV h fun M10 hx11 hok12 h => ?_
  replace h := h hx11 hok12
  replace hO1 := hO1.up hx11
  replace hA5 := hA5.up hx11
  refine r_aload_n x_354_92 rfl ?_
  refine r_iload x_354_93 rfl ?_
  refine r_invV x_354_95 (z := 253) (ns := 0) (by decide +kernel) (as := [g_n v7]) (r := []) rfl rfl rfl hO1 rfl rfl ?_
  refine r_callV h fun M13 hx14 hok15 h => ?_
  replace h := h hx14 hok15
  replace hO1 := hO1.up hx14
  replace hA5 := hA5.up hx14
  obtain ⟨h16, h⟩ := h
  refine r_iinc x_354_98 (by decide +kernel) rfl rfl (lv1 := [(0, .ref a0), (1, g_n v1), (2, g_n v2), (3, g_n v3), (4, g_n v4), (5, g_n (v5 + 1)), (6, g_n v6), (7, g_n v7)]) rfl ?_
  obtain ⟨h17, h⟩ := h
  refine r_iinc x_354_101 (by decide +kernel) rfl rfl (lv1 := [(0, .ref a0), (1, g_n v1), (2, g_n v2), (3, g_n v3), (4, g_n v4), (5, g_n (v5 + 1)), (6, g_n (v6 + 1)), (7, g_n v7)]) rfl ?_
  refine r_goto x_354_104 (t := 12) (by decide +kernel) ?_
  refine g_drop [0, 1, 2, 3, 4, 5, 6] (lv1 := [(0, .ref a0), (1, g_n v1), (2, g_n v2), (3, g_n v3), (4, g_n v4), (5, g_n (v5 + 1)), (6, g_n (v6 + 1))]) rfl ?_
  exact h
theorem m_X12_isAhead {d : Nat} {M : g_M} {Q : Int → g_M → Prop} {a0 : Nat} {v1 : Int} (hv1 : g_InR v1) {v2 : Int} (hv2 : g_InR v2) {v3 : Int} (hv3 : g_InR v3) {v4 : Int} (hv4 : g_InR v4) (h : g_ok M → g_O M a0 12 ∧ g_Run d 355 12 [(0, .ref a0), (1, g_n v1), (2, g_n v2), (3, g_n v3), (4, g_n v4), (5, g_n (g_i M a0 26)), (6, g_n 0), (7, g_n 0)] [] M (g_qI Q)) : g_Call (d + 1) 355 [.ref a0, g_n v1, g_n v2, g_n v3, g_n v4] M (g_qI Q) := by
  refine g_Call.ok fun hok0 => ?_
  replace h := h hok0
  refine r_body rfl (lv := [(0, .ref a0), (1, g_n v1), (2, g_n v2), (3, g_n v3), (4, g_n v4)]) rfl ?_
  refine g_Run.ok fun hok => ?_
  refine r_aload_n x_355_0 rfl ?_
  obtain ⟨hO1, h⟩ := h
  refine r_getI x_355_1 rfl (ci := 12) (k := 26) (ns := 0) (by decide +kernel) (by decide) rfl (kz := 26) rfl hO1 ?_
  refine r_istore x_355_4 (by decide +kernel) rfl (lv1 := [(0, .ref a0), (1, g_n v1), (2, g_n v2), (3, g_n v3), (4, g_n v4), (5, g_n (g_i M a0 26))]) rfl ?_
  refine r_iconst x_355_6 ?_
  refine r_istore x_355_7 (by decide +kernel) rfl (lv1 := [(0, .ref a0), (1, g_n v1), (2, g_n v2), (3, g_n v3), (4, g_n v4), (5, g_n (g_i M a0 26)), (6, g_n 0)]) rfl ?_
  refine r_iconst x_355_9 ?_
  refine r_istore x_355_10 (by decide +kernel) rfl (lv1 := [(0, .ref a0), (1, g_n v1), (2, g_n v2), (3, g_n v3), (4, g_n v4), (5, g_n (g_i M a0 26)), (6, g_n 0), (7, g_n 0)]) rfl ?_
  exact h
theorem s_X12_isAhead_12 {d : Nat} {M : g_M} {Q : Int → g_M → Prop} {a0 : Nat} {v1 : Int} (hv1 : g_InR v1) {v2 : Int} (hv2 : g_InR v2) {v3 : Int} (hv3 : g_InR v3) {v4 : Int} (hv4 : g_InR v4) {v5 : Int} (hv5 : g_InR v5) {v6 : Int} (hv6 : g_InR v6) {v7 : Int} (hv7 : g_InR v7) (h : g_ok M → ((v7 < v3 → ((v6 = 0 → g_O M a0 12 ∧ ∃ b2, g_r M a0 30 = some b2 ∧ ∃ n4, g_A M b2 1 n4 ∧ ((0 : Int) ≤ v7 ∧ (v7 : Int) < n4) ∧ ((g_i M b2 v7 = v2 → (∀ M7, M7 = g_wi M a0 26 v5 → g_ok M7 → ∃ b11, g_r M7 a0 18 = some b11 ∧ ∃ n13, g_A M7 b11 1 n13 ∧ ((0 : Int) ≤ v7 ∧ (v7 : Int) < n13) ∧ g_Call d 327 [.ref a0, g_n v1, g_n (g_i M7 b11 v7)] M7 (g_qI fun r19 M16 => g_ext M7 M16 → g_ok M16 → g_InR r19 → ((r19 = (-1) → g_InR (v7 + 1) ∧ g_Run d 355 12 [(0, .ref a0), (1, g_n v1), (2, g_n v2), (3, g_n v3), (4, g_n v4), (5, g_n v5), (6, g_n 0), (7, g_n (v7 + 1))] [] M16 (g_qI Q)) ∧ (¬ r19 = (-1) → g_Call d 271 [.ref a0, g_n r19, g_n v4] M16 (g_qI fun r25 M22 => g_ext M16 M22 → g_ok M22 → g_InR r25 → ((r25 = 0 → g_InR (v7 + 1) ∧ g_Run d 355 12 [(0, .ref a0), (1, g_n v1), (2, g_n v2), (3, g_n v3), (4, g_n v4), (5, g_n v5), (6, g_n 0), (7, g_n (v7 + 1))] [] M22 (g_qI Q)) ∧ (¬ r25 = 0 → g_InR (v7 + 1) ∧ g_Run d 355 12 [(0, .ref a0), (1, g_n v1), (2, g_n v2), (3, g_n v3), (4, g_n v4), (5, g_n v5), (6, g_n 1), (7, g_n (v7 + 1))] [] M22 (g_qI Q))))))))) ∧ (¬ g_i M b2 v7 = v2 → g_InR (v7 + 1) ∧ g_Run d 355 12 [(0, .ref a0), (1, g_n v1), (2, g_n v2), (3, g_n v3), (4, g_n v4), (5, g_n v5), (6, g_n v6), (7, g_n (v7 + 1))] [] M (g_qI Q)))) ∧ (¬ v6 = 0 → (v6 = 0 ∨ v6 = 1) ∧ Q v6 M))) ∧ (¬ v7 < v3 → (v6 = 0 ∨ v6 = 1) ∧ Q v6 M))) : g_Run d 355 12 [(0, .ref a0), (1, g_n v1), (2, g_n v2), (3, g_n v3), (4, g_n v4), (5, g_n v5), (6, g_n v6), (7, g_n v7)] [] M (g_qI Q) := by
  refine g_Run.ok fun hok => ?_
  replace h := h hok
  refine r_iload x_355_12 rfl ?_
  refine r_iload_n x_355_14 rfl ?_
  refine r_ic_ge x_355_15 (t := 87) (by decide +kernel) hv7 hv3 (fun hc => ?_) (fun hc => ?_)
  · replace h := h.2 hc
    refine r_iload x_355_87 rfl ?_
    obtain ⟨hz, h⟩ := h
    exact r_retZ x_355_89 rfl hz h
  · replace h := h.1 hc
    refine r_iload x_355_18 rfl ?_
    refine r_if_ne x_355_20 (t := 87) (by decide +kernel) hv6 (fun hc => ?_) (fun hc => ?_)
    · replace h := h.2 hc
      refine r_iload x_355_87 rfl ?_
      obtain ⟨hz, h⟩ := h
      exact r_retZ x_355_89 rfl hz h
    · replace h := h.1 hc
      refine r_aload_n x_355_23 rfl ?_
      obtain ⟨hO1, h⟩ := h
      obtain ⟨b2, hb3, h⟩ := h
      refine r_getR x_355_24 rfl (ci := 12) (k := 30) (ns := 0) (by decide +kernel) (by decide) rfl (kz := 30) rfl hO1 hb3 ?_
      refine r_iload x_355_27 rfl ?_
      obtain ⟨n4, hA5, h⟩ := h
      obtain ⟨h6, h⟩ := h
      refine r_iald x_355_29 hA5 hv7 h6.1 h6.2 ?_
      refine r_iload_n x_355_30 rfl ?_
      refine r_ic_eq x_355_31 (t := 37) (by decide +kernel) (hok.1 _ _) hv2 (fun hc => ?_) (fun hc => ?_)
      · replace h := h.1 hc
        refine r_aload_n x_355_37 rfl ?_
        refine r_iload x_355_38 rfl ?_
        refine r_putI x_355_40 (ci := 12) (k := 26) (ns := 0) (by decide +kernel) (by decide) (g_f0 (by decide +kernel)) rfl hv5 trivial (kz := 26) rfl hO1 ?_
        obtain ⟨M7, hM8⟩ : ∃ Mz, Mz = g_wi M a0 26 v5 := ⟨_, rfl⟩
        rw [← hM8]
        refine g_Run.ok fun hok9 => ?_
        replace h := h M7 hM8 hok9
        have hx10 := g_extW hM8
        replace hO1 := hO1.up hx10
        replace hA5 := hA5.up hx10
        refine r_aload_n x_355_43 rfl ?_
        refine r_iload_n x_355_44 rfl ?_
        refine r_aload_n x_355_45 rfl ?_
        obtain ⟨b11, hb12, h⟩ := h
        refine r_getR x_355_46 rfl (ci := 12) (k := 18) (ns := 0) (by decide +kernel) (by decide) rfl (kz := 18) rfl hO1 hb12 ?_
        refine r_iload x_355_49 rfl ?_
        obtain ⟨n13, hA14, h⟩ := h
        obtain ⟨h15, h⟩ := h
        refine r_iald x_355_51 hA14 hv7 h15.1 h15.2 ?_
        refine r_invV x_355_52 (z := 327) (ns := 0) (by decide +kernel) (as := [g_n v1, g_n (g_i M7 b11 v7)]) (r := []) rfl rfl rfl hO1 rfl rfl ?_
        refine r_callI h fun r19 M16 hx17 hok18 hr20 h => ?_
        replace h := h hx17 hok18 hr20
        replace hO1 := hO1.up hx17
        replace hA5 := hA5.up hx17
        replace hA14 := hA14.up hx17
        refine r_istore x_355_55 (by decide +kernel) rfl (lv1 := [(0, .ref a0), (1, g_n v1), (2, g_n v2), (3, g_n v3), (4, g_n v4), (5, g_n v5), (6, g_n v6), (7, g_n v7), (8, g_n r19)]) rfl ?_
        refine r_iload x_355_57 rfl ?_
        refine r_iconst x_355_59 ?_
        refine r_ic_eq x_355_60 (t := 78) (by decide +kernel) hr20 (g_Rk rfl) (fun hc => ?_) (fun hc => ?_)
        · replace h := h.1 hc
          refine r_iconst x_355_78 ?_
          refine r_istore x_355_79 (by decide +kernel) rfl (lv1 := [(0, .ref a0), (1, g_n v1), (2, g_n v2), (3, g_n v3), (4, g_n v4), (5, g_n v5), (6, g_n 0), (7, g_n v7), (8, g_n r19)]) rfl ?_
          obtain ⟨h21, h⟩ := h
          refine r_iinc x_355_81 (by decide +kernel) rfl rfl (lv1 := [(0, .ref a0), (1, g_n v1), (2, g_n v2), (3, g_n v3), (4, g_n v4), (5, g_n v5), (6, g_n 0), (7, g_n (v7 + 1)), (8, g_n r19)]) rfl ?_
          refine r_goto x_355_84 (t := 12) (by decide +kernel) ?_
          refine g_drop [0, 1, 2, 3, 4, 5, 6, 7] (lv1 := [(0, .ref a0), (1, g_n v1), (2, g_n v2), (3, g_n v3), (4, g_n v4), (5, g_n v5), (6, g_n 0), (7, g_n (v7 + 1))]) rfl ?_
          exact h
        · replace h := h.2 hc
          refine r_aload_n x_355_63 rfl ?_
          refine r_iload x_355_64 rfl ?_
          refine r_iload x_355_66 rfl ?_
          refine r_invV x_355_68 (z := 271) (ns := 0) (by decide +kernel) (as := [g_n r19, g_n v4]) (r := []) rfl rfl rfl hO1 rfl rfl ?_
          refine r_callI h fun r25 M22 hx23 hok24 hr26 h => ?_
          replace h := h hx23 hok24 hr26
          replace hO1 := hO1.up hx23
          replace hA5 := hA5.up hx23
          replace hA14 := hA14.up hx23
          refine r_if_eq x_355_71 (t := 78) (by decide +kernel) hr26 (fun hc => ?_) (fun hc => ?_)
          · replace h := h.1 hc
            refine r_iconst x_355_78 ?_
            refine r_istore x_355_79 (by decide +kernel) rfl (lv1 := [(0, .ref a0), (1, g_n v1), (2, g_n v2), (3, g_n v3), (4, g_n v4), (5, g_n v5), (6, g_n 0), (7, g_n v7), (8, g_n r19)]) rfl ?_
            obtain ⟨h27, h⟩ := h
            refine r_iinc x_355_81 (by decide +kernel) rfl rfl (lv1 := [(0, .ref a0), (1, g_n v1), (2, g_n v2), (3, g_n v3), (4, g_n v4), (5, g_n v5), (6, g_n 0), (7, g_n (v7 + 1)), (8, g_n r19)]) rfl ?_
            refine r_goto x_355_84 (t := 12) (by decide +kernel) ?_
            refine g_drop [0, 1, 2, 3, 4, 5, 6, 7] (lv1 := [(0, .ref a0), (1, g_n v1), (2, g_n v2), (3, g_n v3), (4, g_n v4), (5, g_n v5), (6, g_n 0), (7, g_n (v7 + 1))]) rfl ?_
            exact h
          · replace h := h.2 hc
            refine r_iconst x_355_74 ?_
            refine r_goto x_355_75 (t := 79) (by decide +kernel) ?_
            refine r_istore x_355_79 (by decide +kernel) rfl (lv1 := [(0, .ref a0), (1, g_n v1), (2, g_n v2), (3, g_n v3), (4, g_n v4), (5, g_n v5), (6, g_n 1), (7, g_n v7), (8, g_n r19)]) rfl ?_
            obtain ⟨h28, h⟩ := h
            refine r_iinc x_355_81 (by decide +kernel) rfl rfl (lv1 := [(0, .ref a0), (1, g_n v1), (2, g_n v2), (3, g_n v3), (4, g_n v4), (5, g_n v5), (6, g_n 1), (7, g_n (v7 + 1)), (8, g_n r19)]) rfl ?_
            refine r_goto x_355_84 (t := 12) (by decide +kernel) ?_
            refine g_drop [0, 1, 2, 3, 4, 5, 6, 7] (lv1 := [(0, .ref a0), (1, g_n v1), (2, g_n v2), (3, g_n v3), (4, g_n v4), (5, g_n v5), (6, g_n 1), (7, g_n (v7 + 1))]) rfl ?_
            exact h
      · replace h := h.2 hc
        refine r_goto x_355_34 (t := 81) (by decide +kernel) ?_
        obtain ⟨h29, h⟩ := h
        refine r_iinc x_355_81 (by decide +kernel) rfl rfl (lv1 := [(0, .ref a0), (1, g_n v1), (2, g_n v2), (3, g_n v3), (4, g_n v4), (5, g_n v5), (6, g_n v6), (7, g_n (v7 + 1))]) rfl ?_
        refine r_goto x_355_84 (t := 12) (by decide +kernel) ?_
        exact h
theorem m_X12_sort {d : Nat} {M : g_M} {Q : Int → g_M → Prop} {a0 : Nat} {v1 : Int} (hv1 : g_InR v1) (h : g_ok M → g_O M a0 12 ∧ g_Call d 239 [.ref a0, g_n v1] M (g_qI fun r5 M2 => g_ext M M2 → g_ok M2 → g_InR r5 → g_Run d 356 8 [(0, .ref a0), (1, g_n v1), (2, g_n r5), (3, g_n 0)] [] M2 (g_qI Q))) : g_Call (d + 1) 356 [.ref a0, g_n v1] M (g_qI Q) := by
  refine g_Call.ok fun hok0 => ?_
  replace h := h hok0
  refine r_body rfl (lv := [(0, .ref a0), (1, g_n v1)]) rfl ?_
  refine g_Run.ok fun hok => ?_
  refine r_aload_n x_356_0 rfl ?_
  refine r_iload_n x_356_1 rfl ?_
  obtain ⟨hO1, h⟩ := h
  refine r_invV x_356_2 (z := 239) (ns := 0) (by decide +kernel) (as := [g_n v1]) (r := []) rfl rfl rfl hO1 rfl rfl ?_
  refine r_callI h fun r5 M2 hx3 hok4 hr6 h => ?_
  replace h := h hx3 hok4 hr6
  replace hO1 := hO1.up hx3
  refine r_istore_n x_356_5 (by decide +kernel) rfl (lv1 := [(0, .ref a0), (1, g_n v1), (2, g_n r5)]) rfl ?_
  refine r_iconst x_356_6 ?_
  refine r_istore_n x_356_7 (by decide +kernel) rfl (lv1 := [(0, .ref a0), (1, g_n v1), (2, g_n r5), (3, g_n 0)]) rfl ?_
  exact h
theorem s_X12_sort_8 {d : Nat} {M : g_M} {Q : Int → g_M → Prop} {a0 : Nat} {v1 : Int} (hv1 : g_InR v1) {v2 : Int} (hv2 : g_InR v2) {v3 : Int} (hv3 : g_InR v3) (h : g_ok M → g_O M a0 12 ∧ ((v3 < g_i M a0 19 → g_Run d 356 19 [(0, .ref a0), (1, g_n v1), (2, g_n v2), (3, g_n v3), (4, g_n 0)] [] M (g_qI Q)) ∧ (¬ v3 < g_i M a0 19 → g_Run d 356 187 [(0, .ref a0), (1, g_n v1), (2, g_n v2), (3, g_n 0)] [] M (g_qI Q)))) : g_Run d 356 8 [(0, .ref a0), (1, g_n v1), (2, g_n v2), (3, g_n v3)] [] M (g_qI Q) := by
  refine g_Run.ok fun hok => ?_
  replace h := h hok
  refine r_iload_n x_356_8 rfl ?_
  refine r_aload_n x_356_9 rfl ?_
  obtain ⟨hO1, h⟩ := h
  refine r_getI x_356_10 rfl (ci := 12) (k := 19) (ns := 0) (by decide +kernel) (by decide) rfl (kz := 19) rfl hO1 ?_
  refine r_ic_ge x_356_13 (t := 185) (by decide +kernel) hv3 (hok.1 _ _) (fun hc => ?_) (fun hc => ?_)
  · replace h := h.2 hc
    refine r_iconst x_356_185 ?_
    refine r_istore_n x_356_186 (by decide +kernel) rfl (lv1 := [(0, .ref a0), (1, g_n v1), (2, g_n v2), (3, g_n 0)]) rfl ?_
    exact h
  · replace h := h.1 hc
    refine r_iconst x_356_16 ?_
    refine r_istore x_356_17 (by decide +kernel) rfl (lv1 := [(0, .ref a0), (1, g_n v1), (2, g_n v2), (3, g_n v3), (4, g_n 0)]) rfl ?_
    exact h
theorem s_X12_sort_19 {d : Nat} {M : g_M} {Q : Int → g_M → Prop} {a0 : Nat} {v1 : Int} (hv1 : g_InR v1) {v2 : Int} (hv2 : g_InR v2) {v3 : Int} (hv3 : g_InR v3) {v4 : Int} (hv4 : g_InR v4) (h : g_ok M → ((v4 < v2 → g_O M a0 12 ∧ g_Call d 241 [.ref a0, g_n v1, g_n v4] M (g_qI fun r6 M3 => g_ext M M3 → g_ok M3 → g_InR r6 → ∃ b8, g_r M3 a0 18 = some b8 ∧ ∃ n10, g_A M3 b8 1 n10 ∧ ((0 : Int) ≤ v3 ∧ (v3 : Int) < n10) ∧ g_InR (r6 + 1) ∧ g_Call d 232 [.ref a0, g_n r6] M3 (g_qI fun r17 M14 => g_ext M3 M14 → g_ok M14 → g_InR r17 → g_Call d 281 [.ref a0, g_n (g_i M3 b8 v3), g_n (r6 + 1), g_n r17] M14 (g_qI fun r22 M19 => g_ext M14 M19 → g_ok M19 → g_InR r22 → ((r22 = g_i M19 a0 10 → g_Call d 277 [.ref a0, g_n ((-1))] M19 (g_qV fun M30 => g_ext M19 M30 → g_ok M30 → ∃ b33, g_r M30 a0 9 = some b33 ∧ ∃ n35, g_A M30 b33 1 n35 ∧ ((0 : Int) ≤ r22 ∧ (r22 : Int) < n35) ∧ g_InR (r22 + 1) ∧ g_Run d 356 91 [(0, .ref a0), (1, g_n v1), (2, g_n v2), (3, g_n v3), (4, g_n v4), (5, g_n r6), (6, g_n (g_i M3 a0 10)), (7, g_n r22), (8, g_n (g_i M30 b33 r22)), (9, g_n (r22 + 1))] [] M30 (g_qI Q))) ∧ (¬ r22 = g_i M19 a0 10 → ∃ b24, g_r M19 a0 9 = some b24 ∧ ∃ n26, g_A M19 b24 1 n26 ∧ ((0 : Int) ≤ r22 ∧ (r22 : Int) < n26) ∧ g_InR (r22 + 1) ∧ g_Run d 356 91 [(0, .ref a0), (1, g_n v1), (2, g_n v2), (3, g_n v3), (4, g_n v4), (5, g_n r6), (6, g_n (g_i M3 a0 10)), (7, g_n r22), (8, g_n (g_i M19 b24 r22)), (9, g_n (r22 + 1))] [] M19 (g_qI Q))))))) ∧ (¬ v4 < v2 → g_InR (v3 + 1) ∧ g_Run d 356 8 [(0, .ref a0), (1, g_n v1), (2, g_n v2), (3, g_n (v3 + 1))] [] M (g_qI Q)))) : g_Run d 356 19 [(0, .ref a0), (1, g_n v1), (2, g_n v2), (3, g_n v3), (4, g_n v4)] [] M (g_qI Q) := by
  refine g_Run.ok fun hok => ?_
  replace h := h hok
  refine r_iload x_356_19 rfl ?_
  refine r_iload_n x_356_21 rfl ?_
  refine r_ic_ge x_356_22 (t := 179) (by decide +kernel) hv4 hv2 (fun hc => ?_) (fun hc => ?_)
  · replace h := h.2 hc
    obtain ⟨h1, h⟩ := h
    refine r_iinc x_356_179 (by decide +kernel) rfl rfl (lv1 := [(0, .ref a0), (1, g_n v1), (2, g_n v2), (3, g_n (v3 + 1)), (4, g_n v4)]) rfl ?_
    refine r_goto x_356_182 (t := 8) (by decide +kernel) ?_
    refine g_drop [0, 1, 2, 3] (lv1 := [(0, .ref a0), (1, g_n v1), (2, g_n v2), (3, g_n (v3 + 1))]) rfl ?_
    exact h
  · replace h := h.1 hc
    refine r_aload_n x_356_25 rfl ?_
    refine r_iload_n x_356_26 rfl ?_
    refine r_iload x_356_27 rfl ?_
    obtain ⟨hO2, h⟩ := h
    refine r_invV x_356_29 (z := 241) (ns := 0) (by decide +kernel) (as := [g_n v1, g_n v4]) (r := []) rfl rfl rfl hO2 rfl rfl ?_
    refine r_callI h fun r6 M3 hx4 hok5 hr7 h => ?_
    replace h := h hx4 hok5 hr7
    replace hO2 := hO2.up hx4
    refine r_istore x_356_32 (by decide +kernel) rfl (lv1 := [(0, .ref a0), (1, g_n v1), (2, g_n v2), (3, g_n v3), (4, g_n v4), (5, g_n r6)]) rfl ?_
    refine r_aload_n x_356_34 rfl ?_
    refine r_getI x_356_35 rfl (ci := 12) (k := 10) (ns := 0) (by decide +kernel) (by decide) rfl (kz := 10) rfl hO2 ?_
    refine r_istore x_356_38 (by decide +kernel) rfl (lv1 := [(0, .ref a0), (1, g_n v1), (2, g_n v2), (3, g_n v3), (4, g_n v4), (5, g_n r6), (6, g_n (g_i M3 a0 10))]) rfl ?_
    refine r_aload_n x_356_40 rfl ?_
    refine r_aload_n x_356_41 rfl ?_
    obtain ⟨b8, hb9, h⟩ := h
    refine r_getR x_356_42 rfl (ci := 12) (k := 18) (ns := 0) (by decide +kernel) (by decide) rfl (kz := 18) rfl hO2 hb9 ?_
    refine r_iload_n x_356_45 rfl ?_
    obtain ⟨n10, hA11, h⟩ := h
    obtain ⟨h12, h⟩ := h
    refine r_iald x_356_46 hA11 hv3 h12.1 h12.2 ?_
    refine r_iload x_356_47 rfl ?_
    refine r_iconst x_356_49 ?_
    refine r_iadd x_356_50 ?_
    obtain ⟨h13, h⟩ := h
    refine r_aload_n x_356_51 rfl ?_
    refine r_iload x_356_52 rfl ?_
    refine r_invV x_356_54 (z := 232) (ns := 0) (by decide +kernel) (as := [g_n r6]) (r := [g_n (r6 + 1), g_n (g_i M3 b8 v3), .ref a0]) rfl rfl rfl hO2 rfl rfl ?_
    refine r_callI h fun r17 M14 hx15 hok16 hr18 h => ?_
    replace h := h hx15 hok16 hr18
    replace hO2 := hO2.up hx15
    replace hA11 := hA11.up hx15
    refine r_invV x_356_57 (z := 281) (ns := 0) (by decide +kernel) (as := [g_n (g_i M3 b8 v3), g_n (r6 + 1), g_n r17]) (r := []) rfl rfl rfl hO2 rfl rfl ?_
    refine r_callI h fun r22 M19 hx20 hok21 hr23 h => ?_
    replace h := h hx20 hok21 hr23
    replace hO2 := hO2.up hx20
    replace hA11 := hA11.up hx20
    refine r_istore x_356_60 (by decide +kernel) rfl (lv1 := [(0, .ref a0), (1, g_n v1), (2, g_n v2), (3, g_n v3), (4, g_n v4), (5, g_n r6), (6, g_n (g_i M3 a0 10)), (7, g_n r22)]) rfl ?_
    refine r_iload x_356_62 rfl ?_
    refine r_aload_n x_356_64 rfl ?_
    refine r_getI x_356_65 rfl (ci := 12) (k := 10) (ns := 0) (by decide +kernel) (by decide) rfl (kz := 10) rfl hO2 ?_
    refine r_ic_ne x_356_68 (t := 76) (by decide +kernel) hr23 (hok21.1 _ _) (fun hc => ?_) (fun hc => ?_)
    · replace h := h.2 hc
      refine r_aload_n x_356_76 rfl ?_
      obtain ⟨b24, hb25, h⟩ := h
      refine r_getR x_356_77 rfl (ci := 12) (k := 9) (ns := 0) (by decide +kernel) (by decide) rfl (kz := 9) rfl hO2 hb25 ?_
      refine r_iload x_356_80 rfl ?_
      obtain ⟨n26, hA27, h⟩ := h
      obtain ⟨h28, h⟩ := h
      refine r_iald x_356_82 hA27 hr23 h28.1 h28.2 ?_
      refine r_istore x_356_83 (by decide +kernel) rfl (lv1 := [(0, .ref a0), (1, g_n v1), (2, g_n v2), (3, g_n v3), (4, g_n v4), (5, g_n r6), (6, g_n (g_i M3 a0 10)), (7, g_n r22), (8, g_n (g_i M19 b24 r22))]) rfl ?_
      refine r_iload x_356_85 rfl ?_
      refine r_iconst x_356_87 ?_
      refine r_iadd x_356_88 ?_
      obtain ⟨h29, h⟩ := h
      refine r_istore x_356_89 (by decide +kernel) rfl (lv1 := [(0, .ref a0), (1, g_n v1), (2, g_n v2), (3, g_n v3), (4, g_n v4), (5, g_n r6), (6, g_n (g_i M3 a0 10)), (7, g_n r22), (8, g_n (g_i M19 b24 r22)), (9, g_n (r22 + 1))]) rfl ?_
      exact h
    · replace h := h.1 hc
      refine r_aload_n x_356_71 rfl ?_
      refine r_iconst x_356_72 ?_
      refine r_invV x_356_73 (z := 277) (ns := 0) (by decide +kernel) (as := [g_n ((-1))]) (r := []) rfl rfl rfl hO2 rfl rfl ?_
      refine r_callV h fun M30 hx31 hok32 h => ?_
      replace h := h hx31 hok32
      replace hO2 := hO2.up hx31
      replace hA11 := hA11.up hx31
      refine r_aload_n x_356_76 rfl ?_
      obtain ⟨b33, hb34, h⟩ := h
      refine r_getR x_356_77 rfl (ci := 12) (k := 9) (ns := 0) (by decide +kernel) (by decide) rfl (kz := 9) rfl hO2 hb34 ?_
      refine r_iload x_356_80 rfl ?_
      obtain ⟨n35, hA36, h⟩ := h
      obtain ⟨h37, h⟩ := h
      refine r_iald x_356_82 hA36 hr23 h37.1 h37.2 ?_
      refine r_istore x_356_83 (by decide +kernel) rfl (lv1 := [(0, .ref a0), (1, g_n v1), (2, g_n v2), (3, g_n v3), (4, g_n v4), (5, g_n r6), (6, g_n (g_i M3 a0 10)), (7, g_n r22), (8, g_n (g_i M30 b33 r22))]) rfl ?_
      refine r_iload x_356_85 rfl ?_
      refine r_iconst x_356_87 ?_
      refine r_iadd x_356_88 ?_
      obtain ⟨h38, h⟩ := h
      refine r_istore x_356_89 (by decide +kernel) rfl (lv1 := [(0, .ref a0), (1, g_n v1), (2, g_n v2), (3, g_n v3), (4, g_n v4), (5, g_n r6), (6, g_n (g_i M3 a0 10)), (7, g_n r22), (8, g_n (g_i M30 b33 r22)), (9, g_n (r22 + 1))]) rfl ?_
      exact h
theorem s_X12_sort_91 {d : Nat} {M : g_M} {Q : Int → g_M → Prop} {a0 : Nat} {v1 : Int} (hv1 : g_InR v1) {v2 : Int} (hv2 : g_InR v2) {v3 : Int} (hv3 : g_InR v3) {v4 : Int} (hv4 : g_InR v4) {v5 : Int} (hv5 : g_InR v5) {v6 : Int} (hv6 : g_InR v6) {v7 : Int} (hv7 : g_InR v7) {v8 : Int} (hv8 : g_InR v8) {v9 : Int} (hv9 : g_InR v9) (h : g_ok M → g_O M a0 12 ∧ ((v9 < g_i M a0 10 → ∃ b18, g_r M a0 9 = some b18 ∧ ∃ n20, g_A M b18 1 n20 ∧ ((0 : Int) ≤ v9 ∧ (v9 : Int) < n20) ∧ g_Call d 269 [.ref a0, g_n (g_i M b18 v9), g_n v8] M (g_qI fun r26 M23 => g_ext M M23 → g_ok M23 → g_InR r26 → g_Call d 243 [.ref a0, g_n v5] M23 (g_qL fun R31 M28 => g_ext M23 M28 → g_ok M28 → ((0 < g_lc R31 0 → ((r26 < 0 → ∃ b40, g_r M28 a0 9 = some b40 ∧ ∃ n42, g_A M28 b40 1 n42 ∧ ((0 : Int) ≤ v9 ∧ (v9 : Int) < n42) ∧ g_InR (v9 + 1) ∧ g_Run d 356 91 [(0, .ref a0), (1, g_n v1), (2, g_n v2), (3, g_n v3), (4, g_n v4), (5, g_n v5), (6, g_n v6), (7, g_n v7), (8, g_n (g_i M28 b40 v9)), (9, g_n (v9 + 1))] [] M28 (g_qI Q)) ∧ (¬ r26 < 0 → g_InR (v9 + 1) ∧ g_Run d 356 91 [(0, .ref a0), (1, g_n v1), (2, g_n v2), (3, g_n v3), (4, g_n v4), (5, g_n v5), (6, g_n v6), (7, g_n v7), (8, g_n v8), (9, g_n (v9 + 1))] [] M28 (g_qI Q)))) ∧ (¬ 0 < g_lc R31 0 → ((0 < r26 → ∃ b33, g_r M28 a0 9 = some b33 ∧ ∃ n35, g_A M28 b33 1 n35 ∧ ((0 : Int) ≤ v9 ∧ (v9 : Int) < n35) ∧ g_InR (v9 + 1) ∧ g_Run d 356 91 [(0, .ref a0), (1, g_n v1), (2, g_n v2), (3, g_n v3), (4, g_n v4), (5, g_n v5), (6, g_n v6), (7, g_n v7), (8, g_n (g_i M28 b33 v9)), (9, g_n (v9 + 1))] [] M28 (g_qI Q)) ∧ (¬ 0 < r26 → g_InR (v9 + 1) ∧ g_Run d 356 91 [(0, .ref a0), (1, g_n v1), (2, g_n v2), (3, g_n v3), (4, g_n v4), (5, g_n v5), (6, g_n v6), (7, g_n v7), (8, g_n v8), (9, g_n (v9 + 1))] [] M28 (g_qI Q)))))))) ∧ (¬ v9 < g_i M a0 10 → (∀ M2, M2 = g_wi M a0 10 v6 → g_ok M2 → ∃ b6, g_r M2 a0 34 = some b6 ∧ g_InR (4 * v3) ∧ g_InR ((4 * v3) + v4) ∧ ∃ n10, g_A M2 b6 1 n10 ∧ ((0 : Int) ≤ (4 * v3) + v4 ∧ ((4 * v3) + v4 : Int) < n10) ∧ (∀ M13, M13 = g_wi M2 b6 ((4 * v3) + v4) v8 → g_ok M13 → g_InR (v4 + 1) ∧ g_Run d 356 19 [(0, .ref a0), (1, g_n v1), (2, g_n v2), (3, g_n v3), (4, g_n (v4 + 1))] [] M13 (g_qI Q)))))) : g_Run d 356 91 [(0, .ref a0), (1, g_n v1), (2, g_n v2), (3, g_n v3), (4, g_n v4), (5, g_n v5), (6, g_n v6), (7, g_n v7), (8, g_n v8), (9, g_n v9)] [] M (g_qI Q) := by
  refine g_Run.ok fun hok => ?_
  replace h := h hok
  refine r_iload x_356_91 rfl ?_
  refine r_aload_n x_356_93 rfl ?_
  obtain ⟨hO1, h⟩ := h
  refine r_getI x_356_94 rfl (ci := 12) (k := 10) (ns := 0) (by decide +kernel) (by decide) rfl (kz := 10) rfl hO1 ?_
  refine r_ic_ge x_356_97 (t := 154) (by decide +kernel) hv9 (hok.1 _ _) (fun hc => ?_) (fun hc => ?_)
  · replace h := h.2 hc
    refine r_aload_n x_356_154 rfl ?_
    refine r_iload x_356_155 rfl ?_
    refine r_putI x_356_157 (ci := 12) (k := 10) (ns := 0) (by decide +kernel) (by decide) (g_f0 (by decide +kernel)) rfl hv6 trivial (kz := 10) rfl hO1 ?_
    obtain ⟨M2, hM3⟩ : ∃ Mz, Mz = g_wi M a0 10 v6 := ⟨_, rfl⟩
    rw [← hM3]
    refine g_Run.ok fun hok4 => ?_
    replace h := h M2 hM3 hok4
    have hx5 := g_extW hM3
    replace hO1 := hO1.up hx5
    refine r_aload_n x_356_160 rfl ?_
    obtain ⟨b6, hb7, h⟩ := h
    refine r_getR x_356_161 rfl (ci := 12) (k := 34) (ns := 0) (by decide +kernel) (by decide) rfl (kz := 34) rfl hO1 hb7 ?_
    refine r_iconst x_356_164 ?_
    refine r_iload_n x_356_165 rfl ?_
    refine r_imul x_356_166 ?_
    obtain ⟨h8, h⟩ := h
    refine r_iload x_356_167 rfl ?_
    refine r_iadd x_356_169 ?_
    obtain ⟨h9, h⟩ := h
    refine r_iload x_356_170 rfl ?_
    obtain ⟨n10, hA11, h⟩ := h
    obtain ⟨h12, h⟩ := h
    refine r_iast x_356_172 hA11 h9 h12.1 h12.2 hv8 ?_
    obtain ⟨M13, hM14⟩ : ∃ Mz, Mz = g_wi M2 b6 ((4 * v3) + v4) v8 := ⟨_, rfl⟩
    rw [← hM14]
    refine g_Run.ok fun hok15 => ?_
    replace h := h M13 hM14 hok15
    have hx16 := g_extW hM14
    replace hO1 := hO1.up hx16
    replace hA11 := hA11.up hx16
    obtain ⟨h17, h⟩ := h
    refine r_iinc x_356_173 (by decide +kernel) rfl rfl (lv1 := [(0, .ref a0), (1, g_n v1), (2, g_n v2), (3, g_n v3), (4, g_n (v4 + 1)), (5, g_n v5), (6, g_n v6), (7, g_n v7), (8, g_n v8), (9, g_n v9)]) rfl ?_
    refine r_goto x_356_176 (t := 19) (by decide +kernel) ?_
    refine g_drop [0, 1, 2, 3, 4] (lv1 := [(0, .ref a0), (1, g_n v1), (2, g_n v2), (3, g_n v3), (4, g_n (v4 + 1))]) rfl ?_
    exact h
  · replace h := h.1 hc
    refine r_aload_n x_356_100 rfl ?_
    refine r_aload_n x_356_101 rfl ?_
    obtain ⟨b18, hb19, h⟩ := h
    refine r_getR x_356_102 rfl (ci := 12) (k := 9) (ns := 0) (by decide +kernel) (by decide) rfl (kz := 9) rfl hO1 hb19 ?_
    refine r_iload x_356_105 rfl ?_
    obtain ⟨n20, hA21, h⟩ := h
    obtain ⟨h22, h⟩ := h
    refine r_iald x_356_107 hA21 hv9 h22.1 h22.2 ?_
    refine r_iload x_356_108 rfl ?_
    refine r_invV x_356_110 (z := 269) (ns := 0) (by decide +kernel) (as := [g_n (g_i M b18 v9), g_n v8]) (r := []) rfl rfl rfl hO1 rfl rfl ?_
    refine r_callI h fun r26 M23 hx24 hok25 hr27 h => ?_
    replace h := h hx24 hok25 hr27
    replace hO1 := hO1.up hx24
    replace hA21 := hA21.up hx24
    refine r_istore x_356_113 (by decide +kernel) rfl (lv1 := [(0, .ref a0), (1, g_n v1), (2, g_n v2), (3, g_n v3), (4, g_n v4), (5, g_n v5), (6, g_n v6), (7, g_n v7), (8, g_n v8), (9, g_n v9), (10, g_n r26)]) rfl ?_
    refine r_aload_n x_356_115 rfl ?_
    refine r_iload x_356_116 rfl ?_
    refine r_invV x_356_118 (z := 243) (ns := 0) (by decide +kernel) (as := [g_n v5]) (r := []) rfl rfl rfl hO1 rfl rfl ?_
    refine r_callL h fun R31 M28 hx29 hok30 h => ?_
    replace h := h hx29 hok30
    replace hO1 := hO1.up hx29
    replace hA21 := hA21.up hx29
    refine r_lconst x_356_121 ?_
    show g_Run d 356 122 [(0, .ref a0), (1, g_n v1), (2, g_n v2), (3, g_n v3), (4, g_n v4), (5, g_n v5), (6, g_n v6), (7, g_n v7), (8, g_n v8), (9, g_n v9), (10, g_n r26)] [.long 0, .long R31] M28 _
    refine r_lcmp x_356_122 ?_
    refine r_if_le x_356_123 (t := 134) (by decide +kernel) (g_InR_toInt _) (fun hc => ?_) (fun hc => ?_)
    · replace h := h.2 hc
      refine r_iload x_356_134 rfl ?_
      refine r_if_le x_356_136 (t := 148) (by decide +kernel) hr27 (fun hc => ?_) (fun hc => ?_)
      · replace h := h.2 hc
        obtain ⟨h32, h⟩ := h
        refine r_iinc x_356_148 (by decide +kernel) rfl rfl (lv1 := [(0, .ref a0), (1, g_n v1), (2, g_n v2), (3, g_n v3), (4, g_n v4), (5, g_n v5), (6, g_n v6), (7, g_n v7), (8, g_n v8), (9, g_n (v9 + 1)), (10, g_n r26)]) rfl ?_
        refine r_goto x_356_151 (t := 91) (by decide +kernel) ?_
        refine g_drop [0, 1, 2, 3, 4, 5, 6, 7, 8, 9] (lv1 := [(0, .ref a0), (1, g_n v1), (2, g_n v2), (3, g_n v3), (4, g_n v4), (5, g_n v5), (6, g_n v6), (7, g_n v7), (8, g_n v8), (9, g_n (v9 + 1))]) rfl ?_
        exact h
      · replace h := h.1 hc
        refine r_aload_n x_356_139 rfl ?_
        obtain ⟨b33, hb34, h⟩ := h
        refine r_getR x_356_140 rfl (ci := 12) (k := 9) (ns := 0) (by decide +kernel) (by decide) rfl (kz := 9) rfl hO1 hb34 ?_
        refine r_iload x_356_143 rfl ?_
        obtain ⟨n35, hA36, h⟩ := h
        obtain ⟨h37, h⟩ := h
        refine r_iald x_356_145 hA36 hv9 h37.1 h37.2 ?_
        refine r_istore x_356_146 (by decide +kernel) rfl (lv1 := [(0, .ref a0), (1, g_n v1), (2, g_n v2), (3, g_n v3), (4, g_n v4), (5, g_n v5), (6, g_n v6), (7, g_n v7), (8, g_n (g_i M28 b33 v9)), (9, g_n v9), (10, g_n r26)]) rfl ?_
        obtain ⟨h38, h⟩ := h
        refine r_iinc x_356_148 (by decide +kernel) rfl rfl (lv1 := [(0, .ref a0), (1, g_n v1), (2, g_n v2), (3, g_n v3), (4, g_n v4), (5, g_n v5), (6, g_n v6), (7, g_n v7), (8, g_n (g_i M28 b33 v9)), (9, g_n (v9 + 1)), (10, g_n r26)]) rfl ?_
        refine r_goto x_356_151 (t := 91) (by decide +kernel) ?_
        refine g_drop [0, 1, 2, 3, 4, 5, 6, 7, 8, 9] (lv1 := [(0, .ref a0), (1, g_n v1), (2, g_n v2), (3, g_n v3), (4, g_n v4), (5, g_n v5), (6, g_n v6), (7, g_n v7), (8, g_n (g_i M28 b33 v9)), (9, g_n (v9 + 1))]) rfl ?_
        exact h
    · replace h := h.1 hc
      refine r_iload x_356_126 rfl ?_
      refine r_if_ge x_356_128 (t := 148) (by decide +kernel) hr27 (fun hc => ?_) (fun hc => ?_)
      · replace h := h.2 hc
        obtain ⟨h39, h⟩ := h
        refine r_iinc x_356_148 (by decide +kernel) rfl rfl (lv1 := [(0, .ref a0), (1, g_n v1), (2, g_n v2), (3, g_n v3), (4, g_n v4), (5, g_n v5), (6, g_n v6), (7, g_n v7), (8, g_n v8), (9, g_n (v9 + 1)), (10, g_n r26)]) rfl ?_
        refine r_goto x_356_151 (t := 91) (by decide +kernel) ?_
        refine g_drop [0, 1, 2, 3, 4, 5, 6, 7, 8, 9] (lv1 := [(0, .ref a0), (1, g_n v1), (2, g_n v2), (3, g_n v3), (4, g_n v4), (5, g_n v5), (6, g_n v6), (7, g_n v7), (8, g_n v8), (9, g_n (v9 + 1))]) rfl ?_
        exact h
      · replace h := h.1 hc
        refine r_goto x_356_131 (t := 139) (by decide +kernel) ?_
        refine r_aload_n x_356_139 rfl ?_
        obtain ⟨b40, hb41, h⟩ := h
        refine r_getR x_356_140 rfl (ci := 12) (k := 9) (ns := 0) (by decide +kernel) (by decide) rfl (kz := 9) rfl hO1 hb41 ?_
        refine r_iload x_356_143 rfl ?_
        obtain ⟨n42, hA43, h⟩ := h
        obtain ⟨h44, h⟩ := h
        refine r_iald x_356_145 hA43 hv9 h44.1 h44.2 ?_
        refine r_istore x_356_146 (by decide +kernel) rfl (lv1 := [(0, .ref a0), (1, g_n v1), (2, g_n v2), (3, g_n v3), (4, g_n v4), (5, g_n v5), (6, g_n v6), (7, g_n v7), (8, g_n (g_i M28 b40 v9)), (9, g_n v9), (10, g_n r26)]) rfl ?_
        obtain ⟨h45, h⟩ := h
        refine r_iinc x_356_148 (by decide +kernel) rfl rfl (lv1 := [(0, .ref a0), (1, g_n v1), (2, g_n v2), (3, g_n v3), (4, g_n v4), (5, g_n v5), (6, g_n v6), (7, g_n v7), (8, g_n (g_i M28 b40 v9)), (9, g_n (v9 + 1)), (10, g_n r26)]) rfl ?_
        refine r_goto x_356_151 (t := 91) (by decide +kernel) ?_
        refine g_drop [0, 1, 2, 3, 4, 5, 6, 7, 8, 9] (lv1 := [(0, .ref a0), (1, g_n v1), (2, g_n v2), (3, g_n v3), (4, g_n v4), (5, g_n v5), (6, g_n v6), (7, g_n v7), (8, g_n (g_i M28 b40 v9)), (9, g_n (v9 + 1))]) rfl ?_
        exact h
theorem s_X12_sort_187 {d : Nat} {M : g_M} {Q : Int → g_M → Prop} {a0 : Nat} {v1 : Int} (hv1 : g_InR v1) {v2 : Int} (hv2 : g_InR v2) {v3 : Int} (hv3 : g_InR v3) (h : g_ok M → g_O M a0 12 ∧ ((v3 < g_i M a0 19 → ∃ b2, g_r M a0 22 = some b2 ∧ ∃ n4, g_A M b2 1 n4 ∧ ((0 : Int) ≤ v3 ∧ (v3 : Int) < n4) ∧ (∀ M7, M7 = g_wi M b2 v3 v3 → g_ok M7 → g_InR (v3 + 1) ∧ g_Run d 356 187 [(0, .ref a0), (1, g_n v1), (2, g_n v2), (3, g_n (v3 + 1))] [] M7 (g_qI Q))) ∧ (¬ v3 < g_i M a0 19 → g_Run d 356 210 [(0, .ref a0), (1, g_n v1), (2, g_n v2), (3, g_n 1)] [] M (g_qI Q)))) : g_Run d 356 187 [(0, .ref a0), (1, g_n v1), (2, g_n v2), (3, g_n v3)] [] M (g_qI Q) := by
  refine g_Run.ok fun hok => ?_
  replace h := h hok
  refine r_iload_n x_356_187 rfl ?_
  refine r_aload_n x_356_188 rfl ?_
  obtain ⟨hO1, h⟩ := h
  refine r_getI x_356_189 rfl (ci := 12) (k := 19) (ns := 0) (by decide +kernel) (by decide) rfl (kz := 19) rfl hO1 ?_
  refine r_ic_ge x_356_192 (t := 208) (by decide +kernel) hv3 (hok.1 _ _) (fun hc => ?_) (fun hc => ?_)
  · replace h := h.2 hc
    refine r_iconst x_356_208 ?_
    refine r_istore_n x_356_209 (by decide +kernel) rfl (lv1 := [(0, .ref a0), (1, g_n v1), (2, g_n v2), (3, g_n 1)]) rfl ?_
    exact h
  · replace h := h.1 hc
    refine r_aload_n x_356_195 rfl ?_
    obtain ⟨b2, hb3, h⟩ := h
    refine r_getR x_356_196 rfl (ci := 12) (k := 22) (ns := 0) (by decide +kernel) (by decide) rfl (kz := 22) rfl hO1 hb3 ?_
    refine r_iload_n x_356_199 rfl ?_
    refine r_iload_n x_356_200 rfl ?_
    obtain ⟨n4, hA5, h⟩ := h
    obtain ⟨h6, h⟩ := h
    refine r_iast x_356_201 hA5 hv3 h6.1 h6.2 hv3 ?_
    obtain ⟨M7, hM8⟩ : ∃ Mz, Mz = g_wi M b2 v3 v3 := ⟨_, rfl⟩
    rw [← hM8]
    refine g_Run.ok fun hok9 => ?_
    replace h := h M7 hM8 hok9
    have hx10 := g_extW hM8
    replace hO1 := hO1.up hx10
    replace hA5 := hA5.up hx10
    obtain ⟨h11, h⟩ := h
    refine r_iinc x_356_202 (by decide +kernel) rfl rfl (lv1 := [(0, .ref a0), (1, g_n v1), (2, g_n v2), (3, g_n (v3 + 1))]) rfl ?_
    refine r_goto x_356_205 (t := 187) (by decide +kernel) ?_
    exact h
theorem s_X12_sort_210 {d : Nat} {M : g_M} {Q : Int → g_M → Prop} {a0 : Nat} {v1 : Int} (hv1 : g_InR v1) {v2 : Int} (hv2 : g_InR v2) {v3 : Int} (hv3 : g_InR v3) (h : g_ok M → g_O M a0 12 ∧ ((v3 < g_i M a0 19 → ∃ b2, g_r M a0 22 = some b2 ∧ ∃ n4, g_A M b2 1 n4 ∧ ((0 : Int) ≤ v3 ∧ (v3 : Int) < n4) ∧ g_Run d 356 229 [(0, .ref a0), (1, g_n v1), (2, g_n v2), (3, g_n v3), (4, g_n (g_i M b2 v3)), (5, g_n v3)] [] M (g_qI Q)) ∧ (¬ v3 < g_i M a0 19 → g_Run d 356 293 [(0, .ref a0), (1, g_n v1), (2, g_n v2), (3, g_n 0)] [] M (g_qI Q)))) : g_Run d 356 210 [(0, .ref a0), (1, g_n v1), (2, g_n v2), (3, g_n v3)] [] M (g_qI Q) := by
  refine g_Run.ok fun hok => ?_
  replace h := h hok
  refine r_iload_n x_356_210 rfl ?_
  refine r_aload_n x_356_211 rfl ?_
  obtain ⟨hO1, h⟩ := h
  refine r_getI x_356_212 rfl (ci := 12) (k := 19) (ns := 0) (by decide +kernel) (by decide) rfl (kz := 19) rfl hO1 ?_
  refine r_ic_ge x_356_215 (t := 291) (by decide +kernel) hv3 (hok.1 _ _) (fun hc => ?_) (fun hc => ?_)
  · replace h := h.2 hc
    refine r_iconst x_356_291 ?_
    refine r_istore_n x_356_292 (by decide +kernel) rfl (lv1 := [(0, .ref a0), (1, g_n v1), (2, g_n v2), (3, g_n 0)]) rfl ?_
    exact h
  · replace h := h.1 hc
    refine r_aload_n x_356_218 rfl ?_
    obtain ⟨b2, hb3, h⟩ := h
    refine r_getR x_356_219 rfl (ci := 12) (k := 22) (ns := 0) (by decide +kernel) (by decide) rfl (kz := 22) rfl hO1 hb3 ?_
    refine r_iload_n x_356_222 rfl ?_
    obtain ⟨n4, hA5, h⟩ := h
    obtain ⟨h6, h⟩ := h
    refine r_iald x_356_223 hA5 hv3 h6.1 h6.2 ?_
    refine r_istore x_356_224 (by decide +kernel) rfl (lv1 := [(0, .ref a0), (1, g_n v1), (2, g_n v2), (3, g_n v3), (4, g_n (g_i M b2 v3))]) rfl ?_
    refine r_iload_n x_356_226 rfl ?_
    refine r_istore x_356_227 (by decide +kernel) rfl (lv1 := [(0, .ref a0), (1, g_n v1), (2, g_n v2), (3, g_n v3), (4, g_n (g_i M b2 v3)), (5, g_n v3)]) rfl ?_
    exact h
theorem s_X12_sort_229 {d : Nat} {M : g_M} {Q : Int → g_M → Prop} {a0 : Nat} {v1 : Int} (hv1 : g_InR v1) {v2 : Int} (hv2 : g_InR v2) {v3 : Int} (hv3 : g_InR v3) {v4 : Int} (hv4 : g_InR v4) {v5 : Int} (hv5 : g_InR v5) (h : g_ok M → ((0 < v5 → g_O M a0 12 ∧ ∃ b13, g_r M a0 22 = some b13 ∧ g_InR (v5 - 1) ∧ ∃ n16, g_A M b13 1 n16 ∧ ((0 : Int) ≤ v5 - 1 ∧ (v5 - 1 : Int) < n16) ∧ g_Call d 357 [.ref a0, g_n v1, g_n v2, g_n v4, g_n (g_i M b13 (v5 - 1))] M (g_qI fun r22 M19 => g_ext M M19 → g_ok M19 → g_InR r22 → ((r22 < 0 → ∃ b34, g_r M19 a0 22 = some b34 ∧ ∃ b36, g_r M19 a0 22 = some b36 ∧ g_InR (v5 - 1) ∧ ∃ n39, g_A M19 b36 1 n39 ∧ ((0 : Int) ≤ v5 - 1 ∧ (v5 - 1 : Int) < n39) ∧ ∃ n42, g_A M19 b34 1 n42 ∧ ((0 : Int) ≤ v5 ∧ (v5 : Int) < n42) ∧ (∀ M45, M45 = g_wi M19 b34 v5 (g_i M19 b36 (v5 - 1)) → g_ok M45 → g_InR (v5 + (-1)) ∧ g_Run d 356 229 [(0, .ref a0), (1, g_n v1), (2, g_n v2), (3, g_n v3), (4, g_n v4), (5, g_n (v5 + (-1)))] [] M45 (g_qI Q))) ∧ (¬ r22 < 0 → ∃ b24, g_r M19 a0 22 = some b24 ∧ ∃ n26, g_A M19 b24 1 n26 ∧ ((0 : Int) ≤ v5 ∧ (v5 : Int) < n26) ∧ (∀ M29, M29 = g_wi M19 b24 v5 v4 → g_ok M29 → g_InR (v3 + 1) ∧ g_Run d 356 210 [(0, .ref a0), (1, g_n v1), (2, g_n v2), (3, g_n (v3 + 1))] [] M29 (g_qI Q)))))) ∧ (¬ 0 < v5 → g_O M a0 12 ∧ ∃ b2, g_r M a0 22 = some b2 ∧ ∃ n4, g_A M b2 1 n4 ∧ ((0 : Int) ≤ v5 ∧ (v5 : Int) < n4) ∧ (∀ M7, M7 = g_wi M b2 v5 v4 → g_ok M7 → g_InR (v3 + 1) ∧ g_Run d 356 210 [(0, .ref a0), (1, g_n v1), (2, g_n v2), (3, g_n (v3 + 1))] [] M7 (g_qI Q))))) : g_Run d 356 229 [(0, .ref a0), (1, g_n v1), (2, g_n v2), (3, g_n v3), (4, g_n v4), (5, g_n v5)] [] M (g_qI Q) := by
  refine g_Run.ok fun hok => ?_
  replace h := h hok
  refine r_iload x_356_229 rfl ?_
  refine r_if_le x_356_231 (t := 276) (by decide +kernel) hv5 (fun hc => ?_) (fun hc => ?_)
  · replace h := h.2 hc
    refine r_aload_n x_356_276 rfl ?_
    obtain ⟨hO1, h⟩ := h
    obtain ⟨b2, hb3, h⟩ := h
    refine r_getR x_356_277 rfl (ci := 12) (k := 22) (ns := 0) (by decide +kernel) (by decide) rfl (kz := 22) rfl hO1 hb3 ?_
    refine r_iload x_356_280 rfl ?_
    refine r_iload x_356_282 rfl ?_
    obtain ⟨n4, hA5, h⟩ := h
    obtain ⟨h6, h⟩ := h
    refine r_iast x_356_284 hA5 hv5 h6.1 h6.2 hv4 ?_
    obtain ⟨M7, hM8⟩ : ∃ Mz, Mz = g_wi M b2 v5 v4 := ⟨_, rfl⟩
    rw [← hM8]
    refine g_Run.ok fun hok9 => ?_
    replace h := h M7 hM8 hok9
    have hx10 := g_extW hM8
    replace hO1 := hO1.up hx10
    replace hA5 := hA5.up hx10
    obtain ⟨h11, h⟩ := h
    refine r_iinc x_356_285 (by decide +kernel) rfl rfl (lv1 := [(0, .ref a0), (1, g_n v1), (2, g_n v2), (3, g_n (v3 + 1)), (4, g_n v4), (5, g_n v5)]) rfl ?_
    refine r_goto x_356_288 (t := 210) (by decide +kernel) ?_
    refine g_drop [0, 1, 2, 3] (lv1 := [(0, .ref a0), (1, g_n v1), (2, g_n v2), (3, g_n (v3 + 1))]) rfl ?_
    exact h
  · replace h := h.1 hc
    refine r_aload_n x_356_234 rfl ?_
    refine r_iload_n x_356_235 rfl ?_
    refine r_iload_n x_356_236 rfl ?_
    refine r_iload x_356_237 rfl ?_
    refine r_aload_n x_356_239 rfl ?_
    obtain ⟨hO12, h⟩ := h
    obtain ⟨b13, hb14, h⟩ := h
    refine r_getR x_356_240 rfl (ci := 12) (k := 22) (ns := 0) (by decide +kernel) (by decide) rfl (kz := 22) rfl hO12 hb14 ?_
    refine r_iload x_356_243 rfl ?_
    refine r_iconst x_356_245 ?_
    refine r_isub x_356_246 ?_
    obtain ⟨h15, h⟩ := h
    obtain ⟨n16, hA17, h⟩ := h
    obtain ⟨h18, h⟩ := h
    refine r_iald x_356_247 hA17 h15 h18.1 h18.2 ?_
    refine r_invV x_356_248 (z := 357) (ns := 0) (by decide +kernel) (as := [g_n v1, g_n v2, g_n v4, g_n (g_i M b13 (v5 - 1))]) (r := []) rfl rfl rfl hO12 rfl rfl ?_
    refine r_callI h fun r22 M19 hx20 hok21 hr23 h => ?_
    replace h := h hx20 hok21 hr23
    replace hO12 := hO12.up hx20
    replace hA17 := hA17.up hx20
    refine r_if_ge x_356_251 (t := 276) (by decide +kernel) hr23 (fun hc => ?_) (fun hc => ?_)
    · replace h := h.2 hc
      refine r_aload_n x_356_276 rfl ?_
      obtain ⟨b24, hb25, h⟩ := h
      refine r_getR x_356_277 rfl (ci := 12) (k := 22) (ns := 0) (by decide +kernel) (by decide) rfl (kz := 22) rfl hO12 hb25 ?_
      refine r_iload x_356_280 rfl ?_
      refine r_iload x_356_282 rfl ?_
      obtain ⟨n26, hA27, h⟩ := h
      obtain ⟨h28, h⟩ := h
      refine r_iast x_356_284 hA27 hv5 h28.1 h28.2 hv4 ?_
      obtain ⟨M29, hM30⟩ : ∃ Mz, Mz = g_wi M19 b24 v5 v4 := ⟨_, rfl⟩
      rw [← hM30]
      refine g_Run.ok fun hok31 => ?_
      replace h := h M29 hM30 hok31
      have hx32 := g_extW hM30
      replace hO12 := hO12.up hx32
      replace hA17 := hA17.up hx32
      replace hA27 := hA27.up hx32
      obtain ⟨h33, h⟩ := h
      refine r_iinc x_356_285 (by decide +kernel) rfl rfl (lv1 := [(0, .ref a0), (1, g_n v1), (2, g_n v2), (3, g_n (v3 + 1)), (4, g_n v4), (5, g_n v5)]) rfl ?_
      refine r_goto x_356_288 (t := 210) (by decide +kernel) ?_
      refine g_drop [0, 1, 2, 3] (lv1 := [(0, .ref a0), (1, g_n v1), (2, g_n v2), (3, g_n (v3 + 1))]) rfl ?_
      exact h
    · replace h := h.1 hc
      refine r_aload_n x_356_254 rfl ?_
      obtain ⟨b34, hb35, h⟩ := h
      refine r_getR x_356_255 rfl (ci := 12) (k := 22) (ns := 0) (by decide +kernel) (by decide) rfl (kz := 22) rfl hO12 hb35 ?_
      refine r_iload x_356_258 rfl ?_
      refine r_aload_n x_356_260 rfl ?_
      obtain ⟨b36, hb37, h⟩ := h
      refine r_getR x_356_261 rfl (ci := 12) (k := 22) (ns := 0) (by decide +kernel) (by decide) rfl (kz := 22) rfl hO12 hb37 ?_
      refine r_iload x_356_264 rfl ?_
      refine r_iconst x_356_266 ?_
      refine r_isub x_356_267 ?_
      obtain ⟨h38, h⟩ := h
      obtain ⟨n39, hA40, h⟩ := h
      obtain ⟨h41, h⟩ := h
      refine r_iald x_356_268 hA40 h38 h41.1 h41.2 ?_
      obtain ⟨n42, hA43, h⟩ := h
      obtain ⟨h44, h⟩ := h
      refine r_iast x_356_269 hA43 hv5 h44.1 h44.2 (hok21.1 _ _) ?_
      obtain ⟨M45, hM46⟩ : ∃ Mz, Mz = g_wi M19 b34 v5 (g_i M19 b36 (v5 - 1)) := ⟨_, rfl⟩
      rw [← hM46]
      refine g_Run.ok fun hok47 => ?_
      replace h := h M45 hM46 hok47
      have hx48 := g_extW hM46
      replace hO12 := hO12.up hx48
      replace hA17 := hA17.up hx48
      replace hA40 := hA40.up hx48
      replace hA43 := hA43.up hx48
      obtain ⟨h49, h⟩ := h
      refine r_iinc x_356_270 (by decide +kernel) rfl rfl (lv1 := [(0, .ref a0), (1, g_n v1), (2, g_n v2), (3, g_n v3), (4, g_n v4), (5, g_n (v5 + (-1)))]) rfl ?_
      refine r_goto x_356_273 (t := 229) (by decide +kernel) ?_
      exact h
theorem s_X12_sort_293 {d : Nat} {M : g_M} {Q : Int → g_M → Prop} {a0 : Nat} {v1 : Int} (hv1 : g_InR v1) {v2 : Int} (hv2 : g_InR v2) {v3 : Int} (hv3 : g_InR v3) (h : g_ok M → g_O M a0 12 ∧ ((v3 < g_i M a0 19 → ∃ b2, g_r M a0 22 = some b2 ∧ ∃ b4, g_r M a0 18 = some b4 ∧ ∃ b6, g_r M a0 22 = some b6 ∧ ∃ n8, g_A M b6 1 n8 ∧ ((0 : Int) ≤ v3 ∧ (v3 : Int) < n8) ∧ ∃ n11, g_A M b4 1 n11 ∧ ((0 : Int) ≤ g_i M b6 v3 ∧ (g_i M b6 v3 : Int) < n11) ∧ ∃ n14, g_A M b2 1 n14 ∧ ((0 : Int) ≤ v3 ∧ (v3 : Int) < n14) ∧ (∀ M17, M17 = g_wi M b2 v3 (g_i M b4 (g_i M b6 v3)) → g_ok M17 → g_InR (v3 + 1) ∧ g_Run d 356 293 [(0, .ref a0), (1, g_n v1), (2, g_n v2), (3, g_n (v3 + 1))] [] M17 (g_qI Q))) ∧ (¬ v3 < g_i M a0 19 → g_Run d 356 326 [(0, .ref a0), (1, g_n v1), (2, g_n v2), (3, g_n 0)] [] M (g_qI Q)))) : g_Run d 356 293 [(0, .ref a0), (1, g_n v1), (2, g_n v2), (3, g_n v3)] [] M (g_qI Q) := by
  refine g_Run.ok fun hok => ?_
  replace h := h hok
  refine r_iload_n x_356_293 rfl ?_
  refine r_aload_n x_356_294 rfl ?_
  obtain ⟨hO1, h⟩ := h
  refine r_getI x_356_295 rfl (ci := 12) (k := 19) (ns := 0) (by decide +kernel) (by decide) rfl (kz := 19) rfl hO1 ?_
  refine r_ic_ge x_356_298 (t := 324) (by decide +kernel) hv3 (hok.1 _ _) (fun hc => ?_) (fun hc => ?_)
  · replace h := h.2 hc
    refine r_iconst x_356_324 ?_
    refine r_istore_n x_356_325 (by decide +kernel) rfl (lv1 := [(0, .ref a0), (1, g_n v1), (2, g_n v2), (3, g_n 0)]) rfl ?_
    exact h
  · replace h := h.1 hc
    refine r_aload_n x_356_301 rfl ?_
    obtain ⟨b2, hb3, h⟩ := h
    refine r_getR x_356_302 rfl (ci := 12) (k := 22) (ns := 0) (by decide +kernel) (by decide) rfl (kz := 22) rfl hO1 hb3 ?_
    refine r_iload_n x_356_305 rfl ?_
    refine r_aload_n x_356_306 rfl ?_
    obtain ⟨b4, hb5, h⟩ := h
    refine r_getR x_356_307 rfl (ci := 12) (k := 18) (ns := 0) (by decide +kernel) (by decide) rfl (kz := 18) rfl hO1 hb5 ?_
    refine r_aload_n x_356_310 rfl ?_
    obtain ⟨b6, hb7, h⟩ := h
    refine r_getR x_356_311 rfl (ci := 12) (k := 22) (ns := 0) (by decide +kernel) (by decide) rfl (kz := 22) rfl hO1 hb7 ?_
    refine r_iload_n x_356_314 rfl ?_
    obtain ⟨n8, hA9, h⟩ := h
    obtain ⟨h10, h⟩ := h
    refine r_iald x_356_315 hA9 hv3 h10.1 h10.2 ?_
    obtain ⟨n11, hA12, h⟩ := h
    obtain ⟨h13, h⟩ := h
    refine r_iald x_356_316 hA12 (hok.1 _ _) h13.1 h13.2 ?_
    obtain ⟨n14, hA15, h⟩ := h
    obtain ⟨h16, h⟩ := h
    refine r_iast x_356_317 hA15 hv3 h16.1 h16.2 (hok.1 _ _) ?_
    obtain ⟨M17, hM18⟩ : ∃ Mz, Mz = g_wi M b2 v3 (g_i M b4 (g_i M b6 v3)) := ⟨_, rfl⟩
    rw [← hM18]
    refine g_Run.ok fun hok19 => ?_
    replace h := h M17 hM18 hok19
    have hx20 := g_extW hM18
    replace hO1 := hO1.up hx20
    replace hA9 := hA9.up hx20
    replace hA12 := hA12.up hx20
    replace hA15 := hA15.up hx20
    obtain ⟨h21, h⟩ := h
    refine r_iinc x_356_318 (by decide +kernel) rfl rfl (lv1 := [(0, .ref a0), (1, g_n v1), (2, g_n v2), (3, g_n (v3 + 1))]) rfl ?_
    refine r_goto x_356_321 (t := 293) (by decide +kernel) ?_
    exact h
theorem s_X12_sort_326 {d : Nat} {M : g_M} {Q : Int → g_M → Prop} {a0 : Nat} {v1 : Int} (hv1 : g_InR v1) {v2 : Int} (hv2 : g_InR v2) {v3 : Int} (hv3 : g_InR v3) (h : g_ok M → g_O M a0 12 ∧ ((v3 < g_i M a0 19 → ∃ b2, g_r M a0 18 = some b2 ∧ ∃ b4, g_r M a0 22 = some b4 ∧ ∃ n6, g_A M b4 1 n6 ∧ ((0 : Int) ≤ v3 ∧ (v3 : Int) < n6) ∧ ∃ n9, g_A M b2 1 n9 ∧ ((0 : Int) ≤ v3 ∧ (v3 : Int) < n9) ∧ (∀ M12, M12 = g_wi M b2 v3 (g_i M b4 v3) → g_ok M12 → g_InR (v3 + 1) ∧ g_Run d 356 326 [(0, .ref a0), (1, g_n v1), (2, g_n v2), (3, g_n (v3 + 1))] [] M12 (g_qI Q))) ∧ (¬ v3 < g_i M a0 19 → Q 0 M))) : g_Run d 356 326 [(0, .ref a0), (1, g_n v1), (2, g_n v2), (3, g_n v3)] [] M (g_qI Q) := by
  refine g_Run.ok fun hok => ?_
  replace h := h hok
  refine r_iload_n x_356_326 rfl ?_
  refine r_aload_n x_356_327 rfl ?_
  obtain ⟨hO1, h⟩ := h
  refine r_getI x_356_328 rfl (ci := 12) (k := 19) (ns := 0) (by decide +kernel) (by decide) rfl (kz := 19) rfl hO1 ?_
  refine r_ic_ge x_356_331 (t := 352) (by decide +kernel) hv3 (hok.1 _ _) (fun hc => ?_) (fun hc => ?_)
  · replace h := h.2 hc
    refine r_iconst x_356_352 ?_
    exact r_retI x_356_353 rfl (g_Rk rfl) h
  · replace h := h.1 hc
    refine r_aload_n x_356_334 rfl ?_
    obtain ⟨b2, hb3, h⟩ := h
    refine r_getR x_356_335 rfl (ci := 12) (k := 18) (ns := 0) (by decide +kernel) (by decide) rfl (kz := 18) rfl hO1 hb3 ?_
    refine r_iload_n x_356_338 rfl ?_
    refine r_aload_n x_356_339 rfl ?_
    obtain ⟨b4, hb5, h⟩ := h
    refine r_getR x_356_340 rfl (ci := 12) (k := 22) (ns := 0) (by decide +kernel) (by decide) rfl (kz := 22) rfl hO1 hb5 ?_
    refine r_iload_n x_356_343 rfl ?_
    obtain ⟨n6, hA7, h⟩ := h
    obtain ⟨h8, h⟩ := h
    refine r_iald x_356_344 hA7 hv3 h8.1 h8.2 ?_
    obtain ⟨n9, hA10, h⟩ := h
    obtain ⟨h11, h⟩ := h
    refine r_iast x_356_345 hA10 hv3 h11.1 h11.2 (hok.1 _ _) ?_
    obtain ⟨M12, hM13⟩ : ∃ Mz, Mz = g_wi M b2 v3 (g_i M b4 v3) := ⟨_, rfl⟩
    rw [← hM13]
    refine g_Run.ok fun hok14 => ?_
    replace h := h M12 hM13 hok14
    have hx15 := g_extW hM13
    replace hO1 := hO1.up hx15
    replace hA7 := hA7.up hx15
    replace hA10 := hA10.up hx15
    obtain ⟨h16, h⟩ := h
    refine r_iinc x_356_346 (by decide +kernel) rfl rfl (lv1 := [(0, .ref a0), (1, g_n v1), (2, g_n v2), (3, g_n (v3 + 1))]) rfl ?_
    refine r_goto x_356_349 (t := 326) (by decide +kernel) ?_
    exact h
theorem m_X12_compareKeys {d : Nat} {M : g_M} {Q : Int → g_M → Prop} {a0 : Nat} {v1 : Int} (hv1 : g_InR v1) {v2 : Int} (hv2 : g_InR v2) {v3 : Int} (hv3 : g_InR v3) {v4 : Int} (hv4 : g_InR v4) (h : g_ok M → g_Run d 357 3 [(0, .ref a0), (1, g_n v1), (2, g_n v2), (3, g_n v3), (4, g_n v4), (5, g_n 0)] [] M (g_qI Q)) : g_Call (d + 1) 357 [.ref a0, g_n v1, g_n v2, g_n v3, g_n v4] M (g_qI Q) := by
  refine g_Call.ok fun hok0 => ?_
  replace h := h hok0
  refine r_body rfl (lv := [(0, .ref a0), (1, g_n v1), (2, g_n v2), (3, g_n v3), (4, g_n v4)]) rfl ?_
  refine g_Run.ok fun hok => ?_
  refine r_iconst x_357_0 ?_
  refine r_istore x_357_1 (by decide +kernel) rfl (lv1 := [(0, .ref a0), (1, g_n v1), (2, g_n v2), (3, g_n v3), (4, g_n v4), (5, g_n 0)]) rfl ?_
  exact h
theorem s_X12_compareKeys_3 {d : Nat} {M : g_M} {Q : Int → g_M → Prop} {a0 : Nat} {v1 : Int} (hv1 : g_InR v1) {v2 : Int} (hv2 : g_InR v2) {v3 : Int} (hv3 : g_InR v3) {v4 : Int} (hv4 : g_InR v4) {v5 : Int} (hv5 : g_InR v5) (h : g_ok M → ((v5 < v2 → g_O M a0 12 ∧ ∃ b2, g_r M a0 34 = some b2 ∧ g_InR (4 * v3) ∧ g_InR ((4 * v3) + v5) ∧ ∃ n6, g_A M b2 1 n6 ∧ ((0 : Int) ≤ (4 * v3) + v5 ∧ ((4 * v3) + v5 : Int) < n6) ∧ ∃ b9, g_r M a0 34 = some b9 ∧ g_InR (4 * v4) ∧ g_InR ((4 * v4) + v5) ∧ ∃ n13, g_A M b9 1 n13 ∧ ((0 : Int) ≤ (4 * v4) + v5 ∧ ((4 * v4) + v5 : Int) < n13) ∧ g_Call d 269 [.ref a0, g_n (g_i M b2 ((4 * v3) + v5)), g_n (g_i M b9 ((4 * v4) + v5))] M (g_qI fun r19 M16 => g_ext M M16 → g_ok M16 → g_InR r19 → ((r19 = 0 → g_InR (v5 + 1) ∧ g_Run d 357 3 [(0, .ref a0), (1, g_n v1), (2, g_n v2), (3, g_n v3), (4, g_n v4), (5, g_n (v5 + 1))] [] M16 (g_qI Q)) ∧ (¬ r19 = 0 → g_Call d 241 [.ref a0, g_n v1, g_n v5] M16 (g_qI fun r25 M22 => g_ext M16 M22 → g_ok M22 → g_InR r25 → g_Call d 243 [.ref a0, g_n r25] M22 (g_qL fun R30 M27 => g_ext M22 M27 → g_ok M27 → ((0 < g_lc R30 0 → Q r19 M27) ∧ (¬ 0 < g_lc R30 0 → g_InR (-r19) ∧ Q (-r19) M27)))))))) ∧ (¬ v5 < v2 → Q 0 M))) : g_Run d 357 3 [(0, .ref a0), (1, g_n v1), (2, g_n v2), (3, g_n v3), (4, g_n v4), (5, g_n v5)] [] M (g_qI Q) := by
  refine g_Run.ok fun hok => ?_
  replace h := h hok
  refine r_iload x_357_3 rfl ?_
  refine r_iload_n x_357_5 rfl ?_
  refine r_ic_ge x_357_6 (t := 74) (by decide +kernel) hv5 hv2 (fun hc => ?_) (fun hc => ?_)
  · replace h := h.2 hc
    refine r_iconst x_357_74 ?_
    exact r_retI x_357_75 rfl (g_Rk rfl) h
  · replace h := h.1 hc
    refine r_aload_n x_357_9 rfl ?_
    refine r_aload_n x_357_10 rfl ?_
    obtain ⟨hO1, h⟩ := h
    obtain ⟨b2, hb3, h⟩ := h
    refine r_getR x_357_11 rfl (ci := 12) (k := 34) (ns := 0) (by decide +kernel) (by decide) rfl (kz := 34) rfl hO1 hb3 ?_
    refine r_iconst x_357_14 ?_
    refine r_iload_n x_357_15 rfl ?_
    refine r_imul x_357_16 ?_
    obtain ⟨h4, h⟩ := h
    refine r_iload x_357_17 rfl ?_
    refine r_iadd x_357_19 ?_
    obtain ⟨h5, h⟩ := h
    obtain ⟨n6, hA7, h⟩ := h
    obtain ⟨h8, h⟩ := h
    refine r_iald x_357_20 hA7 h5 h8.1 h8.2 ?_
    refine r_aload_n x_357_21 rfl ?_
    obtain ⟨b9, hb10, h⟩ := h
    refine r_getR x_357_22 rfl (ci := 12) (k := 34) (ns := 0) (by decide +kernel) (by decide) rfl (kz := 34) rfl hO1 hb10 ?_
    refine r_iconst x_357_25 ?_
    refine r_iload x_357_26 rfl ?_
    refine r_imul x_357_28 ?_
    obtain ⟨h11, h⟩ := h
    refine r_iload x_357_29 rfl ?_
    refine r_iadd x_357_31 ?_
    obtain ⟨h12, h⟩ := h
    obtain ⟨n13, hA14, h⟩ := h
    obtain ⟨h15, h⟩ := h
    refine r_iald x_357_32 hA14 h12 h15.1 h15.2 ?_
    refine r_invV x_357_33 (z := 269) (ns := 0) (by decide +kernel) (as := [g_n (g_i M b2 ((4 * v3) + v5)), g_n (g_i M b9 ((4 * v4) + v5))]) (r := []) rfl rfl rfl hO1 rfl rfl ?_
    refine r_callI h fun r19 M16 hx17 hok18 hr20 h => ?_
    replace h := h hx17 hok18 hr20
    replace hO1 := hO1.up hx17
    replace hA7 := hA7.up hx17
    replace hA14 := hA14.up hx17
    refine r_istore x_357_36 (by decide +kernel) rfl (lv1 := [(0, .ref a0), (1, g_n v1), (2, g_n v2), (3, g_n v3), (4, g_n v4), (5, g_n v5), (6, g_n r19)]) rfl ?_
    refine r_iload x_357_38 rfl ?_
    refine r_if_eq x_357_40 (t := 68) (by decide +kernel) hr20 (fun hc => ?_) (fun hc => ?_)
    · replace h := h.1 hc
      obtain ⟨h21, h⟩ := h
      refine r_iinc x_357_68 (by decide +kernel) rfl rfl (lv1 := [(0, .ref a0), (1, g_n v1), (2, g_n v2), (3, g_n v3), (4, g_n v4), (5, g_n (v5 + 1)), (6, g_n r19)]) rfl ?_
      refine r_goto x_357_71 (t := 3) (by decide +kernel) ?_
      refine g_drop [0, 1, 2, 3, 4, 5] (lv1 := [(0, .ref a0), (1, g_n v1), (2, g_n v2), (3, g_n v3), (4, g_n v4), (5, g_n (v5 + 1))]) rfl ?_
      exact h
    · replace h := h.2 hc
      refine r_aload_n x_357_43 rfl ?_
      refine r_aload_n x_357_44 rfl ?_
      refine r_iload_n x_357_45 rfl ?_
      refine r_iload x_357_46 rfl ?_
      refine r_invV x_357_48 (z := 241) (ns := 0) (by decide +kernel) (as := [g_n v1, g_n v5]) (r := [.ref a0]) rfl rfl rfl hO1 rfl rfl ?_
      refine r_callI h fun r25 M22 hx23 hok24 hr26 h => ?_
      replace h := h hx23 hok24 hr26
      replace hO1 := hO1.up hx23
      replace hA7 := hA7.up hx23
      replace hA14 := hA14.up hx23
      refine r_invV x_357_51 (z := 243) (ns := 0) (by decide +kernel) (as := [g_n r25]) (r := []) rfl rfl rfl hO1 rfl rfl ?_
      refine r_callL h fun R30 M27 hx28 hok29 h => ?_
      replace h := h hx28 hok29
      replace hO1 := hO1.up hx28
      replace hA7 := hA7.up hx28
      replace hA14 := hA14.up hx28
      refine r_lconst x_357_54 ?_
      show g_Run d 357 55 [(0, .ref a0), (1, g_n v1), (2, g_n v2), (3, g_n v3), (4, g_n v4), (5, g_n v5), (6, g_n r19)] [.long 0, .long R30] M27 _
      refine r_lcmp x_357_55 ?_
      refine r_if_le x_357_56 (t := 64) (by decide +kernel) (g_InR_toInt _) (fun hc => ?_) (fun hc => ?_)
      · replace h := h.2 hc
        refine r_iload x_357_64 rfl ?_
        refine r_ineg x_357_66 ?_
        obtain ⟨h31, h⟩ := h
        exact r_retI x_357_67 rfl h31 h
      · replace h := h.1 hc
        refine r_iload x_357_59 rfl ?_
        refine r_goto x_357_61 (t := 67) (by decide +kernel) ?_
        exact r_retI x_357_67 rfl hr20 h
theorem m_X12_pathOf {d : Nat} {M : g_M} {Q : Int → g_M → Prop} {a0 : Nat} {v1 : Int} (hv1 : g_InR v1) {v2 : Int} (hv2 : g_InR v2) (h : g_ok M → g_InR (2 * v1) ∧ g_InR ((2 * v1) + v2) ∧ g_InR (2000 * ((2 * v1) + v2)) ∧ g_InR (982000 + (2000 * ((2 * v1) + v2))) ∧ Q (982000 + (2000 * ((2 * v1) + v2))) M) : g_Call (d + 1) 358 [.ref a0, g_n v1, g_n v2] M (g_qI Q) := by
  refine g_Call.ok fun hok0 => ?_
  replace h := h hok0
  refine r_body rfl (lv := [(0, .ref a0), (1, g_n v1), (2, g_n v2)]) rfl ?_
  refine g_Run.ok fun hok => ?_
  refine r_ldcw x_358_0 (v := g_n 982000) rfl ?_
  refine r_sipush x_358_3 (x := 2000) rfl ?_
  refine r_iconst x_358_6 ?_
  refine r_iload_n x_358_7 rfl ?_
  refine r_imul x_358_8 ?_
  obtain ⟨h1, h⟩ := h
  refine r_iload_n x_358_9 rfl ?_
  refine r_iadd x_358_10 ?_
  obtain ⟨h2, h⟩ := h
  refine r_imul x_358_11 ?_
  obtain ⟨h3, h⟩ := h
  refine r_iadd x_358_12 ?_
  obtain ⟨h4, h⟩ := h
  exact r_retI x_358_13 rfl h4 h
theorem m_X12_addKey {d : Nat} {M : g_M} {Q : g_M → Prop} {a0 : Nat} {v1 : Int} (hv1 : g_InR v1) {v2 : Int} (hv2 : g_InR v2) (h : g_ok M → g_O M a0 12 ∧ g_Call d 233 [.ref a0, g_n v2] M (g_qI fun r5 M2 => g_ext M M2 → g_ok M2 → g_InR r5 → ∃ b7, g_r M2 a0 0 = some b7 ∧ ∃ n9, g_A M2 b7 0 n9 ∧ ((0 : Int) ≤ v2 ∧ (v2 : Int) < n9) ∧ g_Call d 234 [.ref a0, g_n (g_i M2 b7 v2), g_n r5] M2 (g_qI fun r15 M12 => g_ext M2 M12 → g_ok M12 → g_InR r15 → ((64 < r15 → (g_or (g_i M2 a0 40) 1 = 0 ∨ g_or (g_i M2 a0 40) 1 = 1) ∧ (∀ M23, M23 = g_wi M12 a0 40 (g_or (g_i M2 a0 40) 1) → g_ok M23 → g_Run d 359 39 [(0, .ref a0), (1, g_n v1), (2, g_n v2), (3, g_n r5), (4, g_n v1)] [] M23 (g_qV Q))) ∧ (¬ 64 < r15 → (g_or (g_i M2 a0 40) 0 = 0 ∨ g_or (g_i M2 a0 40) 0 = 1) ∧ (∀ M18, M18 = g_wi M12 a0 40 (g_or (g_i M2 a0 40) 0) → g_ok M18 → g_Run d 359 39 [(0, .ref a0), (1, g_n v1), (2, g_n v2), (3, g_n r5), (4, g_n v1)] [] M18 (g_qV Q))))))) : g_Call (d + 1) 359 [.ref a0, g_n v1, g_n v2] M (g_qV Q) := by
  refine g_Call.ok fun hok0 => ?_
  replace h := h hok0
  refine r_body rfl (lv := [(0, .ref a0), (1, g_n v1), (2, g_n v2)]) rfl ?_
  refine g_Run.ok fun hok => ?_
  refine r_aload_n x_359_0 rfl ?_
  refine r_iload_n x_359_1 rfl ?_
  obtain ⟨hO1, h⟩ := h
  refine r_invV x_359_2 (z := 233) (ns := 0) (by decide +kernel) (as := [g_n v2]) (r := []) rfl rfl rfl hO1 rfl rfl ?_
  refine r_callI h fun r5 M2 hx3 hok4 hr6 h => ?_
  replace h := h hx3 hok4 hr6
  replace hO1 := hO1.up hx3
  refine r_istore_n x_359_5 (by decide +kernel) rfl (lv1 := [(0, .ref a0), (1, g_n v1), (2, g_n v2), (3, g_n r5)]) rfl ?_
  refine r_aload_n x_359_6 rfl ?_
  refine r_dup x_359_7 rfl ?_
  refine r_getI x_359_8 rfl (ci := 12) (k := 40) (ns := 0) (by decide +kernel) (by decide) rfl (kz := 40) rfl hO1 ?_
  refine r_aload_n x_359_11 rfl ?_
  refine r_aload_n x_359_12 rfl ?_
  obtain ⟨b7, hb8, h⟩ := h
  refine r_getR x_359_13 rfl (ci := 12) (k := 0) (ns := 0) (by decide +kernel) (by decide) rfl (kz := 0) rfl hO1 hb8 ?_
  refine r_iload_n x_359_16 rfl ?_
  obtain ⟨n9, hA10, h⟩ := h
  obtain ⟨h11, h⟩ := h
  refine r_bald x_359_17 (Or.inl rfl) hA10 hv2 h11.1 h11.2 ?_
  refine r_iload_n x_359_18 rfl ?_
  refine r_invV x_359_19 (z := 234) (ns := 0) (by decide +kernel) (as := [g_n (g_i M2 b7 v2), g_n r5]) (r := [g_n (g_i M2 a0 40), .ref a0]) rfl rfl rfl hO1 rfl rfl ?_
  refine r_callI h fun r15 M12 hx13 hok14 hr16 h => ?_
  replace h := h hx13 hok14 hr16
  replace hO1 := hO1.up hx13
  replace hA10 := hA10.up hx13
  refine r_bipush x_359_22 (x := 64) rfl ?_
  refine r_ic_le x_359_24 (t := 31) (by decide +kernel) hr16 (g_Rk rfl) (fun hc => ?_) (fun hc => ?_)
  · replace h := h.2 hc
    refine r_iconst x_359_31 ?_
    refine r_ior x_359_32 ?_
    obtain ⟨h17, h⟩ := h
    refine r_putI x_359_33 (ci := 12) (k := 40) (ns := 0) (by decide +kernel) (by decide) (g_fZ h17 (by decide +kernel)) rfl (g_InR_toInt _) (g_zx h17 rfl).2 (kz := 40) rfl hO1 ?_
    obtain ⟨M18, hM19⟩ : ∃ Mz, Mz = g_wi M12 a0 40 (g_or (g_i M2 a0 40) 0) := ⟨_, rfl⟩
    rw [← hM19]
    refine g_Run.ok fun hok20 => ?_
    replace h := h M18 hM19 hok20
    have hx21 := g_extW hM19
    replace hO1 := hO1.up hx21
    replace hA10 := hA10.up hx21
    refine r_iload_n x_359_36 rfl ?_
    refine r_istore x_359_37 (by decide +kernel) rfl (lv1 := [(0, .ref a0), (1, g_n v1), (2, g_n v2), (3, g_n r5), (4, g_n v1)]) rfl ?_
    exact h
  · replace h := h.1 hc
    refine r_iconst x_359_27 ?_
    refine r_goto x_359_28 (t := 32) (by decide +kernel) ?_
    refine r_ior x_359_32 ?_
    obtain ⟨h22, h⟩ := h
    refine r_putI x_359_33 (ci := 12) (k := 40) (ns := 0) (by decide +kernel) (by decide) (g_fZ h22 (by decide +kernel)) rfl (g_InR_toInt _) (g_zx h22 rfl).2 (kz := 40) rfl hO1 ?_
    obtain ⟨M23, hM24⟩ : ∃ Mz, Mz = g_wi M12 a0 40 (g_or (g_i M2 a0 40) 1) := ⟨_, rfl⟩
    rw [← hM24]
    refine g_Run.ok fun hok25 => ?_
    replace h := h M23 hM24 hok25
    have hx26 := g_extW hM24
    replace hO1 := hO1.up hx26
    replace hA10 := hA10.up hx26
    refine r_iload_n x_359_36 rfl ?_
    refine r_istore x_359_37 (by decide +kernel) rfl (lv1 := [(0, .ref a0), (1, g_n v1), (2, g_n v2), (3, g_n r5), (4, g_n v1)]) rfl ?_
    exact h
theorem s_X12_addKey_39 {d : Nat} {M : g_M} {Q : g_M → Prop} {a0 : Nat} {v1 : Int} (hv1 : g_InR v1) {v2 : Int} (hv2 : g_InR v2) {v3 : Int} (hv3 : g_InR v3) {v4 : Int} (hv4 : g_InR v4) (h : g_ok M → g_O M a0 12 ∧ ((v4 < g_i M a0 10 → ∃ b5, g_r M a0 9 = some b5 ∧ ∃ n7, g_A M b5 1 n7 ∧ ((0 : Int) ≤ v4 ∧ (v4 : Int) < n7) ∧ g_Call d 271 [.ref a0, g_n (g_i M b5 v4), g_n v2] M (g_qI fun r13 M10 => g_ext M M10 → g_ok M10 → g_InR r13 → ((r13 = 0 → g_InR (v4 + 1) ∧ g_Run d 359 39 [(0, .ref a0), (1, g_n v1), (2, g_n v2), (3, g_n v3), (4, g_n (v4 + 1))] [] M10 (g_qV Q)) ∧ (¬ r13 = 0 → Q M10)))) ∧ (¬ v4 < g_i M a0 10 → g_Call d 277 [.ref a0, g_n v2] M (g_qV fun M2 => g_ext M M2 → g_ok M2 → Q M2)))) : g_Run d 359 39 [(0, .ref a0), (1, g_n v1), (2, g_n v2), (3, g_n v3), (4, g_n v4)] [] M (g_qV Q) := by
  refine g_Run.ok fun hok => ?_
  replace h := h hok
  refine r_iload x_359_39 rfl ?_
  refine r_aload_n x_359_41 rfl ?_
  obtain ⟨hO1, h⟩ := h
  refine r_getI x_359_42 rfl (ci := 12) (k := 10) (ns := 0) (by decide +kernel) (by decide) rfl (kz := 10) rfl hO1 ?_
  refine r_ic_ge x_359_45 (t := 70) (by decide +kernel) hv4 (hok.1 _ _) (fun hc => ?_) (fun hc => ?_)
  · replace h := h.2 hc
    refine r_aload_n x_359_70 rfl ?_
    refine r_iload_n x_359_71 rfl ?_
    refine r_invV x_359_72 (z := 277) (ns := 0) (by decide +kernel) (as := [g_n v2]) (r := []) rfl rfl rfl hO1 rfl rfl ?_
    refine r_callV h fun M2 hx3 hok4 h => ?_
    replace h := h hx3 hok4
    replace hO1 := hO1.up hx3
    exact r_retV x_359_75 rfl h
  · replace h := h.1 hc
    refine r_aload_n x_359_48 rfl ?_
    refine r_aload_n x_359_49 rfl ?_
    obtain ⟨b5, hb6, h⟩ := h
    refine r_getR x_359_50 rfl (ci := 12) (k := 9) (ns := 0) (by decide +kernel) (by decide) rfl (kz := 9) rfl hO1 hb6 ?_
    refine r_iload x_359_53 rfl ?_
    obtain ⟨n7, hA8, h⟩ := h
    obtain ⟨h9, h⟩ := h
    refine r_iald x_359_55 hA8 hv4 h9.1 h9.2 ?_
    refine r_iload_n x_359_56 rfl ?_
    refine r_invV x_359_57 (z := 271) (ns := 0) (by decide +kernel) (as := [g_n (g_i M b5 v4), g_n v2]) (r := []) rfl rfl rfl hO1 rfl rfl ?_
    refine r_callI h fun r13 M10 hx11 hok12 hr14 h => ?_
    replace h := h hx11 hok12 hr14
    replace hO1 := hO1.up hx11
    replace hA8 := hA8.up hx11
    refine r_if_eq x_359_60 (t := 64) (by decide +kernel) hr14 (fun hc => ?_) (fun hc => ?_)
    · replace h := h.1 hc
      obtain ⟨h15, h⟩ := h
      refine r_iinc x_359_64 (by decide +kernel) rfl rfl (lv1 := [(0, .ref a0), (1, g_n v1), (2, g_n v2), (3, g_n v3), (4, g_n (v4 + 1))]) rfl ?_
      refine r_goto x_359_67 (t := 39) (by decide +kernel) ?_
      exact h
    · replace h := h.2 hc
      exact r_retV x_359_63 rfl h
theorem m_X12_keys {d : Nat} {M : g_M} {Q : Int → g_M → Prop} {a0 : Nat} {v1 : Int} (hv1 : g_InR v1) {v2 : Int} (hv2 : g_InR v2) {v3 : Int} (hv3 : g_InR v3) (h : g_ok M → g_O M a0 12 ∧ g_Call d 279 [.ref a0, g_n v1, g_n v2, g_n v3] M (g_qV fun M2 => g_ext M M2 → g_ok M2 → g_Run d 360 23 [(0, .ref a0), (1, g_n v1), (2, g_n v2), (3, g_n v3), (4, g_n (g_i M a0 10)), (5, g_n (g_i M2 a0 10)), (6, g_n (g_i M a0 10))] [] M2 (g_qI Q))) : g_Call (d + 1) 360 [.ref a0, g_n v1, g_n v2, g_n v3] M (g_qI Q) := by
  refine g_Call.ok fun hok0 => ?_
  replace h := h hok0
  refine r_body rfl (lv := [(0, .ref a0), (1, g_n v1), (2, g_n v2), (3, g_n v3)]) rfl ?_
  refine g_Run.ok fun hok => ?_
  refine r_aload_n x_360_0 rfl ?_
  obtain ⟨hO1, h⟩ := h
  refine r_getI x_360_1 rfl (ci := 12) (k := 10) (ns := 0) (by decide +kernel) (by decide) rfl (kz := 10) rfl hO1 ?_
  refine r_istore x_360_4 (by decide +kernel) rfl (lv1 := [(0, .ref a0), (1, g_n v1), (2, g_n v2), (3, g_n v3), (4, g_n (g_i M a0 10))]) rfl ?_
  refine r_aload_n x_360_6 rfl ?_
  refine r_iload_n x_360_7 rfl ?_
  refine r_iload_n x_360_8 rfl ?_
  refine r_iload_n x_360_9 rfl ?_
  refine r_invV x_360_10 (z := 279) (ns := 0) (by decide +kernel) (as := [g_n v1, g_n v2, g_n v3]) (r := []) rfl rfl rfl hO1 rfl rfl ?_
  refine r_callV h fun M2 hx3 hok4 h => ?_
  replace h := h hx3 hok4
  replace hO1 := hO1.up hx3
  refine r_aload_n x_360_13 rfl ?_
  refine r_getI x_360_14 rfl (ci := 12) (k := 10) (ns := 0) (by decide +kernel) (by decide) rfl (kz := 10) rfl hO1 ?_
  refine r_istore x_360_17 (by decide +kernel) rfl (lv1 := [(0, .ref a0), (1, g_n v1), (2, g_n v2), (3, g_n v3), (4, g_n (g_i M a0 10)), (5, g_n (g_i M2 a0 10))]) rfl ?_
  refine r_iload x_360_19 rfl ?_
  refine r_istore x_360_21 (by decide +kernel) rfl (lv1 := [(0, .ref a0), (1, g_n v1), (2, g_n v2), (3, g_n v3), (4, g_n (g_i M a0 10)), (5, g_n (g_i M2 a0 10)), (6, g_n (g_i M a0 10))]) rfl ?_
  exact h
theorem s_X12_keys_23 {d : Nat} {M : g_M} {Q : Int → g_M → Prop} {a0 : Nat} {v1 : Int} (hv1 : g_InR v1) {v2 : Int} (hv2 : g_InR v2) {v3 : Int} (hv3 : g_InR v3) {v4 : Int} (hv4 : g_InR v4) {v5 : Int} (hv5 : g_InR v5) {v6 : Int} (hv6 : g_InR v6) (h : g_ok M → ((v6 < v5 → g_O M a0 12 ∧ ∃ b6, g_r M a0 9 = some b6 ∧ ∃ n8, g_A M b6 1 n8 ∧ ((0 : Int) ≤ v6 ∧ (v6 : Int) < n8) ∧ ((g_i M b6 v6 = (-1) → g_Call d 359 [.ref a0, g_n v5, g_n 2706200] M (g_qV fun M53 => g_ext M M53 → g_ok M53 → g_InR (v6 + 1) ∧ g_Run d 360 23 [(0, .ref a0), (1, g_n v1), (2, g_n v2), (3, g_n v3), (4, g_n v4), (5, g_n v5), (6, g_n (v6 + 1))] [] M53 (g_qI Q))) ∧ (¬ g_i M b6 v6 = (-1) → ∃ b11, g_r M a0 0 = some b11 ∧ ∃ n13, g_A M b11 0 n13 ∧ ((0 : Int) ≤ g_i M b6 v6 ∧ (g_i M b6 v6 : Int) < n13) ∧ ((g_i M b11 (g_i M b6 v6) = 4 → g_Call d 233 [.ref a0, g_n (g_i M b6 v6)] M (g_qI fun r19 M16 => g_ext M M16 → g_ok M16 → g_InR r19 → g_Call d 239 [.ref a0, g_n r19] M16 (g_qI fun r24 M21 => g_ext M16 M21 → g_ok M21 → g_InR r24 → ((r24 = 0 → g_Call d 359 [.ref a0, g_n v5, g_n 2706200] M21 (g_qV fun M36 => g_ext M21 M36 → g_ok M36 → g_Call d 233 [.ref a0, g_n (g_i M b6 v6)] M36 (g_qI fun r42 M39 => g_ext M36 M39 → g_ok M39 → g_InR r42 → g_Call d 237 [g_n r42] M39 (g_qI fun r47 M44 => g_ext M39 M44 → g_ok M44 → g_InR r47 → g_Run d 360 110 [(0, .ref a0), (1, g_n v1), (2, g_n v2), (3, g_n v3), (4, g_n v4), (5, g_n v5), (6, g_n v6), (7, g_n (g_i M b6 v6)), (8, g_n r47)] [] M44 (g_qI Q))))) ∧ (¬ r24 = 0 → g_Call d 233 [.ref a0, g_n (g_i M b6 v6)] M21 (g_qI fun r29 M26 => g_ext M21 M26 → g_ok M26 → g_InR r29 → g_Call d 237 [g_n r29] M26 (g_qI fun r34 M31 => g_ext M26 M31 → g_ok M31 → g_InR r34 → g_Run d 360 110 [(0, .ref a0), (1, g_n v1), (2, g_n v2), (3, g_n v3), (4, g_n v4), (5, g_n v5), (6, g_n v6), (7, g_n (g_i M b6 v6)), (8, g_n r34)] [] M31 (g_qI Q)))))))) ∧ (¬ g_i M b11 (g_i M b6 v6) = 4 → g_Call d 359 [.ref a0, g_n v5, g_n (g_i M b6 v6)] M (g_qV fun M49 => g_ext M M49 → g_ok M49 → g_InR (v6 + 1) ∧ g_Run d 360 23 [(0, .ref a0), (1, g_n v1), (2, g_n v2), (3, g_n v3), (4, g_n v4), (5, g_n v5), (6, g_n (v6 + 1))] [] M49 (g_qI Q))))))) ∧ (¬ v6 < v5 → ((v5 = v4 → g_O M a0 12 ∧ g_Call d 359 [.ref a0, g_n v5, g_n 2706200] M (g_qV fun M2 => g_ext M M2 → g_ok M2 → Q v5 M2)) ∧ (¬ v5 = v4 → Q v5 M))))) : g_Run d 360 23 [(0, .ref a0), (1, g_n v1), (2, g_n v2), (3, g_n v3), (4, g_n v4), (5, g_n v5), (6, g_n v6)] [] M (g_qI Q) := by
  refine g_Run.ok fun hok => ?_
  replace h := h hok
  refine r_iload x_360_23 rfl ?_
  refine r_iload x_360_25 rfl ?_
  refine r_ic_ge x_360_27 (t := 150) (by decide +kernel) hv6 hv5 (fun hc => ?_) (fun hc => ?_)
  · replace h := h.2 hc
    refine r_iload x_360_150 rfl ?_
    refine r_iload x_360_152 rfl ?_
    refine r_ic_ne x_360_154 (t := 165) (by decide +kernel) hv5 hv4 (fun hc => ?_) (fun hc => ?_)
    · replace h := h.2 hc
      refine r_iload x_360_165 rfl ?_
      exact r_retI x_360_167 rfl hv5 h
    · replace h := h.1 hc
      refine r_aload_n x_360_157 rfl ?_
      refine r_iload x_360_158 rfl ?_
      refine r_ldc x_360_160 (v := g_n 2706200) rfl ?_
      obtain ⟨hO1, h⟩ := h
      refine r_invV x_360_162 (z := 359) (ns := 0) (by decide +kernel) (as := [g_n v5, g_n 2706200]) (r := []) rfl rfl rfl hO1 rfl rfl ?_
      refine r_callV h fun M2 hx3 hok4 h => ?_
      replace h := h hx3 hok4
      replace hO1 := hO1.up hx3
      refine r_iload x_360_165 rfl ?_
      exact r_retI x_360_167 rfl hv5 h
  · replace h := h.1 hc
    refine r_aload_n x_360_30 rfl ?_
    obtain ⟨hO5, h⟩ := h
    obtain ⟨b6, hb7, h⟩ := h
    refine r_getR x_360_31 rfl (ci := 12) (k := 9) (ns := 0) (by decide +kernel) (by decide) rfl (kz := 9) rfl hO5 hb7 ?_
    refine r_iload x_360_34 rfl ?_
    obtain ⟨n8, hA9, h⟩ := h
    obtain ⟨h10, h⟩ := h
    refine r_iald x_360_36 hA9 hv6 h10.1 h10.2 ?_
    refine r_istore x_360_37 (by decide +kernel) rfl (lv1 := [(0, .ref a0), (1, g_n v1), (2, g_n v2), (3, g_n v3), (4, g_n v4), (5, g_n v5), (6, g_n v6), (7, g_n (g_i M b6 v6))]) rfl ?_
    refine r_iload x_360_39 rfl ?_
    refine r_iconst x_360_41 ?_
    refine r_ic_ne x_360_42 (t := 56) (by decide +kernel) (hok.1 _ _) (g_Rk rfl) (fun hc => ?_) (fun hc => ?_)
    · replace h := h.2 hc
      refine r_aload_n x_360_56 rfl ?_
      obtain ⟨b11, hb12, h⟩ := h
      refine r_getR x_360_57 rfl (ci := 12) (k := 0) (ns := 0) (by decide +kernel) (by decide) rfl (kz := 0) rfl hO5 hb12 ?_
      refine r_iload x_360_60 rfl ?_
      obtain ⟨n13, hA14, h⟩ := h
      obtain ⟨h15, h⟩ := h
      refine r_bald x_360_62 (Or.inl rfl) hA14 (hok.1 _ _) h15.1 h15.2 ?_
      refine r_iconst x_360_63 ?_
      refine r_ic_eq x_360_64 (t := 78) (by decide +kernel) (hok.1 _ _) (g_Rk rfl) (fun hc => ?_) (fun hc => ?_)
      · replace h := h.1 hc
        refine r_aload_n x_360_78 rfl ?_
        refine r_aload_n x_360_79 rfl ?_
        refine r_iload x_360_80 rfl ?_
        refine r_invV x_360_82 (z := 233) (ns := 0) (by decide +kernel) (as := [g_n (g_i M b6 v6)]) (r := [.ref a0]) rfl rfl rfl hO5 rfl rfl ?_
        refine r_callI h fun r19 M16 hx17 hok18 hr20 h => ?_
        replace h := h hx17 hok18 hr20
        replace hO5 := hO5.up hx17
        replace hA9 := hA9.up hx17
        replace hA14 := hA14.up hx17
        refine r_invV x_360_85 (z := 239) (ns := 0) (by decide +kernel) (as := [g_n r19]) (r := []) rfl rfl rfl hO5 rfl rfl ?_
        refine r_callI h fun r24 M21 hx22 hok23 hr25 h => ?_
        replace h := h hx22 hok23 hr25
        replace hO5 := hO5.up hx22
        replace hA9 := hA9.up hx22
        replace hA14 := hA14.up hx22
        refine r_if_ne x_360_88 (t := 99) (by decide +kernel) hr25 (fun hc => ?_) (fun hc => ?_)
        · replace h := h.2 hc
          refine r_aload_n x_360_99 rfl ?_
          refine r_iload x_360_100 rfl ?_
          refine r_invV x_360_102 (z := 233) (ns := 0) (by decide +kernel) (as := [g_n (g_i M b6 v6)]) (r := []) rfl rfl rfl hO5 rfl rfl ?_
          refine r_callI h fun r29 M26 hx27 hok28 hr30 h => ?_
          replace h := h hx27 hok28 hr30
          replace hO5 := hO5.up hx27
          replace hA9 := hA9.up hx27
          replace hA14 := hA14.up hx27
          refine r_invS x_360_105 (z := 237) (ns := 0) (by decide +kernel) (as := [g_n r29]) (r := []) rfl rfl rfl ?_
          refine r_callI h fun r34 M31 hx32 hok33 hr35 h => ?_
          replace h := h hx32 hok33 hr35
          replace hO5 := hO5.up hx32
          replace hA9 := hA9.up hx32
          replace hA14 := hA14.up hx32
          refine r_istore x_360_108 (by decide +kernel) rfl (lv1 := [(0, .ref a0), (1, g_n v1), (2, g_n v2), (3, g_n v3), (4, g_n v4), (5, g_n v5), (6, g_n v6), (7, g_n (g_i M b6 v6)), (8, g_n r34)]) rfl ?_
          exact h
        · replace h := h.1 hc
          refine r_aload_n x_360_91 rfl ?_
          refine r_iload x_360_92 rfl ?_
          refine r_ldc x_360_94 (v := g_n 2706200) rfl ?_
          refine r_invV x_360_96 (z := 359) (ns := 0) (by decide +kernel) (as := [g_n v5, g_n 2706200]) (r := []) rfl rfl rfl hO5 rfl rfl ?_
          refine r_callV h fun M36 hx37 hok38 h => ?_
          replace h := h hx37 hok38
          replace hO5 := hO5.up hx37
          replace hA9 := hA9.up hx37
          replace hA14 := hA14.up hx37
          refine r_aload_n x_360_99 rfl ?_
          refine r_iload x_360_100 rfl ?_
          refine r_invV x_360_102 (z := 233) (ns := 0) (by decide +kernel) (as := [g_n (g_i M b6 v6)]) (r := []) rfl rfl rfl hO5 rfl rfl ?_
          refine r_callI h fun r42 M39 hx40 hok41 hr43 h => ?_
          replace h := h hx40 hok41 hr43
          replace hO5 := hO5.up hx40
          replace hA9 := hA9.up hx40
          replace hA14 := hA14.up hx40
          refine r_invS x_360_105 (z := 237) (ns := 0) (by decide +kernel) (as := [g_n r42]) (r := []) rfl rfl rfl ?_
          refine r_callI h fun r47 M44 hx45 hok46 hr48 h => ?_
          replace h := h hx45 hok46 hr48
          replace hO5 := hO5.up hx45
          replace hA9 := hA9.up hx45
          replace hA14 := hA14.up hx45
          refine r_istore x_360_108 (by decide +kernel) rfl (lv1 := [(0, .ref a0), (1, g_n v1), (2, g_n v2), (3, g_n v3), (4, g_n v4), (5, g_n v5), (6, g_n v6), (7, g_n (g_i M b6 v6)), (8, g_n r47)]) rfl ?_
          exact h
      · replace h := h.2 hc
        refine r_aload_n x_360_67 rfl ?_
        refine r_iload x_360_68 rfl ?_
        refine r_iload x_360_70 rfl ?_
        refine r_invV x_360_72 (z := 359) (ns := 0) (by decide +kernel) (as := [g_n v5, g_n (g_i M b6 v6)]) (r := []) rfl rfl rfl hO5 rfl rfl ?_
        refine r_callV h fun M49 hx50 hok51 h => ?_
        replace h := h hx50 hok51
        replace hO5 := hO5.up hx50
        replace hA9 := hA9.up hx50
        replace hA14 := hA14.up hx50
        refine r_goto x_360_75 (t := 144) (by decide +kernel) ?_
        obtain ⟨h52, h⟩ := h
        refine r_iinc x_360_144 (by decide +kernel) rfl rfl (lv1 := [(0, .ref a0), (1, g_n v1), (2, g_n v2), (3, g_n v3), (4, g_n v4), (5, g_n v5), (6, g_n (v6 + 1)), (7, g_n (g_i M b6 v6))]) rfl ?_
        refine r_goto x_360_147 (t := 23) (by decide +kernel) ?_
        refine g_drop [0, 1, 2, 3, 4, 5, 6] (lv1 := [(0, .ref a0), (1, g_n v1), (2, g_n v2), (3, g_n v3), (4, g_n v4), (5, g_n v5), (6, g_n (v6 + 1))]) rfl ?_
        exact h
    · replace h := h.1 hc
      refine r_aload_n x_360_45 rfl ?_
      refine r_iload x_360_46 rfl ?_
      refine r_ldc x_360_48 (v := g_n 2706200) rfl ?_
      refine r_invV x_360_50 (z := 359) (ns := 0) (by decide +kernel) (as := [g_n v5, g_n 2706200]) (r := []) rfl rfl rfl hO5 rfl rfl ?_
      refine r_callV h fun M53 hx54 hok55 h => ?_
      replace h := h hx54 hok55
      replace hO5 := hO5.up hx54
      replace hA9 := hA9.up hx54
      refine r_goto x_360_53 (t := 144) (by decide +kernel) ?_
      obtain ⟨h56, h⟩ := h
      refine r_iinc x_360_144 (by decide +kernel) rfl rfl (lv1 := [(0, .ref a0), (1, g_n v1), (2, g_n v2), (3, g_n v3), (4, g_n v4), (5, g_n v5), (6, g_n (v6 + 1)), (7, g_n (g_i M b6 v6))]) rfl ?_
      refine r_goto x_360_147 (t := 23) (by decide +kernel) ?_
      refine g_drop [0, 1, 2, 3, 4, 5, 6] (lv1 := [(0, .ref a0), (1, g_n v1), (2, g_n v2), (3, g_n v3), (4, g_n v4), (5, g_n v5), (6, g_n (v6 + 1))]) rfl ?_
      exact h
theorem s_X12_keys_110 {d : Nat} {M : g_M} {Q : Int → g_M → Prop} {a0 : Nat} {v1 : Int} (hv1 : g_InR v1) {v2 : Int} (hv2 : g_InR v2) {v3 : Int} (hv3 : g_InR v3) {v4 : Int} (hv4 : g_InR v4) {v5 : Int} (hv5 : g_InR v5) {v6 : Int} (hv6 : g_InR v6) {v7 : Int} (hv7 : g_InR v7) {v8 : Int} (hv8 : g_InR v8) (h : g_ok M → g_O M a0 12 ∧ g_Call d 233 [.ref a0, g_n v7] M (g_qI fun r5 M2 => g_ext M M2 → g_ok M2 → g_InR r5 → g_Call d 238 [.ref a0, g_n r5] M2 (g_qI fun r10 M7 => g_ext M2 M7 → g_ok M7 → g_InR r10 → ((v8 < r10 → g_Call d 359 [.ref a0, g_n v5, g_n v8] M7 (g_qV fun M13 => g_ext M7 M13 → g_ok M13 → g_Call d 235 [.ref a0, g_n v8] M13 (g_qI fun r19 M16 => g_ext M13 M16 → g_ok M16 → g_InR r19 → g_Run d 360 110 [(0, .ref a0), (1, g_n v1), (2, g_n v2), (3, g_n v3), (4, g_n v4), (5, g_n v5), (6, g_n v6), (7, g_n v7), (8, g_n r19)] [] M16 (g_qI Q)))) ∧ (¬ v8 < r10 → g_InR (v6 + 1) ∧ g_Run d 360 23 [(0, .ref a0), (1, g_n v1), (2, g_n v2), (3, g_n v3), (4, g_n v4), (5, g_n v5), (6, g_n (v6 + 1))] [] M7 (g_qI Q)))))) : g_Run d 360 110 [(0, .ref a0), (1, g_n v1), (2, g_n v2), (3, g_n v3), (4, g_n v4), (5, g_n v5), (6, g_n v6), (7, g_n v7), (8, g_n v8)] [] M (g_qI Q) := by
  refine g_Run.ok fun hok => ?_
  replace h := h hok
  refine r_iload x_360_110 rfl ?_
  refine r_aload_n x_360_112 rfl ?_
  refine r_aload_n x_360_113 rfl ?_
  refine r_iload x_360_114 rfl ?_
  obtain ⟨hO1, h⟩ := h
  refine r_invV x_360_116 (z := 233) (ns := 0) (by decide +kernel) (as := [g_n v7]) (r := [.ref a0, g_n v8]) rfl rfl rfl hO1 rfl rfl ?_
  refine r_callI h fun r5 M2 hx3 hok4 hr6 h => ?_
  replace h := h hx3 hok4 hr6
  replace hO1 := hO1.up hx3
  refine r_invV x_360_119 (z := 238) (ns := 0) (by decide +kernel) (as := [g_n r5]) (r := [g_n v8]) rfl rfl rfl hO1 rfl rfl ?_
  refine r_callI h fun r10 M7 hx8 hok9 hr11 h => ?_
  replace h := h hx8 hok9 hr11
  replace hO1 := hO1.up hx8
  refine r_ic_ge x_360_122 (t := 144) (by decide +kernel) hv8 hr11 (fun hc => ?_) (fun hc => ?_)
  · replace h := h.2 hc
    obtain ⟨h12, h⟩ := h
    refine r_iinc x_360_144 (by decide +kernel) rfl rfl (lv1 := [(0, .ref a0), (1, g_n v1), (2, g_n v2), (3, g_n v3), (4, g_n v4), (5, g_n v5), (6, g_n (v6 + 1)), (7, g_n v7), (8, g_n v8)]) rfl ?_
    refine r_goto x_360_147 (t := 23) (by decide +kernel) ?_
    refine g_drop [0, 1, 2, 3, 4, 5, 6] (lv1 := [(0, .ref a0), (1, g_n v1), (2, g_n v2), (3, g_n v3), (4, g_n v4), (5, g_n v5), (6, g_n (v6 + 1))]) rfl ?_
    exact h
  · replace h := h.1 hc
    refine r_aload_n x_360_125 rfl ?_
    refine r_iload x_360_126 rfl ?_
    refine r_iload x_360_128 rfl ?_
    refine r_invV x_360_130 (z := 359) (ns := 0) (by decide +kernel) (as := [g_n v5, g_n v8]) (r := []) rfl rfl rfl hO1 rfl rfl ?_
    refine r_callV h fun M13 hx14 hok15 h => ?_
    replace h := h hx14 hok15
    replace hO1 := hO1.up hx14
    refine r_aload_n x_360_133 rfl ?_
    refine r_iload x_360_134 rfl ?_
    refine r_invV x_360_136 (z := 235) (ns := 0) (by decide +kernel) (as := [g_n v8]) (r := []) rfl rfl rfl hO1 rfl rfl ?_
    refine r_callI h fun r19 M16 hx17 hok18 hr20 h => ?_
    replace h := h hx17 hok18 hr20
    replace hO1 := hO1.up hx17
    refine r_istore x_360_139 (by decide +kernel) rfl (lv1 := [(0, .ref a0), (1, g_n v1), (2, g_n v2), (3, g_n v3), (4, g_n v4), (5, g_n v5), (6, g_n v6), (7, g_n v7), (8, g_n r19)]) rfl ?_
    refine r_goto x_360_141 (t := 110) (by decide +kernel) ?_
    exact h
theorem m_X12_entriesOf {d : Nat} {M : g_M} {Q : Int → g_M → Prop} {a0 : Nat} {v1 : Int} (hv1 : g_InR v1) {v2 : Int} (hv2 : g_InR v2) (h : g_ok M → g_O M a0 12 ∧ g_Call d 358 [.ref a0, g_n v1, g_n 0] M (g_qI fun r5 M2 => g_ext M M2 → g_ok M2 → g_InR r5 → ∃ b7, g_r M2 a0 37 = some b7 ∧ g_InR (2 * v1) ∧ ∃ n10, g_A M2 b7 1 n10 ∧ ((0 : Int) ≤ 2 * v1 ∧ (2 * v1 : Int) < n10) ∧ g_Call d 360 [.ref a0, g_n v2, g_n r5, g_n (g_i M2 b7 (2 * v1))] M2 (g_qI fun r16 M13 => g_ext M2 M13 → g_ok M13 → g_InR r16 → g_InR ((g_i M13 a0 10) - r16) ∧ (∀ M19, M19 = g_wi M13 a0 42 ((g_i M13 a0 10) - r16) → g_ok M19 → ∃ b23, g_r M19 a0 36 = some b23 ∧ ∃ n25, g_A M19 b23 1 n25 ∧ ((0 : Int) ≤ v1 ∧ (v1 : Int) < n25) ∧ ((g_i M19 b23 v1 < 2 → (∀ M49, M49 = g_wi M19 a0 43 (g_i M19 a0 10) → g_ok M49 → g_Call d 277 [.ref a0, g_n 2706200] M49 (g_qV fun M53 => g_ext M49 M53 → g_ok M53 → g_Run d 361 82 [(0, .ref a0), (1, g_n v1), (2, g_n v2), (3, g_n r16)] [] M53 (g_qI Q)))) ∧ (¬ g_i M19 b23 v1 < 2 → g_Call d 358 [.ref a0, g_n v1, g_n 1] M19 (g_qI fun r31 M28 => g_ext M19 M28 → g_ok M28 → g_InR r31 → ∃ b33, g_r M28 a0 37 = some b33 ∧ g_InR (2 * v1) ∧ g_InR ((2 * v1) + 1) ∧ ∃ n37, g_A M28 b33 1 n37 ∧ ((0 : Int) ≤ (2 * v1) + 1 ∧ ((2 * v1) + 1 : Int) < n37) ∧ g_Call d 360 [.ref a0, g_n v2, g_n r31, g_n (g_i M28 b33 ((2 * v1) + 1))] M28 (g_qI fun r43 M40 => g_ext M28 M40 → g_ok M40 → g_InR r43 → (∀ M45, M45 = g_wi M40 a0 43 r43 → g_ok M45 → g_Run d 361 82 [(0, .ref a0), (1, g_n v1), (2, g_n v2), (3, g_n r16)] [] M45 (g_qI Q)))))))))) : g_Call (d + 1) 361 [.ref a0, g_n v1, g_n v2] M (g_qI Q) := by
  refine g_Call.ok fun hok0 => ?_
  replace h := h hok0
  refine r_body rfl (lv := [(0, .ref a0), (1, g_n v1), (2, g_n v2)]) rfl ?_
  refine g_Run.ok fun hok => ?_
  refine r_aload_n x_361_0 rfl ?_
  refine r_iload_n x_361_1 rfl ?_
  refine r_aload_n x_361_2 rfl ?_
  refine r_iload_n x_361_3 rfl ?_
  refine r_iconst x_361_4 ?_
  obtain ⟨hO1, h⟩ := h
  refine r_invV x_361_5 (z := 358) (ns := 0) (by decide +kernel) (as := [g_n v1, g_n 0]) (r := [g_n v2, .ref a0]) rfl rfl rfl hO1 rfl rfl ?_
  refine r_callI h fun r5 M2 hx3 hok4 hr6 h => ?_
  replace h := h hx3 hok4 hr6
  replace hO1 := hO1.up hx3
  refine r_aload_n x_361_8 rfl ?_
  obtain ⟨b7, hb8, h⟩ := h
  refine r_getR x_361_9 rfl (ci := 12) (k := 37) (ns := 0) (by decide +kernel) (by decide) rfl (kz := 37) rfl hO1 hb8 ?_
  refine r_iconst x_361_12 ?_
  refine r_iload_n x_361_13 rfl ?_
  refine r_imul x_361_14 ?_
  obtain ⟨h9, h⟩ := h
  obtain ⟨n10, hA11, h⟩ := h
  obtain ⟨h12, h⟩ := h
  refine r_iald x_361_15 hA11 h9 h12.1 h12.2 ?_
  refine r_invV x_361_16 (z := 360) (ns := 0) (by decide +kernel) (as := [g_n v2, g_n r5, g_n (g_i M2 b7 (2 * v1))]) (r := []) rfl rfl rfl hO1 rfl rfl ?_
  refine r_callI h fun r16 M13 hx14 hok15 hr17 h => ?_
  replace h := h hx14 hok15 hr17
  replace hO1 := hO1.up hx14
  replace hA11 := hA11.up hx14
  refine r_istore_n x_361_19 (by decide +kernel) rfl (lv1 := [(0, .ref a0), (1, g_n v1), (2, g_n v2), (3, g_n r16)]) rfl ?_
  refine r_aload_n x_361_20 rfl ?_
  refine r_aload_n x_361_21 rfl ?_
  refine r_getI x_361_22 rfl (ci := 12) (k := 10) (ns := 0) (by decide +kernel) (by decide) rfl (kz := 10) rfl hO1 ?_
  refine r_iload_n x_361_25 rfl ?_
  refine r_isub x_361_26 ?_
  obtain ⟨h18, h⟩ := h
  refine r_putI x_361_27 (ci := 12) (k := 42) (ns := 0) (by decide +kernel) (by decide) (g_f0 (by decide +kernel)) rfl h18 trivial (kz := 42) rfl hO1 ?_
  obtain ⟨M19, hM20⟩ : ∃ Mz, Mz = g_wi M13 a0 42 ((g_i M13 a0 10) - r16) := ⟨_, rfl⟩
  rw [← hM20]
  refine g_Run.ok fun hok21 => ?_
  replace h := h M19 hM20 hok21
  have hx22 := g_extW hM20
  replace hO1 := hO1.up hx22
  replace hA11 := hA11.up hx22
  refine r_aload_n x_361_30 rfl ?_
  obtain ⟨b23, hb24, h⟩ := h
  refine r_getR x_361_31 rfl (ci := 12) (k := 36) (ns := 0) (by decide +kernel) (by decide) rfl (kz := 36) rfl hO1 hb24 ?_
  refine r_iload_n x_361_34 rfl ?_
  obtain ⟨n25, hA26, h⟩ := h
  obtain ⟨h27, h⟩ := h
  refine r_iald x_361_35 hA26 hv1 h27.1 h27.2 ?_
  refine r_iconst x_361_36 ?_
  refine r_ic_ge x_361_37 (t := 57) (by decide +kernel) (hok21.1 _ _) (g_Rk rfl) (fun hc => ?_) (fun hc => ?_)
  · replace h := h.2 hc
    refine r_aload_n x_361_57 rfl ?_
    refine r_aload_n x_361_58 rfl ?_
    refine r_iload_n x_361_59 rfl ?_
    refine r_aload_n x_361_60 rfl ?_
    refine r_iload_n x_361_61 rfl ?_
    refine r_iconst x_361_62 ?_
    refine r_invV x_361_63 (z := 358) (ns := 0) (by decide +kernel) (as := [g_n v1, g_n 1]) (r := [g_n v2, .ref a0, .ref a0]) rfl rfl rfl hO1 rfl rfl ?_
    refine r_callI h fun r31 M28 hx29 hok30 hr32 h => ?_
    replace h := h hx29 hok30 hr32
    replace hO1 := hO1.up hx29
    replace hA11 := hA11.up hx29
    replace hA26 := hA26.up hx29
    refine r_aload_n x_361_66 rfl ?_
    obtain ⟨b33, hb34, h⟩ := h
    refine r_getR x_361_67 rfl (ci := 12) (k := 37) (ns := 0) (by decide +kernel) (by decide) rfl (kz := 37) rfl hO1 hb34 ?_
    refine r_iconst x_361_70 ?_
    refine r_iload_n x_361_71 rfl ?_
    refine r_imul x_361_72 ?_
    obtain ⟨h35, h⟩ := h
    refine r_iconst x_361_73 ?_
    refine r_iadd x_361_74 ?_
    obtain ⟨h36, h⟩ := h
    obtain ⟨n37, hA38, h⟩ := h
    obtain ⟨h39, h⟩ := h
    refine r_iald x_361_75 hA38 h36 h39.1 h39.2 ?_
    refine r_invV x_361_76 (z := 360) (ns := 0) (by decide +kernel) (as := [g_n v2, g_n r31, g_n (g_i M28 b33 ((2 * v1) + 1))]) (r := [.ref a0]) rfl rfl rfl hO1 rfl rfl ?_
    refine r_callI h fun r43 M40 hx41 hok42 hr44 h => ?_
    replace h := h hx41 hok42 hr44
    replace hO1 := hO1.up hx41
    replace hA11 := hA11.up hx41
    replace hA26 := hA26.up hx41
    replace hA38 := hA38.up hx41
    refine r_putI x_361_79 (ci := 12) (k := 43) (ns := 0) (by decide +kernel) (by decide) (g_f0 (by decide +kernel)) rfl hr44 trivial (kz := 43) rfl hO1 ?_
    obtain ⟨M45, hM46⟩ : ∃ Mz, Mz = g_wi M40 a0 43 r43 := ⟨_, rfl⟩
    rw [← hM46]
    refine g_Run.ok fun hok47 => ?_
    replace h := h M45 hM46 hok47
    have hx48 := g_extW hM46
    replace hO1 := hO1.up hx48
    replace hA11 := hA11.up hx48
    replace hA26 := hA26.up hx48
    replace hA38 := hA38.up hx48
    exact h
  · replace h := h.1 hc
    refine r_aload_n x_361_40 rfl ?_
    refine r_aload_n x_361_41 rfl ?_
    refine r_getI x_361_42 rfl (ci := 12) (k := 10) (ns := 0) (by decide +kernel) (by decide) rfl (kz := 10) rfl hO1 ?_
    refine r_putI x_361_45 (ci := 12) (k := 43) (ns := 0) (by decide +kernel) (by decide) (g_f0 (by decide +kernel)) rfl (hok21.1 _ _) trivial (kz := 43) rfl hO1 ?_
    obtain ⟨M49, hM50⟩ : ∃ Mz, Mz = g_wi M19 a0 43 (g_i M19 a0 10) := ⟨_, rfl⟩
    rw [← hM50]
    refine g_Run.ok fun hok51 => ?_
    replace h := h M49 hM50 hok51
    have hx52 := g_extW hM50
    replace hO1 := hO1.up hx52
    replace hA11 := hA11.up hx52
    replace hA26 := hA26.up hx52
    refine r_aload_n x_361_48 rfl ?_
    refine r_ldc x_361_49 (v := g_n 2706200) rfl ?_
    refine r_invV x_361_51 (z := 277) (ns := 0) (by decide +kernel) (as := [g_n 2706200]) (r := []) rfl rfl rfl hO1 rfl rfl ?_
    refine r_callV h fun M53 hx54 hok55 h => ?_
    replace h := h hx54 hok55
    replace hO1 := hO1.up hx54
    replace hA11 := hA11.up hx54
    replace hA26 := hA26.up hx54
    refine r_goto x_361_54 (t := 82) (by decide +kernel) ?_
    exact h
theorem s_X12_entriesOf_82 {d : Nat} {M : g_M} {Q : Int → g_M → Prop} {a0 : Nat} {v1 : Int} (hv1 : g_InR v1) {v2 : Int} (hv2 : g_InR v2) {v3 : Int} (hv3 : g_InR v3) (h : g_ok M → g_O M a0 12 ∧ (∀ M2, M2 = g_wi M a0 41 v3 → g_ok M2 → (∀ M6, M6 = g_wi M2 a0 44 (g_i M2 a0 10) → g_ok M6 → g_InR ((g_i M6 a0 44) - (g_i M6 a0 43)) ∧ g_InR ((g_i M6 a0 42) * ((g_i M6 a0 44) - (g_i M6 a0 43))) ∧ Q ((g_i M6 a0 42) * ((g_i M6 a0 44) - (g_i M6 a0 43))) M6))) : g_Run d 361 82 [(0, .ref a0), (1, g_n v1), (2, g_n v2), (3, g_n v3)] [] M (g_qI Q) := by
  refine g_Run.ok fun hok => ?_
  replace h := h hok
  refine r_aload_n x_361_82 rfl ?_
  refine r_iload_n x_361_83 rfl ?_
  obtain ⟨hO1, h⟩ := h
  refine r_putI x_361_84 (ci := 12) (k := 41) (ns := 0) (by decide +kernel) (by decide) (g_f0 (by decide +kernel)) rfl hv3 trivial (kz := 41) rfl hO1 ?_
  obtain ⟨M2, hM3⟩ : ∃ Mz, Mz = g_wi M a0 41 v3 := ⟨_, rfl⟩
  rw [← hM3]
  refine g_Run.ok fun hok4 => ?_
  replace h := h M2 hM3 hok4
  have hx5 := g_extW hM3
  replace hO1 := hO1.up hx5
  refine r_aload_n x_361_87 rfl ?_
  refine r_aload_n x_361_88 rfl ?_
  refine r_getI x_361_89 rfl (ci := 12) (k := 10) (ns := 0) (by decide +kernel) (by decide) rfl (kz := 10) rfl hO1 ?_
  refine r_putI x_361_92 (ci := 12) (k := 44) (ns := 0) (by decide +kernel) (by decide) (g_f0 (by decide +kernel)) rfl (hok4.1 _ _) trivial (kz := 44) rfl hO1 ?_
  obtain ⟨M6, hM7⟩ : ∃ Mz, Mz = g_wi M2 a0 44 (g_i M2 a0 10) := ⟨_, rfl⟩
  rw [← hM7]
  refine g_Run.ok fun hok8 => ?_
  replace h := h M6 hM7 hok8
  have hx9 := g_extW hM7
  replace hO1 := hO1.up hx9
  refine r_aload_n x_361_95 rfl ?_
  refine r_getI x_361_96 rfl (ci := 12) (k := 42) (ns := 0) (by decide +kernel) (by decide) rfl (kz := 42) rfl hO1 ?_
  refine r_aload_n x_361_99 rfl ?_
  refine r_getI x_361_100 rfl (ci := 12) (k := 44) (ns := 0) (by decide +kernel) (by decide) rfl (kz := 44) rfl hO1 ?_
  refine r_aload_n x_361_103 rfl ?_
  refine r_getI x_361_104 rfl (ci := 12) (k := 43) (ns := 0) (by decide +kernel) (by decide) rfl (kz := 43) rfl hO1 ?_
  refine r_isub x_361_107 ?_
  obtain ⟨h10, h⟩ := h
  refine r_imul x_361_108 ?_
  obtain ⟨h11, h⟩ := h
  exact r_retI x_361_109 rfl h11 h
theorem m_X12_marks {d : Nat} {M : g_M} {Q : g_M → Prop} {a0 : Nat} {v1 : Int} (hv1 : g_InR v1) {v2 : Int} (hv2 : g_InR v2) (h : g_ok M → g_O M a0 12 ∧ g_Call d 361 [.ref a0, g_n v1, g_n v2] M (g_qI fun r5 M2 => g_ext M M2 → g_ok M2 → g_InR r5 → ∃ b7, g_r M2 a0 39 = some b7 ∧ g_InR (2 * v1) ∧ ∃ n10, g_A M2 b7 2 n10 ∧ ((0 : Int) ≤ 2 * v1 ∧ (2 * v1 : Int) < n10) ∧ ((1 < g_i M2 a0 42 → g_Run d 362 34 [(0, .ref a0), (1, g_n v1), (2, g_n v2), (3, g_n (g_i M a0 10))] [g_n 1, g_n (g_i M2 b7 (2 * v1)), g_n (2 * v1), .ref b7] M2 (g_qV Q)) ∧ (¬ 1 < g_i M2 a0 42 → g_Run d 362 34 [(0, .ref a0), (1, g_n v1), (2, g_n v2), (3, g_n (g_i M a0 10))] [g_n 0, g_n (g_i M2 b7 (2 * v1)), g_n (2 * v1), .ref b7] M2 (g_qV Q))))) : g_Call (d + 1) 362 [.ref a0, g_n v1, g_n v2] M (g_qV Q) := by
  refine g_Call.ok fun hok0 => ?_
  replace h := h hok0
  refine r_body rfl (lv := [(0, .ref a0), (1, g_n v1), (2, g_n v2)]) rfl ?_
  refine g_Run.ok fun hok => ?_
  refine r_aload_n x_362_0 rfl ?_
  obtain ⟨hO1, h⟩ := h
  refine r_getI x_362_1 rfl (ci := 12) (k := 10) (ns := 0) (by decide +kernel) (by decide) rfl (kz := 10) rfl hO1 ?_
  refine r_istore_n x_362_4 (by decide +kernel) rfl (lv1 := [(0, .ref a0), (1, g_n v1), (2, g_n v2), (3, g_n (g_i M a0 10))]) rfl ?_
  refine r_aload_n x_362_5 rfl ?_
  refine r_iload_n x_362_6 rfl ?_
  refine r_iload_n x_362_7 rfl ?_
  refine r_invV x_362_8 (z := 361) (ns := 0) (by decide +kernel) (as := [g_n v1, g_n v2]) (r := []) rfl rfl rfl hO1 rfl rfl ?_
  refine r_callI h fun r5 M2 hx3 hok4 hr6 h => ?_
  replace h := h hx3 hok4 hr6
  replace hO1 := hO1.up hx3
  refine r_pop x_362_11 rfl ?_
  refine r_aload_n x_362_12 rfl ?_
  obtain ⟨b7, hb8, h⟩ := h
  refine r_getR x_362_13 rfl (ci := 12) (k := 39) (ns := 0) (by decide +kernel) (by decide) rfl (kz := 39) rfl hO1 hb8 ?_
  refine r_iconst x_362_16 ?_
  refine r_iload_n x_362_17 rfl ?_
  refine r_imul x_362_18 ?_
  obtain ⟨h9, h⟩ := h
  refine r_dup2 x_362_19 rfl rfl ?_
  obtain ⟨n10, hA11, h⟩ := h
  obtain ⟨h12, h⟩ := h
  refine r_bald x_362_20 (Or.inr rfl) hA11 h9 h12.1 h12.2 ?_
  refine r_aload_n x_362_21 rfl ?_
  refine r_getI x_362_22 rfl (ci := 12) (k := 42) (ns := 0) (by decide +kernel) (by decide) rfl (kz := 42) rfl hO1 ?_
  refine r_iconst x_362_25 ?_
  refine r_ic_le x_362_26 (t := 33) (by decide +kernel) (hok4.1 _ _) (g_Rk rfl) (fun hc => ?_) (fun hc => ?_)
  · replace h := h.2 hc
    refine r_iconst x_362_33 ?_
    exact h
  · replace h := h.1 hc
    refine r_iconst x_362_29 ?_
    refine r_goto x_362_30 (t := 34) (by decide +kernel) ?_
    exact h
theorem s_X12_marks_34 {d : Nat} {M : g_M} {Q : g_M → Prop} {a0 : Nat} {v1 : Int} (hv1 : g_InR v1) {v2 : Int} (hv2 : g_InR v2) {v3 : Int} (hv3 : g_InR v3) {w0 : Int} (hw0 : g_InR w0) {w1 : Int} (hw1 : g_InR w1) {w2 : Int} (hw2 : g_InR w2) {c3 : Nat} (h : g_ok M → ∃ n1, g_A M c3 2 n1 ∧ ((0 : Int) ≤ w2 ∧ (w2 : Int) < n1) ∧ (g_or w1 w0 = 0 ∨ g_or w1 w0 = 1) ∧ (∀ M5, M5 = g_wi M c3 w2 (g_or w1 w0) → g_ok M5 → g_O M5 a0 12 ∧ ∃ b10, g_r M5 a0 39 = some b10 ∧ g_InR (2 * v1) ∧ g_InR ((2 * v1) + 1) ∧ ∃ n14, g_A M5 b10 2 n14 ∧ ((0 : Int) ≤ (2 * v1) + 1 ∧ ((2 * v1) + 1 : Int) < n14) ∧ ∃ b17, g_r M5 a0 36 = some b17 ∧ ∃ n19, g_A M5 b17 1 n19 ∧ ((0 : Int) ≤ v1 ∧ (v1 : Int) < n19) ∧ ((1 < g_i M5 b17 v1 → g_InR ((g_i M5 a0 44) - (g_i M5 a0 43)) ∧ ((1 < (g_i M5 a0 44) - (g_i M5 a0 43) → ((0 : Int) ≤ (2 * v1) + 1 ∧ ((2 * v1) + 1 : Int) < n14) ∧ (g_or (g_i M5 b10 ((2 * v1) + 1)) 1 = 0 ∨ g_or (g_i M5 b10 ((2 * v1) + 1)) 1 = 1) ∧ (∀ M45, M45 = g_wi M5 b10 ((2 * v1) + 1) (g_or (g_i M5 b10 ((2 * v1) + 1)) 1) → g_ok M45 → (∀ M49, M49 = g_wi M45 a0 10 v3 → g_ok M49 → Q M49))) ∧ (¬ 1 < (g_i M5 a0 44) - (g_i M5 a0 43) → ((0 : Int) ≤ (2 * v1) + 1 ∧ ((2 * v1) + 1 : Int) < n14) ∧ (g_or (g_i M5 b10 ((2 * v1) + 1)) 0 = 0 ∨ g_or (g_i M5 b10 ((2 * v1) + 1)) 0 = 1) ∧ (∀ M35, M35 = g_wi M5 b10 ((2 * v1) + 1) (g_or (g_i M5 b10 ((2 * v1) + 1)) 0) → g_ok M35 → (∀ M39, M39 = g_wi M35 a0 10 v3 → g_ok M39 → Q M39))))) ∧ (¬ 1 < g_i M5 b17 v1 → ((0 : Int) ≤ (2 * v1) + 1 ∧ ((2 * v1) + 1 : Int) < n14) ∧ (g_or (g_i M5 b10 ((2 * v1) + 1)) 0 = 0 ∨ g_or (g_i M5 b10 ((2 * v1) + 1)) 0 = 1) ∧ (∀ M24, M24 = g_wi M5 b10 ((2 * v1) + 1) (g_or (g_i M5 b10 ((2 * v1) + 1)) 0) → g_ok M24 → (∀ M28, M28 = g_wi M24 a0 10 v3 → g_ok M28 → Q M28)))))) : g_Run d 362 34 [(0, .ref a0), (1, g_n v1), (2, g_n v2), (3, g_n v3)] [g_n w0, g_n w1, g_n w2, .ref c3] M (g_qV Q) := by
  refine g_Run.ok fun hok => ?_
  replace h := h hok
  refine r_ior x_362_34 ?_
  obtain ⟨n1, hA2, h⟩ := h
  obtain ⟨h3, h⟩ := h
  obtain ⟨h4, h⟩ := h
  refine r_bast2 x_362_35 hA2 hw2 h3.1 h3.2 h4 ?_
  obtain ⟨M5, hM6⟩ : ∃ Mz, Mz = g_wi M c3 w2 (g_or w1 w0) := ⟨_, rfl⟩
  rw [← hM6]
  refine g_Run.ok fun hok7 => ?_
  replace h := h M5 hM6 hok7
  have hx8 := g_extW hM6
  replace hA2 := hA2.up hx8
  refine r_aload_n x_362_36 rfl ?_
  obtain ⟨hO9, h⟩ := h
  obtain ⟨b10, hb11, h⟩ := h
  refine r_getR x_362_37 rfl (ci := 12) (k := 39) (ns := 0) (by decide +kernel) (by decide) rfl (kz := 39) rfl hO9 hb11 ?_
  refine r_iconst x_362_40 ?_
  refine r_iload_n x_362_41 rfl ?_
  refine r_imul x_362_42 ?_
  obtain ⟨h12, h⟩ := h
  refine r_iconst x_362_43 ?_
  refine r_iadd x_362_44 ?_
  obtain ⟨h13, h⟩ := h
  refine r_dup2 x_362_45 rfl rfl ?_
  obtain ⟨n14, hA15, h⟩ := h
  obtain ⟨h16, h⟩ := h
  refine r_bald x_362_46 (Or.inr rfl) hA15 h13 h16.1 h16.2 ?_
  refine r_aload_n x_362_47 rfl ?_
  obtain ⟨b17, hb18, h⟩ := h
  refine r_getR x_362_48 rfl (ci := 12) (k := 36) (ns := 0) (by decide +kernel) (by decide) rfl (kz := 36) rfl hO9 hb18 ?_
  refine r_iload_n x_362_51 rfl ?_
  obtain ⟨n19, hA20, h⟩ := h
  obtain ⟨h21, h⟩ := h
  refine r_iald x_362_52 hA20 hv1 h21.1 h21.2 ?_
  refine r_iconst x_362_53 ?_
  refine r_ic_le x_362_54 (t := 74) (by decide +kernel) (hok7.1 _ _) (g_Rk rfl) (fun hc => ?_) (fun hc => ?_)
  · replace h := h.2 hc
    refine r_iconst x_362_74 ?_
    refine r_ior x_362_75 ?_
    obtain ⟨h22, h⟩ := h
    obtain ⟨h23, h⟩ := h
    refine r_bast2 x_362_76 hA15 h13 h22.1 h22.2 h23 ?_
    obtain ⟨M24, hM25⟩ : ∃ Mz, Mz = g_wi M5 b10 ((2 * v1) + 1) (g_or (g_i M5 b10 ((2 * v1) + 1)) 0) := ⟨_, rfl⟩
    rw [← hM25]
    refine g_Run.ok fun hok26 => ?_
    replace h := h M24 hM25 hok26
    have hx27 := g_extW hM25
    replace hO9 := hO9.up hx27
    replace hA2 := hA2.up hx27
    replace hA15 := hA15.up hx27
    replace hA20 := hA20.up hx27
    refine r_aload_n x_362_77 rfl ?_
    refine r_iload_n x_362_78 rfl ?_
    refine r_putI x_362_79 (ci := 12) (k := 10) (ns := 0) (by decide +kernel) (by decide) (g_f0 (by decide +kernel)) rfl hv3 trivial (kz := 10) rfl hO9 ?_
    obtain ⟨M28, hM29⟩ : ∃ Mz, Mz = g_wi M24 a0 10 v3 := ⟨_, rfl⟩
    rw [← hM29]
    refine g_Run.ok fun hok30 => ?_
    replace h := h M28 hM29 hok30
    have hx31 := g_extW hM29
    replace hO9 := hO9.up hx31
    replace hA2 := hA2.up hx31
    replace hA15 := hA15.up hx31
    replace hA20 := hA20.up hx31
    exact r_retV x_362_82 rfl h
  · replace h := h.1 hc
    refine r_aload_n x_362_57 rfl ?_
    refine r_getI x_362_58 rfl (ci := 12) (k := 44) (ns := 0) (by decide +kernel) (by decide) rfl (kz := 44) rfl hO9 ?_
    refine r_aload_n x_362_61 rfl ?_
    refine r_getI x_362_62 rfl (ci := 12) (k := 43) (ns := 0) (by decide +kernel) (by decide) rfl (kz := 43) rfl hO9 ?_
    refine r_isub x_362_65 ?_
    obtain ⟨h32, h⟩ := h
    refine r_iconst x_362_66 ?_
    refine r_ic_le x_362_67 (t := 74) (by decide +kernel) h32 (g_Rk rfl) (fun hc => ?_) (fun hc => ?_)
    · replace h := h.2 hc
      refine r_iconst x_362_74 ?_
      refine r_ior x_362_75 ?_
      obtain ⟨h33, h⟩ := h
      obtain ⟨h34, h⟩ := h
      refine r_bast2 x_362_76 hA15 h13 h33.1 h33.2 h34 ?_
      obtain ⟨M35, hM36⟩ : ∃ Mz, Mz = g_wi M5 b10 ((2 * v1) + 1) (g_or (g_i M5 b10 ((2 * v1) + 1)) 0) := ⟨_, rfl⟩
      rw [← hM36]
      refine g_Run.ok fun hok37 => ?_
      replace h := h M35 hM36 hok37
      have hx38 := g_extW hM36
      replace hO9 := hO9.up hx38
      replace hA2 := hA2.up hx38
      replace hA15 := hA15.up hx38
      replace hA20 := hA20.up hx38
      refine r_aload_n x_362_77 rfl ?_
      refine r_iload_n x_362_78 rfl ?_
      refine r_putI x_362_79 (ci := 12) (k := 10) (ns := 0) (by decide +kernel) (by decide) (g_f0 (by decide +kernel)) rfl hv3 trivial (kz := 10) rfl hO9 ?_
      obtain ⟨M39, hM40⟩ : ∃ Mz, Mz = g_wi M35 a0 10 v3 := ⟨_, rfl⟩
      rw [← hM40]
      refine g_Run.ok fun hok41 => ?_
      replace h := h M39 hM40 hok41
      have hx42 := g_extW hM40
      replace hO9 := hO9.up hx42
      replace hA2 := hA2.up hx42
      replace hA15 := hA15.up hx42
      replace hA20 := hA20.up hx42
      exact r_retV x_362_82 rfl h
    · replace h := h.1 hc
      refine r_iconst x_362_70 ?_
      refine r_goto x_362_71 (t := 75) (by decide +kernel) ?_
      refine r_ior x_362_75 ?_
      obtain ⟨h43, h⟩ := h
      obtain ⟨h44, h⟩ := h
      refine r_bast2 x_362_76 hA15 h13 h43.1 h43.2 h44 ?_
      obtain ⟨M45, hM46⟩ : ∃ Mz, Mz = g_wi M5 b10 ((2 * v1) + 1) (g_or (g_i M5 b10 ((2 * v1) + 1)) 1) := ⟨_, rfl⟩
      rw [← hM46]
      refine g_Run.ok fun hok47 => ?_
      replace h := h M45 hM46 hok47
      have hx48 := g_extW hM46
      replace hO9 := hO9.up hx48
      replace hA2 := hA2.up hx48
      replace hA15 := hA15.up hx48
      replace hA20 := hA20.up hx48
      refine r_aload_n x_362_77 rfl ?_
      refine r_iload_n x_362_78 rfl ?_
      refine r_putI x_362_79 (ci := 12) (k := 10) (ns := 0) (by decide +kernel) (by decide) (g_f0 (by decide +kernel)) rfl hv3 trivial (kz := 10) rfl hO9 ?_
      obtain ⟨M49, hM50⟩ : ∃ Mz, Mz = g_wi M45 a0 10 v3 := ⟨_, rfl⟩
      rw [← hM50]
      refine g_Run.ok fun hok51 => ?_
      replace h := h M49 hM50 hok51
      have hx52 := g_extW hM50
      replace hO9 := hO9.up hx52
      replace hA2 := hA2.up hx52
      replace hA15 := hA15.up hx52
      replace hA20 := hA20.up hx52
      exact r_retV x_362_82 rfl h
theorem m_X12_keyAt {d : Nat} {M : g_M} {Q : Int → g_M → Prop} {a0 : Nat} {v1 : Int} (hv1 : g_InR v1) {v2 : Int} (hv2 : g_InR v2) {v3 : Int} (hv3 : g_InR v3) (h : g_ok M → g_InR (v1 * 1500) ∧ g_InR ((v1 * 1500) + v2) ∧ g_InR (((v1 * 1500) + v2) * 132) ∧ g_InR (1014000 + (((v1 * 1500) + v2) * 132)) ∧ g_InR (66 * v3) ∧ g_InR ((1014000 + (((v1 * 1500) + v2) * 132)) + (66 * v3)) ∧ Q ((1014000 + (((v1 * 1500) + v2) * 132)) + (66 * v3)) M) : g_Call (d + 1) 363 [.ref a0, g_n v1, g_n v2, g_n v3] M (g_qI Q) := by
  refine g_Call.ok fun hok0 => ?_
  replace h := h hok0
  refine r_body rfl (lv := [(0, .ref a0), (1, g_n v1), (2, g_n v2), (3, g_n v3)]) rfl ?_
  refine g_Run.ok fun hok => ?_
  refine r_ldcw x_363_0 (v := g_n 1014000) rfl ?_
  refine r_iload_n x_363_3 rfl ?_
  refine r_sipush x_363_4 (x := 1500) rfl ?_
  refine r_imul x_363_7 ?_
  obtain ⟨h1, h⟩ := h
  refine r_iload_n x_363_8 rfl ?_
  refine r_iadd x_363_9 ?_
  obtain ⟨h2, h⟩ := h
  refine r_sipush x_363_10 (x := 132) rfl ?_
  refine r_imul x_363_13 ?_
  obtain ⟨h3, h⟩ := h
  refine r_iadd x_363_14 ?_
  obtain ⟨h4, h⟩ := h
  refine r_bipush x_363_15 (x := 66) rfl ?_
  refine r_iload_n x_363_17 rfl ?_
  refine r_imul x_363_18 ?_
  obtain ⟨h5, h⟩ := h
  refine r_iadd x_363_19 ?_
  obtain ⟨h6, h⟩ := h
  exact r_retI x_363_20 rfl h6 h
theorem m_X12_newEntry {d : Nat} {M : g_M} {Q : Int → g_M → Prop} {a0 : Nat} {v1 : Int} (hv1 : g_InR v1) {v2 : Int} (hv2 : g_InR v2) {v3 : Int} (hv3 : g_InR v3) {v4 : Int} (hv4 : g_InR v4) (h : g_ok M → g_Run d 364 3 [(0, .ref a0), (1, g_n v1), (2, g_n v2), (3, g_n v3), (4, g_n v4), (5, g_n 0)] [] M (g_qI Q)) : g_Call (d + 1) 364 [.ref a0, g_n v1, g_n v2, g_n v3, g_n v4] M (g_qI Q) := by
  refine g_Call.ok fun hok0 => ?_
  replace h := h hok0
  refine r_body rfl (lv := [(0, .ref a0), (1, g_n v1), (2, g_n v2), (3, g_n v3), (4, g_n v4)]) rfl ?_
  refine g_Run.ok fun hok => ?_
  refine r_iconst x_364_0 ?_
  refine r_istore x_364_1 (by decide +kernel) rfl (lv1 := [(0, .ref a0), (1, g_n v1), (2, g_n v2), (3, g_n v3), (4, g_n v4), (5, g_n 0)]) rfl ?_
  exact h
theorem s_X12_newEntry_3 {d : Nat} {M : g_M} {Q : Int → g_M → Prop} {a0 : Nat} {v1 : Int} (hv1 : g_InR v1) {v2 : Int} (hv2 : g_InR v2) {v3 : Int} (hv3 : g_InR v3) {v4 : Int} (hv4 : g_InR v4) {v5 : Int} (hv5 : g_InR v5) (h : g_ok M → ((v5 < 1500 → g_O M a0 12 ∧ ∃ b6, g_r M a0 45 = some b6 ∧ g_InR (v1 * 1500) ∧ g_InR ((v1 * 1500) + v5) ∧ ∃ n10, g_A M b6 2 n10 ∧ ((0 : Int) ≤ (v1 * 1500) + v5 ∧ ((v1 * 1500) + v5 : Int) < n10) ∧ ((g_i M b6 ((v1 * 1500) + v5) = 0 → ((v5 = 1500 → g_Call d 365 [.ref a0, g_n v1] M (g_qV fun M13 => g_ext M M13 → g_ok M13 → g_Run d 364 49 [(0, .ref a0), (1, g_n v1), (2, g_n v2), (3, g_n v3), (4, g_n v4), (5, g_n 0)] [] M13 (g_qI Q))) ∧ (¬ v5 = 1500 → g_Run d 364 71 [(0, .ref a0), (1, g_n v1), (2, g_n v2), (3, g_n v3), (4, g_n v4), (5, g_n v5)] [] M (g_qI Q)))) ∧ (¬ g_i M b6 ((v1 * 1500) + v5) = 0 → g_InR (v5 + 1) ∧ g_Run d 364 3 [(0, .ref a0), (1, g_n v1), (2, g_n v2), (3, g_n v3), (4, g_n v4), (5, g_n (v5 + 1))] [] M (g_qI Q)))) ∧ (¬ v5 < 1500 → ((v5 = 1500 → g_O M a0 12 ∧ g_Call d 365 [.ref a0, g_n v1] M (g_qV fun M2 => g_ext M M2 → g_ok M2 → g_Run d 364 49 [(0, .ref a0), (1, g_n v1), (2, g_n v2), (3, g_n v3), (4, g_n v4), (5, g_n 0)] [] M2 (g_qI Q))) ∧ (¬ v5 = 1500 → g_Run d 364 71 [(0, .ref a0), (1, g_n v1), (2, g_n v2), (3, g_n v3), (4, g_n v4), (5, g_n v5)] [] M (g_qI Q)))))) : g_Run d 364 3 [(0, .ref a0), (1, g_n v1), (2, g_n v2), (3, g_n v3), (4, g_n v4), (5, g_n v5)] [] M (g_qI Q) := by
  refine g_Run.ok fun hok => ?_
  replace h := h hok
  refine r_iload x_364_3 rfl ?_
  refine r_sipush x_364_5 (x := 1500) rfl ?_
  refine r_ic_ge x_364_8 (t := 33) (by decide +kernel) hv5 (g_Rk rfl) (fun hc => ?_) (fun hc => ?_)
  · replace h := h.2 hc
    refine r_iload x_364_33 rfl ?_
    refine r_sipush x_364_35 (x := 1500) rfl ?_
    refine r_ic_ne x_364_38 (t := 71) (by decide +kernel) hv5 (g_Rk rfl) (fun hc => ?_) (fun hc => ?_)
    · replace h := h.2 hc
      exact h
    · replace h := h.1 hc
      refine r_aload_n x_364_41 rfl ?_
      refine r_iload_n x_364_42 rfl ?_
      obtain ⟨hO1, h⟩ := h
      refine r_invV x_364_43 (z := 365) (ns := 0) (by decide +kernel) (as := [g_n v1]) (r := []) rfl rfl rfl hO1 rfl rfl ?_
      refine r_callV h fun M2 hx3 hok4 h => ?_
      replace h := h hx3 hok4
      replace hO1 := hO1.up hx3
      refine r_iconst x_364_46 ?_
      refine r_istore x_364_47 (by decide +kernel) rfl (lv1 := [(0, .ref a0), (1, g_n v1), (2, g_n v2), (3, g_n v3), (4, g_n v4), (5, g_n 0)]) rfl ?_
      exact h
  · replace h := h.1 hc
    refine r_aload_n x_364_11 rfl ?_
    obtain ⟨hO5, h⟩ := h
    obtain ⟨b6, hb7, h⟩ := h
    refine r_getR x_364_12 rfl (ci := 12) (k := 45) (ns := 0) (by decide +kernel) (by decide) rfl (kz := 45) rfl hO5 hb7 ?_
    refine r_iload_n x_364_15 rfl ?_
    refine r_sipush x_364_16 (x := 1500) rfl ?_
    refine r_imul x_364_19 ?_
    obtain ⟨h8, h⟩ := h
    refine r_iload x_364_20 rfl ?_
    refine r_iadd x_364_22 ?_
    obtain ⟨h9, h⟩ := h
    obtain ⟨n10, hA11, h⟩ := h
    obtain ⟨h12, h⟩ := h
    refine r_bald x_364_23 (Or.inr rfl) hA11 h9 h12.1 h12.2 ?_
    refine r_if_eq x_364_24 (t := 33) (by decide +kernel) (hok.1 _ _) (fun hc => ?_) (fun hc => ?_)
    · replace h := h.1 hc
      refine r_iload x_364_33 rfl ?_
      refine r_sipush x_364_35 (x := 1500) rfl ?_
      refine r_ic_ne x_364_38 (t := 71) (by decide +kernel) hv5 (g_Rk rfl) (fun hc => ?_) (fun hc => ?_)
      · replace h := h.2 hc
        exact h
      · replace h := h.1 hc
        refine r_aload_n x_364_41 rfl ?_
        refine r_iload_n x_364_42 rfl ?_
        refine r_invV x_364_43 (z := 365) (ns := 0) (by decide +kernel) (as := [g_n v1]) (r := []) rfl rfl rfl hO5 rfl rfl ?_
        refine r_callV h fun M13 hx14 hok15 h => ?_
        replace h := h hx14 hok15
        replace hO5 := hO5.up hx14
        replace hA11 := hA11.up hx14
        refine r_iconst x_364_46 ?_
        refine r_istore x_364_47 (by decide +kernel) rfl (lv1 := [(0, .ref a0), (1, g_n v1), (2, g_n v2), (3, g_n v3), (4, g_n v4), (5, g_n 0)]) rfl ?_
        exact h
    · replace h := h.2 hc
      obtain ⟨h16, h⟩ := h
      refine r_iinc x_364_27 (by decide +kernel) rfl rfl (lv1 := [(0, .ref a0), (1, g_n v1), (2, g_n v2), (3, g_n v3), (4, g_n v4), (5, g_n (v5 + 1))]) rfl ?_
      refine r_goto x_364_30 (t := 3) (by decide +kernel) ?_
      exact h
theorem s_X12_newEntry_49 {d : Nat} {M : g_M} {Q : Int → g_M → Prop} {a0 : Nat} {v1 : Int} (hv1 : g_InR v1) {v2 : Int} (hv2 : g_InR v2) {v3 : Int} (hv3 : g_InR v3) {v4 : Int} (hv4 : g_InR v4) {v5 : Int} (hv5 : g_InR v5) (h : g_ok M → g_O M a0 12 ∧ ∃ b2, g_r M a0 45 = some b2 ∧ g_InR (v1 * 1500) ∧ g_InR ((v1 * 1500) + v5) ∧ ∃ n6, g_A M b2 2 n6 ∧ ((0 : Int) ≤ (v1 * 1500) + v5 ∧ ((v1 * 1500) + v5 : Int) < n6) ∧ ((g_i M b2 ((v1 * 1500) + v5) = 0 → g_Run d 364 71 [(0, .ref a0), (1, g_n v1), (2, g_n v2), (3, g_n v3), (4, g_n v4), (5, g_n v5)] [] M (g_qI Q)) ∧ (¬ g_i M b2 ((v1 * 1500) + v5) = 0 → g_InR (v5 + 1) ∧ g_Run d 364 49 [(0, .ref a0), (1, g_n v1), (2, g_n v2), (3, g_n v3), (4, g_n v4), (5, g_n (v5 + 1))] [] M (g_qI Q)))) : g_Run d 364 49 [(0, .ref a0), (1, g_n v1), (2, g_n v2), (3, g_n v3), (4, g_n v4), (5, g_n v5)] [] M (g_qI Q) := by
  refine g_Run.ok fun hok => ?_
  replace h := h hok
  refine r_aload_n x_364_49 rfl ?_
  obtain ⟨hO1, h⟩ := h
  obtain ⟨b2, hb3, h⟩ := h
  refine r_getR x_364_50 rfl (ci := 12) (k := 45) (ns := 0) (by decide +kernel) (by decide) rfl (kz := 45) rfl hO1 hb3 ?_
  refine r_iload_n x_364_53 rfl ?_
  refine r_sipush x_364_54 (x := 1500) rfl ?_
  refine r_imul x_364_57 ?_
  obtain ⟨h4, h⟩ := h
  refine r_iload x_364_58 rfl ?_
  refine r_iadd x_364_60 ?_
  obtain ⟨h5, h⟩ := h
  obtain ⟨n6, hA7, h⟩ := h
  obtain ⟨h8, h⟩ := h
  refine r_bald x_364_61 (Or.inr rfl) hA7 h5 h8.1 h8.2 ?_
  refine r_if_eq x_364_62 (t := 71) (by decide +kernel) (hok.1 _ _) (fun hc => ?_) (fun hc => ?_)
  · replace h := h.1 hc
    exact h
  · replace h := h.2 hc
    obtain ⟨h9, h⟩ := h
    refine r_iinc x_364_65 (by decide +kernel) rfl rfl (lv1 := [(0, .ref a0), (1, g_n v1), (2, g_n v2), (3, g_n v3), (4, g_n v4), (5, g_n (v5 + 1))]) rfl ?_
    refine r_goto x_364_68 (t := 49) (by decide +kernel) ?_
    exact h
theorem s_X12_newEntry_71 {d : Nat} {M : g_M} {Q : Int → g_M → Prop} {a0 : Nat} {v1 : Int} (hv1 : g_InR v1) {v2 : Int} (hv2 : g_InR v2) {v3 : Int} (hv3 : g_InR v3) {v4 : Int} (hv4 : g_InR v4) {v5 : Int} (hv5 : g_InR v5) (h : g_ok M → g_O M a0 12 ∧ ∃ b2, g_r M a0 45 = some b2 ∧ g_InR (v1 * 1500) ∧ g_InR ((v1 * 1500) + v5) ∧ ∃ n6, g_A M b2 2 n6 ∧ ((0 : Int) ≤ (v1 * 1500) + v5 ∧ ((v1 * 1500) + v5 : Int) < n6) ∧ (∀ M9, M9 = g_wi M b2 ((v1 * 1500) + v5) 1 → g_ok M9 → ∃ b13, g_r M9 a0 46 = some b13 ∧ g_InR (v1 * 1500) ∧ g_InR ((v1 * 1500) + v5) ∧ ∃ n17, g_A M9 b13 1 n17 ∧ ((0 : Int) ≤ (v1 * 1500) + v5 ∧ ((v1 * 1500) + v5 : Int) < n17) ∧ (∀ M20, M20 = g_wi M9 b13 ((v1 * 1500) + v5) v4 → g_ok M20 → g_Call d 363 [.ref a0, g_n v1, g_n v5, g_n 0] M20 (g_qI fun r27 M24 => g_ext M20 M24 → g_ok M24 → g_InR r27 → g_Call d 363 [.ref a0, g_n v1, g_n v5, g_n 1] M24 (g_qI fun r32 M29 => g_ext M24 M29 → g_ok M29 → g_InR r32 → g_Call d 245 [.ref a0, g_n r27, g_n r32] M29 (g_qV fun M34 => g_ext M29 M34 → g_ok M34 → ∃ b37, g_r M34 a0 0 = some b37 ∧ ∃ n39, g_A M34 b37 0 n39 ∧ ((0 : Int) ≤ v2 ∧ (v2 : Int) < n39) ∧ g_Call d 246 [.ref a0, g_n (g_i M34 b37 v2)] M34 (g_qV fun M42 => g_ext M34 M42 → g_ok M42 → g_Call d 246 [.ref a0, g_n 0] M42 (g_qV fun M45 => g_ext M42 M45 → g_ok M45 → g_Call d 253 [.ref a0, g_n v2] M45 (g_qV fun M48 => g_ext M45 M48 → g_ok M48 → g_Call d 363 [.ref a0, g_n v1, g_n v5, g_n 1] M48 (g_qI fun r54 M51 => g_ext M48 M51 → g_ok M51 → g_InR r54 → g_Call d 363 [.ref a0, g_n v1, g_n v5, g_n 1] M51 (g_qI fun r59 M56 => g_ext M51 M56 → g_ok M56 → g_InR r59 → g_InR (r59 + 66) ∧ g_Call d 245 [.ref a0, g_n r54, g_n (r59 + 66)] M56 (g_qV fun M62 => g_ext M56 M62 → g_ok M62 → ∃ b65, g_r M62 a0 0 = some b65 ∧ ∃ n67, g_A M62 b65 0 n67 ∧ ((0 : Int) ≤ v3 ∧ (v3 : Int) < n67) ∧ g_Call d 246 [.ref a0, g_n (g_i M62 b65 v3)] M62 (g_qV fun M70 => g_ext M62 M70 → g_ok M70 → g_Call d 246 [.ref a0, g_n 0] M70 (g_qV fun M73 => g_ext M70 M73 → g_ok M73 → g_Call d 253 [.ref a0, g_n v3] M73 (g_qV fun M76 => g_ext M73 M76 → g_ok M76 → Q v5 M76))))))))))))))) : g_Run d 364 71 [(0, .ref a0), (1, g_n v1), (2, g_n v2), (3, g_n v3), (4, g_n v4), (5, g_n v5)] [] M (g_qI Q) := by
  refine g_Run.ok fun hok => ?_
  replace h := h hok
  refine r_aload_n x_364_71 rfl ?_
  obtain ⟨hO1, h⟩ := h
  obtain ⟨b2, hb3, h⟩ := h
  refine r_getR x_364_72 rfl (ci := 12) (k := 45) (ns := 0) (by decide +kernel) (by decide) rfl (kz := 45) rfl hO1 hb3 ?_
  refine r_iload_n x_364_75 rfl ?_
  refine r_sipush x_364_76 (x := 1500) rfl ?_
  refine r_imul x_364_79 ?_
  obtain ⟨h4, h⟩ := h
  refine r_iload x_364_80 rfl ?_
  refine r_iadd x_364_82 ?_
  obtain ⟨h5, h⟩ := h
  refine r_iconst x_364_83 ?_
  obtain ⟨n6, hA7, h⟩ := h
  obtain ⟨h8, h⟩ := h
  refine r_bast2 x_364_84 hA7 h5 h8.1 h8.2 (Or.inr rfl) ?_
  obtain ⟨M9, hM10⟩ : ∃ Mz, Mz = g_wi M b2 ((v1 * 1500) + v5) 1 := ⟨_, rfl⟩
  rw [← hM10]
  refine g_Run.ok fun hok11 => ?_
  replace h := h M9 hM10 hok11
  have hx12 := g_extW hM10
  replace hO1 := hO1.up hx12
  replace hA7 := hA7.up hx12
  refine r_aload_n x_364_85 rfl ?_
  obtain ⟨b13, hb14, h⟩ := h
  refine r_getR x_364_86 rfl (ci := 12) (k := 46) (ns := 0) (by decide +kernel) (by decide) rfl (kz := 46) rfl hO1 hb14 ?_
  refine r_iload_n x_364_89 rfl ?_
  refine r_sipush x_364_90 (x := 1500) rfl ?_
  refine r_imul x_364_93 ?_
  obtain ⟨h15, h⟩ := h
  refine r_iload x_364_94 rfl ?_
  refine r_iadd x_364_96 ?_
  obtain ⟨h16, h⟩ := h
  refine r_iload x_364_97 rfl ?_
  obtain ⟨n17, hA18, h⟩ := h
  obtain ⟨h19, h⟩ := h
  refine r_iast x_364_99 hA18 h16 h19.1 h19.2 hv4 ?_
  obtain ⟨M20, hM21⟩ : ∃ Mz, Mz = g_wi M9 b13 ((v1 * 1500) + v5) v4 := ⟨_, rfl⟩
  rw [← hM21]
  refine g_Run.ok fun hok22 => ?_
  replace h := h M20 hM21 hok22
  have hx23 := g_extW hM21
  replace hO1 := hO1.up hx23
  replace hA7 := hA7.up hx23
  replace hA18 := hA18.up hx23
  refine r_aload_n x_364_100 rfl ?_
  refine r_aload_n x_364_101 rfl ?_
  refine r_iload_n x_364_102 rfl ?_
  refine r_iload x_364_103 rfl ?_
  refine r_iconst x_364_105 ?_
  refine r_invV x_364_106 (z := 363) (ns := 0) (by decide +kernel) (as := [g_n v1, g_n v5, g_n 0]) (r := [.ref a0]) rfl rfl rfl hO1 rfl rfl ?_
  refine r_callI h fun r27 M24 hx25 hok26 hr28 h => ?_
  replace h := h hx25 hok26 hr28
  replace hO1 := hO1.up hx25
  replace hA7 := hA7.up hx25
  replace hA18 := hA18.up hx25
  refine r_aload_n x_364_109 rfl ?_
  refine r_iload_n x_364_110 rfl ?_
  refine r_iload x_364_111 rfl ?_
  refine r_iconst x_364_113 ?_
  refine r_invV x_364_114 (z := 363) (ns := 0) (by decide +kernel) (as := [g_n v1, g_n v5, g_n 1]) (r := [g_n r27, .ref a0]) rfl rfl rfl hO1 rfl rfl ?_
  refine r_callI h fun r32 M29 hx30 hok31 hr33 h => ?_
  replace h := h hx30 hok31 hr33
  replace hO1 := hO1.up hx30
  replace hA7 := hA7.up hx30
  replace hA18 := hA18.up hx30
  refine r_invV x_364_117 (z := 245) (ns := 0) (by decide +kernel) (as := [g_n r27, g_n r32]) (r := []) rfl rfl rfl hO1 rfl rfl ?_
  refine r_callV h fun M34 hx35 hok36 h => ?_
  replace h := h hx35 hok36
  replace hO1 := hO1.up hx35
  replace hA7 := hA7.up hx35
  replace hA18 := hA18.up hx35
  refine r_aload_n x_364_120 rfl ?_
  refine r_aload_n x_364_121 rfl ?_
  obtain ⟨b37, hb38, h⟩ := h
  refine r_getR x_364_122 rfl (ci := 12) (k := 0) (ns := 0) (by decide +kernel) (by decide) rfl (kz := 0) rfl hO1 hb38 ?_
  refine r_iload_n x_364_125 rfl ?_
  obtain ⟨n39, hA40, h⟩ := h
  obtain ⟨h41, h⟩ := h
  refine r_bald x_364_126 (Or.inl rfl) hA40 hv2 h41.1 h41.2 ?_
  refine r_invV x_364_127 (z := 246) (ns := 0) (by decide +kernel) (as := [g_n (g_i M34 b37 v2)]) (r := []) rfl rfl rfl hO1 rfl rfl ?_
  refine r_callV h fun M42 hx43 hok44 h => ?_
  replace h := h hx43 hok44
  replace hO1 := hO1.up hx43
  replace hA7 := hA7.up hx43
  replace hA18 := hA18.up hx43
  replace hA40 := hA40.up hx43
  refine r_aload_n x_364_130 rfl ?_
  refine r_iconst x_364_131 ?_
  refine r_invV x_364_132 (z := 246) (ns := 0) (by decide +kernel) (as := [g_n 0]) (r := []) rfl rfl rfl hO1 rfl rfl ?_
  refine r_callV h fun M45 hx46 hok47 h => ?_
  replace h := h hx46 hok47
  replace hO1 := hO1.up hx46
  replace hA7 := hA7.up hx46
  replace hA18 := hA18.up hx46
  replace hA40 := hA40.up hx46
  refine r_aload_n x_364_135 rfl ?_
  refine r_iload_n x_364_136 rfl ?_
  refine r_invV x_364_137 (z := 253) (ns := 0) (by decide +kernel) (as := [g_n v2]) (r := []) rfl rfl rfl hO1 rfl rfl ?_
  refine r_callV h fun M48 hx49 hok50 h => ?_
  replace h := h hx49 hok50
  replace hO1 := hO1.up hx49
  replace hA7 := hA7.up hx49
  replace hA18 := hA18.up hx49
  replace hA40 := hA40.up hx49
  refine r_aload_n x_364_140 rfl ?_
  refine r_aload_n x_364_141 rfl ?_
  refine r_iload_n x_364_142 rfl ?_
  refine r_iload x_364_143 rfl ?_
  refine r_iconst x_364_145 ?_
  refine r_invV x_364_146 (z := 363) (ns := 0) (by decide +kernel) (as := [g_n v1, g_n v5, g_n 1]) (r := [.ref a0]) rfl rfl rfl hO1 rfl rfl ?_
  refine r_callI h fun r54 M51 hx52 hok53 hr55 h => ?_
  replace h := h hx52 hok53 hr55
  replace hO1 := hO1.up hx52
  replace hA7 := hA7.up hx52
  replace hA18 := hA18.up hx52
  replace hA40 := hA40.up hx52
  refine r_aload_n x_364_149 rfl ?_
  refine r_iload_n x_364_150 rfl ?_
  refine r_iload x_364_151 rfl ?_
  refine r_iconst x_364_153 ?_
  refine r_invV x_364_154 (z := 363) (ns := 0) (by decide +kernel) (as := [g_n v1, g_n v5, g_n 1]) (r := [g_n r54, .ref a0]) rfl rfl rfl hO1 rfl rfl ?_
  refine r_callI h fun r59 M56 hx57 hok58 hr60 h => ?_
  replace h := h hx57 hok58 hr60
  replace hO1 := hO1.up hx57
  replace hA7 := hA7.up hx57
  replace hA18 := hA18.up hx57
  replace hA40 := hA40.up hx57
  refine r_bipush x_364_157 (x := 66) rfl ?_
  refine r_iadd x_364_159 ?_
  obtain ⟨h61, h⟩ := h
  refine r_invV x_364_160 (z := 245) (ns := 0) (by decide +kernel) (as := [g_n r54, g_n (r59 + 66)]) (r := []) rfl rfl rfl hO1 rfl rfl ?_
  refine r_callV h fun M62 hx63 hok64 h => ?_
  replace h := h hx63 hok64
  replace hO1 := hO1.up hx63
  replace hA7 := hA7.up hx63
  replace hA18 := hA18.up hx63
  replace hA40 := hA40.up hx63
  refine r_aload_n x_364_163 rfl ?_
  refine r_aload_n x_364_164 rfl ?_
  obtain ⟨b65, hb66, h⟩ := h
  refine r_getR x_364_165 rfl (ci := 12) (k := 0) (ns := 0) (by decide +kernel) (by decide) rfl (kz := 0) rfl hO1 hb66 ?_
  refine r_iload_n x_364_168 rfl ?_
  obtain ⟨n67, hA68, h⟩ := h
  obtain ⟨h69, h⟩ := h
  refine r_bald x_364_169 (Or.inl rfl) hA68 hv3 h69.1 h69.2 ?_
  refine r_invV x_364_170 (z := 246) (ns := 0) (by decide +kernel) (as := [g_n (g_i M62 b65 v3)]) (r := []) rfl rfl rfl hO1 rfl rfl ?_
  refine r_callV h fun M70 hx71 hok72 h => ?_
  replace h := h hx71 hok72
  replace hO1 := hO1.up hx71
  replace hA7 := hA7.up hx71
  replace hA18 := hA18.up hx71
  replace hA40 := hA40.up hx71
  replace hA68 := hA68.up hx71
  refine r_aload_n x_364_173 rfl ?_
  refine r_iconst x_364_174 ?_
  refine r_invV x_364_175 (z := 246) (ns := 0) (by decide +kernel) (as := [g_n 0]) (r := []) rfl rfl rfl hO1 rfl rfl ?_
  refine r_callV h fun M73 hx74 hok75 h => ?_
  replace h := h hx74 hok75
  replace hO1 := hO1.up hx74
  replace hA7 := hA7.up hx74
  replace hA18 := hA18.up hx74
  replace hA40 := hA40.up hx74
  replace hA68 := hA68.up hx74
  refine r_aload_n x_364_178 rfl ?_
  refine r_iload_n x_364_179 rfl ?_
  refine r_invV x_364_180 (z := 253) (ns := 0) (by decide +kernel) (as := [g_n v3]) (r := []) rfl rfl rfl hO1 rfl rfl ?_
  refine r_callV h fun M76 hx77 hok78 h => ?_
  replace h := h hx77 hok78
  replace hO1 := hO1.up hx77
  replace hA7 := hA7.up hx77
  replace hA18 := hA18.up hx77
  replace hA40 := hA40.up hx77
  replace hA68 := hA68.up hx77
  refine r_iload x_364_183 rfl ?_
  exact r_retI x_364_185 rfl hv5 h
theorem m_X12_sweep {d : Nat} {M : g_M} {Q : g_M → Prop} {a0 : Nat} {v1 : Int} (hv1 : g_InR v1) (h : g_ok M → g_Run d 365 2 [(0, .ref a0), (1, g_n v1), (2, g_n 0)] [] M (g_qV Q)) : g_Call (d + 1) 365 [.ref a0, g_n v1] M (g_qV Q) := by
  refine g_Call.ok fun hok0 => ?_
  replace h := h hok0
  refine r_body rfl (lv := [(0, .ref a0), (1, g_n v1)]) rfl ?_
  refine g_Run.ok fun hok => ?_
  refine r_iconst x_365_0 ?_
  refine r_istore_n x_365_1 (by decide +kernel) rfl (lv1 := [(0, .ref a0), (1, g_n v1), (2, g_n 0)]) rfl ?_
  exact h
theorem s_X12_sweep_2 {d : Nat} {M : g_M} {Q : g_M → Prop} {a0 : Nat} {v1 : Int} (hv1 : g_InR v1) {v2 : Int} (hv2 : g_InR v2) (h : g_ok M → ((v2 < 1500 → g_O M a0 12 ∧ ∃ b2, g_r M a0 45 = some b2 ∧ g_InR (v1 * 1500) ∧ g_InR ((v1 * 1500) + v2) ∧ ∃ n6, g_A M b2 2 n6 ∧ ((0 : Int) ≤ (v1 * 1500) + v2 ∧ ((v1 * 1500) + v2 : Int) < n6) ∧ (∀ M9, M9 = g_wi M b2 ((v1 * 1500) + v2) 0 → g_ok M9 → g_InR (v2 + 1) ∧ g_Run d 365 2 [(0, .ref a0), (1, g_n v1), (2, g_n (v2 + 1))] [] M9 (g_qV Q))) ∧ (¬ v2 < 1500 → g_Run d 365 30 [(0, .ref a0), (1, g_n v1), (2, g_n 0)] [] M (g_qV Q)))) : g_Run d 365 2 [(0, .ref a0), (1, g_n v1), (2, g_n v2)] [] M (g_qV Q) := by
  refine g_Run.ok fun hok => ?_
  replace h := h hok
  refine r_iload_n x_365_2 rfl ?_
  refine r_sipush x_365_3 (x := 1500) rfl ?_
  refine r_ic_ge x_365_6 (t := 28) (by decide +kernel) hv2 (g_Rk rfl) (fun hc => ?_) (fun hc => ?_)
  · replace h := h.2 hc
    refine r_iconst x_365_28 ?_
    refine r_istore_n x_365_29 (by decide +kernel) rfl (lv1 := [(0, .ref a0), (1, g_n v1), (2, g_n 0)]) rfl ?_
    exact h
  · replace h := h.1 hc
    refine r_aload_n x_365_9 rfl ?_
    obtain ⟨hO1, h⟩ := h
    obtain ⟨b2, hb3, h⟩ := h
    refine r_getR x_365_10 rfl (ci := 12) (k := 45) (ns := 0) (by decide +kernel) (by decide) rfl (kz := 45) rfl hO1 hb3 ?_
    refine r_iload_n x_365_13 rfl ?_
    refine r_sipush x_365_14 (x := 1500) rfl ?_
    refine r_imul x_365_17 ?_
    obtain ⟨h4, h⟩ := h
    refine r_iload_n x_365_18 rfl ?_
    refine r_iadd x_365_19 ?_
    obtain ⟨h5, h⟩ := h
    refine r_iconst x_365_20 ?_
    obtain ⟨n6, hA7, h⟩ := h
    obtain ⟨h8, h⟩ := h
    refine r_bast2 x_365_21 hA7 h5 h8.1 h8.2 (Or.inl rfl) ?_
    obtain ⟨M9, hM10⟩ : ∃ Mz, Mz = g_wi M b2 ((v1 * 1500) + v2) 0 := ⟨_, rfl⟩
    rw [← hM10]
    refine g_Run.ok fun hok11 => ?_
    replace h := h M9 hM10 hok11
    have hx12 := g_extW hM10
    replace hO1 := hO1.up hx12
    replace hA7 := hA7.up hx12
    obtain ⟨h13, h⟩ := h
    refine r_iinc x_365_22 (by decide +kernel) rfl rfl (lv1 := [(0, .ref a0), (1, g_n v1), (2, g_n (v2 + 1))]) rfl ?_
    refine r_goto x_365_25 (t := 2) (by decide +kernel) ?_
    exact h
theorem s_X12_sweep_30 {d : Nat} {M : g_M} {Q : g_M → Prop} {a0 : Nat} {v1 : Int} (hv1 : g_InR v1) {v2 : Int} (hv2 : g_InR v2) (h : g_ok M → ((v2 < 600 → g_O M a0 12 ∧ ∃ b14, g_r M a0 48 = some b14 ∧ g_InR (v1 * 600) ∧ g_InR ((v1 * 600) + v2) ∧ ∃ n18, g_A M b14 2 n18 ∧ ((0 : Int) ≤ (v1 * 600) + v2 ∧ ((v1 * 600) + v2 : Int) < n18) ∧ ((g_i M b14 ((v1 * 600) + v2) = 0 → g_InR (v2 + 1) ∧ g_Run d 365 30 [(0, .ref a0), (1, g_n v1), (2, g_n (v2 + 1))] [] M (g_qV Q)) ∧ (¬ g_i M b14 ((v1 * 600) + v2) = 0 → g_InR (v1 * 600) ∧ g_InR ((v1 * 600) + v2) ∧ g_InR (10 * ((v1 * 600) + v2)) ∧ g_Call d 367 [.ref a0, g_n v1, g_n v2] M (g_qI fun r27 M24 => g_ext M M24 → g_ok M24 → g_InR r27 → g_Run d 365 77 [(0, .ref a0), (1, g_n v1), (2, g_n v2), (3, g_n (10 * ((v1 * 600) + v2))), (4, g_n r27), (5, g_n 0)] [] M24 (g_qV Q))))) ∧ (¬ v2 < 600 → g_O M a0 12 ∧ ((g_i M a0 47 < 0 → Q M) ∧ (¬ g_i M a0 47 < 0 → ∃ b2, g_r M a0 45 = some b2 ∧ g_InR (v1 * 1500) ∧ g_InR ((v1 * 1500) + (g_i M a0 47)) ∧ ∃ n6, g_A M b2 2 n6 ∧ ((0 : Int) ≤ (v1 * 1500) + (g_i M a0 47) ∧ ((v1 * 1500) + (g_i M a0 47) : Int) < n6) ∧ (∀ M9, M9 = g_wi M b2 ((v1 * 1500) + (g_i M a0 47)) 1 → g_ok M9 → Q M9)))))) : g_Run d 365 30 [(0, .ref a0), (1, g_n v1), (2, g_n v2)] [] M (g_qV Q) := by
  refine g_Run.ok fun hok => ?_
  replace h := h hok
  refine r_iload_n x_365_30 rfl ?_
  refine r_sipush x_365_31 (x := 600) rfl ?_
  refine r_ic_ge x_365_34 (t := 161) (by decide +kernel) hv2 (g_Rk rfl) (fun hc => ?_) (fun hc => ?_)
  · replace h := h.2 hc
    refine r_aload_n x_365_161 rfl ?_
    obtain ⟨hO1, h⟩ := h
    refine r_getI x_365_162 rfl (ci := 12) (k := 47) (ns := 0) (by decide +kernel) (by decide) rfl (kz := 47) rfl hO1 ?_
    refine r_if_lt x_365_165 (t := 184) (by decide +kernel) (hok.1 _ _) (fun hc => ?_) (fun hc => ?_)
    · replace h := h.1 hc
      exact r_retV x_365_184 rfl h
    · replace h := h.2 hc
      refine r_aload_n x_365_168 rfl ?_
      obtain ⟨b2, hb3, h⟩ := h
      refine r_getR x_365_169 rfl (ci := 12) (k := 45) (ns := 0) (by decide +kernel) (by decide) rfl (kz := 45) rfl hO1 hb3 ?_
      refine r_iload_n x_365_172 rfl ?_
      refine r_sipush x_365_173 (x := 1500) rfl ?_
      refine r_imul x_365_176 ?_
      obtain ⟨h4, h⟩ := h
      refine r_aload_n x_365_177 rfl ?_
      refine r_getI x_365_178 rfl (ci := 12) (k := 47) (ns := 0) (by decide +kernel) (by decide) rfl (kz := 47) rfl hO1 ?_
      refine r_iadd x_365_181 ?_
      obtain ⟨h5, h⟩ := h
      refine r_iconst x_365_182 ?_
      obtain ⟨n6, hA7, h⟩ := h
      obtain ⟨h8, h⟩ := h
      refine r_bast2 x_365_183 hA7 h5 h8.1 h8.2 (Or.inr rfl) ?_
      obtain ⟨M9, hM10⟩ : ∃ Mz, Mz = g_wi M b2 ((v1 * 1500) + (g_i M a0 47)) 1 := ⟨_, rfl⟩
      rw [← hM10]
      refine g_Run.ok fun hok11 => ?_
      replace h := h M9 hM10 hok11
      have hx12 := g_extW hM10
      replace hO1 := hO1.up hx12
      replace hA7 := hA7.up hx12
      exact r_retV x_365_184 rfl h
  · replace h := h.1 hc
    refine r_aload_n x_365_37 rfl ?_
    obtain ⟨hO13, h⟩ := h
    obtain ⟨b14, hb15, h⟩ := h
    refine r_getR x_365_38 rfl (ci := 12) (k := 48) (ns := 0) (by decide +kernel) (by decide) rfl (kz := 48) rfl hO13 hb15 ?_
    refine r_iload_n x_365_41 rfl ?_
    refine r_sipush x_365_42 (x := 600) rfl ?_
    refine r_imul x_365_45 ?_
    obtain ⟨h16, h⟩ := h
    refine r_iload_n x_365_46 rfl ?_
    refine r_iadd x_365_47 ?_
    obtain ⟨h17, h⟩ := h
    obtain ⟨n18, hA19, h⟩ := h
    obtain ⟨h20, h⟩ := h
    refine r_bald x_365_48 (Or.inr rfl) hA19 h17 h20.1 h20.2 ?_
    refine r_if_ne x_365_49 (t := 55) (by decide +kernel) (hok.1 _ _) (fun hc => ?_) (fun hc => ?_)
    · replace h := h.2 hc
      refine r_bipush x_365_55 (x := 10) rfl ?_
      refine r_iload_n x_365_57 rfl ?_
      refine r_sipush x_365_58 (x := 600) rfl ?_
      refine r_imul x_365_61 ?_
      obtain ⟨h21, h⟩ := h
      refine r_iload_n x_365_62 rfl ?_
      refine r_iadd x_365_63 ?_
      obtain ⟨h22, h⟩ := h
      refine r_imul x_365_64 ?_
      obtain ⟨h23, h⟩ := h
      refine r_istore_n x_365_65 (by decide +kernel) rfl (lv1 := [(0, .ref a0), (1, g_n v1), (2, g_n v2), (3, g_n (10 * ((v1 * 600) + v2)))]) rfl ?_
      refine r_aload_n x_365_66 rfl ?_
      refine r_iload_n x_365_67 rfl ?_
      refine r_iload_n x_365_68 rfl ?_
      refine r_invV x_365_69 (z := 367) (ns := 0) (by decide +kernel) (as := [g_n v1, g_n v2]) (r := []) rfl rfl rfl hO13 rfl rfl ?_
      refine r_callI h fun r27 M24 hx25 hok26 hr28 h => ?_
      replace h := h hx25 hok26 hr28
      replace hO13 := hO13.up hx25
      replace hA19 := hA19.up hx25
      refine r_istore x_365_72 (by decide +kernel) rfl (lv1 := [(0, .ref a0), (1, g_n v1), (2, g_n v2), (3, g_n (10 * ((v1 * 600) + v2))), (4, g_n r27)]) rfl ?_
      refine r_iconst x_365_74 ?_
      refine r_istore x_365_75 (by decide +kernel) rfl (lv1 := [(0, .ref a0), (1, g_n v1), (2, g_n v2), (3, g_n (10 * ((v1 * 600) + v2))), (4, g_n r27), (5, g_n 0)]) rfl ?_
      exact h
    · replace h := h.1 hc
      refine r_goto x_365_52 (t := 155) (by decide +kernel) ?_
      obtain ⟨h29, h⟩ := h
      refine r_iinc x_365_155 (by decide +kernel) rfl rfl (lv1 := [(0, .ref a0), (1, g_n v1), (2, g_n (v2 + 1))]) rfl ?_
      refine r_goto x_365_158 (t := 30) (by decide +kernel) ?_
      exact h
theorem s_X12_sweep_77 {d : Nat} {M : g_M} {Q : g_M → Prop} {a0 : Nat} {v1 : Int} (hv1 : g_InR v1) {v2 : Int} (hv2 : g_InR v2) {v3 : Int} (hv3 : g_InR v3) {v4 : Int} (hv4 : g_InR v4) {v5 : Int} (hv5 : g_InR v5) (h : g_ok M → ((v5 < v4 → g_O M a0 12 ∧ ∃ b3, g_r M a0 49 = some b3 ∧ g_InR (v1 * 600) ∧ g_InR ((v1 * 600) + v2) ∧ ∃ n7, g_A M b3 2 n7 ∧ ((0 : Int) ≤ (v1 * 600) + v2 ∧ ((v1 * 600) + v2 : Int) < n7) ∧ ((g_i M b3 ((v1 * 600) + v2) = 0 → ((0 < v5 → ∃ b11, g_r M a0 45 = some b11 ∧ g_InR (v1 * 1500) ∧ ∃ b14, g_r M a0 52 = some b14 ∧ g_InR (v3 + v5) ∧ ∃ n17, g_A M b14 1 n17 ∧ ((0 : Int) ≤ v3 + v5 ∧ (v3 + v5 : Int) < n17) ∧ g_InR ((v1 * 1500) + (g_i M b14 (v3 + v5))) ∧ ∃ n21, g_A M b11 2 n21 ∧ ((0 : Int) ≤ (v1 * 1500) + (g_i M b14 (v3 + v5)) ∧ ((v1 * 1500) + (g_i M b14 (v3 + v5)) : Int) < n21) ∧ (∀ M24, M24 = g_wi M b11 ((v1 * 1500) + (g_i M b14 (v3 + v5))) 1 → g_ok M24 → g_InR (v5 + 1) ∧ g_Run d 365 77 [(0, .ref a0), (1, g_n v1), (2, g_n v2), (3, g_n v3), (4, g_n v4), (5, g_n (v5 + 1))] [] M24 (g_qV Q))) ∧ (¬ 0 < v5 → g_InR (v5 + 1) ∧ g_Run d 365 77 [(0, .ref a0), (1, g_n v1), (2, g_n v2), (3, g_n v3), (4, g_n v4), (5, g_n (v5 + 1))] [] M (g_qV Q)))) ∧ (¬ g_i M b3 ((v1 * 600) + v2) = 0 → ∃ b29, g_r M a0 45 = some b29 ∧ g_InR (v1 * 1500) ∧ ∃ b32, g_r M a0 51 = some b32 ∧ g_InR (v3 + v5) ∧ ∃ n35, g_A M b32 1 n35 ∧ ((0 : Int) ≤ v3 + v5 ∧ (v3 + v5 : Int) < n35) ∧ g_InR ((v1 * 1500) + (g_i M b32 (v3 + v5))) ∧ ∃ n39, g_A M b29 2 n39 ∧ ((0 : Int) ≤ (v1 * 1500) + (g_i M b32 (v3 + v5)) ∧ ((v1 * 1500) + (g_i M b32 (v3 + v5)) : Int) < n39) ∧ (∀ M42, M42 = g_wi M b29 ((v1 * 1500) + (g_i M b32 (v3 + v5))) 1 → g_ok M42 → g_InR (v5 + 1) ∧ g_Run d 365 77 [(0, .ref a0), (1, g_n v1), (2, g_n v2), (3, g_n v3), (4, g_n v4), (5, g_n (v5 + 1))] [] M42 (g_qV Q))))) ∧ (¬ v5 < v4 → g_InR (v2 + 1) ∧ g_Run d 365 30 [(0, .ref a0), (1, g_n v1), (2, g_n (v2 + 1))] [] M (g_qV Q)))) : g_Run d 365 77 [(0, .ref a0), (1, g_n v1), (2, g_n v2), (3, g_n v3), (4, g_n v4), (5, g_n v5)] [] M (g_qV Q) := by
  refine g_Run.ok fun hok => ?_
  replace h := h hok
  refine r_iload x_365_77 rfl ?_
  refine r_iload x_365_79 rfl ?_
  refine r_ic_ge x_365_81 (t := 155) (by decide +kernel) hv5 hv4 (fun hc => ?_) (fun hc => ?_)
  · replace h := h.2 hc
    obtain ⟨h1, h⟩ := h
    refine r_iinc x_365_155 (by decide +kernel) rfl rfl (lv1 := [(0, .ref a0), (1, g_n v1), (2, g_n (v2 + 1)), (3, g_n v3), (4, g_n v4), (5, g_n v5)]) rfl ?_
    refine r_goto x_365_158 (t := 30) (by decide +kernel) ?_
    refine g_drop [0, 1, 2] (lv1 := [(0, .ref a0), (1, g_n v1), (2, g_n (v2 + 1))]) rfl ?_
    exact h
  · replace h := h.1 hc
    refine r_aload_n x_365_84 rfl ?_
    obtain ⟨hO2, h⟩ := h
    obtain ⟨b3, hb4, h⟩ := h
    refine r_getR x_365_85 rfl (ci := 12) (k := 49) (ns := 0) (by decide +kernel) (by decide) rfl (kz := 49) rfl hO2 hb4 ?_
    refine r_iload_n x_365_88 rfl ?_
    refine r_sipush x_365_89 (x := 600) rfl ?_
    refine r_imul x_365_92 ?_
    obtain ⟨h5, h⟩ := h
    refine r_iload_n x_365_93 rfl ?_
    refine r_iadd x_365_94 ?_
    obtain ⟨h6, h⟩ := h
    obtain ⟨n7, hA8, h⟩ := h
    obtain ⟨h9, h⟩ := h
    refine r_bald x_365_95 (Or.inr rfl) hA8 h6 h9.1 h9.2 ?_
    refine r_if_eq x_365_96 (t := 123) (by decide +kernel) (hok.1 _ _) (fun hc => ?_) (fun hc => ?_)
    · replace h := h.1 hc
      refine r_iload x_365_123 rfl ?_
      refine r_if_le x_365_125 (t := 149) (by decide +kernel) hv5 (fun hc => ?_) (fun hc => ?_)
      · replace h := h.2 hc
        obtain ⟨h10, h⟩ := h
        refine r_iinc x_365_149 (by decide +kernel) rfl rfl (lv1 := [(0, .ref a0), (1, g_n v1), (2, g_n v2), (3, g_n v3), (4, g_n v4), (5, g_n (v5 + 1))]) rfl ?_
        refine r_goto x_365_152 (t := 77) (by decide +kernel) ?_
        exact h
      · replace h := h.1 hc
        refine r_aload_n x_365_128 rfl ?_
        obtain ⟨b11, hb12, h⟩ := h
        refine r_getR x_365_129 rfl (ci := 12) (k := 45) (ns := 0) (by decide +kernel) (by decide) rfl (kz := 45) rfl hO2 hb12 ?_
        refine r_iload_n x_365_132 rfl ?_
        refine r_sipush x_365_133 (x := 1500) rfl ?_
        refine r_imul x_365_136 ?_
        obtain ⟨h13, h⟩ := h
        refine r_aload_n x_365_137 rfl ?_
        obtain ⟨b14, hb15, h⟩ := h
        refine r_getR x_365_138 rfl (ci := 12) (k := 52) (ns := 0) (by decide +kernel) (by decide) rfl (kz := 52) rfl hO2 hb15 ?_
        refine r_iload_n x_365_141 rfl ?_
        refine r_iload x_365_142 rfl ?_
        refine r_iadd x_365_144 ?_
        obtain ⟨h16, h⟩ := h
        obtain ⟨n17, hA18, h⟩ := h
        obtain ⟨h19, h⟩ := h
        refine r_iald x_365_145 hA18 h16 h19.1 h19.2 ?_
        refine r_iadd x_365_146 ?_
        obtain ⟨h20, h⟩ := h
        refine r_iconst x_365_147 ?_
        obtain ⟨n21, hA22, h⟩ := h
        obtain ⟨h23, h⟩ := h
        refine r_bast2 x_365_148 hA22 h20 h23.1 h23.2 (Or.inr rfl) ?_
        obtain ⟨M24, hM25⟩ : ∃ Mz, Mz = g_wi M b11 ((v1 * 1500) + (g_i M b14 (v3 + v5))) 1 := ⟨_, rfl⟩
        rw [← hM25]
        refine g_Run.ok fun hok26 => ?_
        replace h := h M24 hM25 hok26
        have hx27 := g_extW hM25
        replace hO2 := hO2.up hx27
        replace hA8 := hA8.up hx27
        replace hA18 := hA18.up hx27
        replace hA22 := hA22.up hx27
        obtain ⟨h28, h⟩ := h
        refine r_iinc x_365_149 (by decide +kernel) rfl rfl (lv1 := [(0, .ref a0), (1, g_n v1), (2, g_n v2), (3, g_n v3), (4, g_n v4), (5, g_n (v5 + 1))]) rfl ?_
        refine r_goto x_365_152 (t := 77) (by decide +kernel) ?_
        exact h
    · replace h := h.2 hc
      refine r_aload_n x_365_99 rfl ?_
      obtain ⟨b29, hb30, h⟩ := h
      refine r_getR x_365_100 rfl (ci := 12) (k := 45) (ns := 0) (by decide +kernel) (by decide) rfl (kz := 45) rfl hO2 hb30 ?_
      refine r_iload_n x_365_103 rfl ?_
      refine r_sipush x_365_104 (x := 1500) rfl ?_
      refine r_imul x_365_107 ?_
      obtain ⟨h31, h⟩ := h
      refine r_aload_n x_365_108 rfl ?_
      obtain ⟨b32, hb33, h⟩ := h
      refine r_getR x_365_109 rfl (ci := 12) (k := 51) (ns := 0) (by decide +kernel) (by decide) rfl (kz := 51) rfl hO2 hb33 ?_
      refine r_iload_n x_365_112 rfl ?_
      refine r_iload x_365_113 rfl ?_
      refine r_iadd x_365_115 ?_
      obtain ⟨h34, h⟩ := h
      obtain ⟨n35, hA36, h⟩ := h
      obtain ⟨h37, h⟩ := h
      refine r_iald x_365_116 hA36 h34 h37.1 h37.2 ?_
      refine r_iadd x_365_117 ?_
      obtain ⟨h38, h⟩ := h
      refine r_iconst x_365_118 ?_
      obtain ⟨n39, hA40, h⟩ := h
      obtain ⟨h41, h⟩ := h
      refine r_bast2 x_365_119 hA40 h38 h41.1 h41.2 (Or.inr rfl) ?_
      obtain ⟨M42, hM43⟩ : ∃ Mz, Mz = g_wi M b29 ((v1 * 1500) + (g_i M b32 (v3 + v5))) 1 := ⟨_, rfl⟩
      rw [← hM43]
      refine g_Run.ok fun hok44 => ?_
      replace h := h M42 hM43 hok44
      have hx45 := g_extW hM43
      replace hO2 := hO2.up hx45
      replace hA8 := hA8.up hx45
      replace hA36 := hA36.up hx45
      replace hA40 := hA40.up hx45
      refine r_goto x_365_120 (t := 149) (by decide +kernel) ?_
      obtain ⟨h46, h⟩ := h
      refine r_iinc x_365_149 (by decide +kernel) rfl rfl (lv1 := [(0, .ref a0), (1, g_n v1), (2, g_n v2), (3, g_n v3), (4, g_n v4), (5, g_n (v5 + 1))]) rfl ?_
      refine r_goto x_365_152 (t := 77) (by decide +kernel) ?_
      exact h
theorem m_X12_order {d : Nat} {M : g_M} {Q : Int → g_M → Prop} {a0 : Nat} {v1 : Int} (hv1 : g_InR v1) {v2 : Int} (hv2 : g_InR v2) {v3 : Int} (hv3 : g_InR v3) (h : g_ok M → g_Run d 366 3 [(0, .ref a0), (1, g_n v1), (2, g_n v2), (3, g_n v3), (4, g_n 0)] [] M (g_qI Q)) : g_Call (d + 1) 366 [.ref a0, g_n v1, g_n v2, g_n v3] M (g_qI Q) := by
  refine g_Call.ok fun hok0 => ?_
  replace h := h hok0
  refine r_body rfl (lv := [(0, .ref a0), (1, g_n v1), (2, g_n v2), (3, g_n v3)]) rfl ?_
  refine g_Run.ok fun hok => ?_
  refine r_iconst x_366_0 ?_
  refine r_istore x_366_1 (by decide +kernel) rfl (lv1 := [(0, .ref a0), (1, g_n v1), (2, g_n v2), (3, g_n v3), (4, g_n 0)]) rfl ?_
  exact h
theorem s_X12_order_3 {d : Nat} {M : g_M} {Q : Int → g_M → Prop} {a0 : Nat} {v1 : Int} (hv1 : g_InR v1) {v2 : Int} (hv2 : g_InR v2) {v3 : Int} (hv3 : g_InR v3) {v4 : Int} (hv4 : g_InR v4) (h : g_ok M → ((v4 < 2 → g_O M a0 12 ∧ g_Call d 363 [.ref a0, g_n v1, g_n v2, g_n v4] M (g_qI fun r21 M18 => g_ext M M18 → g_ok M18 → g_InR r21 → g_Call d 363 [.ref a0, g_n v1, g_n v3, g_n v4] M18 (g_qI fun r26 M23 => g_ext M18 M23 → g_ok M23 → g_InR r26 → g_Call d 269 [.ref a0, g_n r21, g_n r26] M23 (g_qI fun r31 M28 => g_ext M23 M28 → g_ok M28 → g_InR r31 → ((r31 = 0 → g_InR (v4 + 1) ∧ g_Run d 366 3 [(0, .ref a0), (1, g_n v1), (2, g_n v2), (3, g_n v3), (4, g_n (v4 + 1))] [] M28 (g_qI Q)) ∧ (¬ r31 = 0 → ∃ b34, g_r M28 a0 38 = some b34 ∧ g_InR (2 * v1) ∧ g_InR ((2 * v1) + v4) ∧ ∃ n38, g_A M28 b34 2 n38 ∧ ((0 : Int) ≤ (2 * v1) + v4 ∧ ((2 * v1) + v4 : Int) < n38) ∧ ((g_i M28 b34 ((2 * v1) + v4) = 0 → Q r31 M28) ∧ (¬ g_i M28 b34 ((2 * v1) + v4) = 0 → g_InR (-r31) ∧ Q (-r31) M28)))))))) ∧ (¬ v4 < 2 → g_O M a0 12 ∧ ∃ b2, g_r M a0 46 = some b2 ∧ g_InR (v1 * 1500) ∧ g_InR ((v1 * 1500) + v2) ∧ ∃ n6, g_A M b2 1 n6 ∧ ((0 : Int) ≤ (v1 * 1500) + v2 ∧ ((v1 * 1500) + v2 : Int) < n6) ∧ ∃ b9, g_r M a0 46 = some b9 ∧ g_InR (v1 * 1500) ∧ g_InR ((v1 * 1500) + v3) ∧ ∃ n13, g_A M b9 1 n13 ∧ ((0 : Int) ≤ (v1 * 1500) + v3 ∧ ((v1 * 1500) + v3 : Int) < n13) ∧ g_InR ((g_i M b2 ((v1 * 1500) + v2)) - (g_i M b9 ((v1 * 1500) + v3))) ∧ Q ((g_i M b2 ((v1 * 1500) + v2)) - (g_i M b9 ((v1 * 1500) + v3))) M))) : g_Run d 366 3 [(0, .ref a0), (1, g_n v1), (2, g_n v2), (3, g_n v3), (4, g_n v4)] [] M (g_qI Q) := by
  refine g_Run.ok fun hok => ?_
  replace h := h hok
  refine r_iload x_366_3 rfl ?_
  refine r_iconst x_366_5 ?_
  refine r_ic_ge x_366_6 (t := 65) (by decide +kernel) hv4 (g_Rk rfl) (fun hc => ?_) (fun hc => ?_)
  · replace h := h.2 hc
    refine r_aload_n x_366_65 rfl ?_
    obtain ⟨hO1, h⟩ := h
    obtain ⟨b2, hb3, h⟩ := h
    refine r_getR x_366_66 rfl (ci := 12) (k := 46) (ns := 0) (by decide +kernel) (by decide) rfl (kz := 46) rfl hO1 hb3 ?_
    refine r_iload_n x_366_69 rfl ?_
    refine r_sipush x_366_70 (x := 1500) rfl ?_
    refine r_imul x_366_73 ?_
    obtain ⟨h4, h⟩ := h
    refine r_iload_n x_366_74 rfl ?_
    refine r_iadd x_366_75 ?_
    obtain ⟨h5, h⟩ := h
    obtain ⟨n6, hA7, h⟩ := h
    obtain ⟨h8, h⟩ := h
    refine r_iald x_366_76 hA7 h5 h8.1 h8.2 ?_
    refine r_aload_n x_366_77 rfl ?_
    obtain ⟨b9, hb10, h⟩ := h
    refine r_getR x_366_78 rfl (ci := 12) (k := 46) (ns := 0) (by decide +kernel) (by decide) rfl (kz := 46) rfl hO1 hb10 ?_
    refine r_iload_n x_366_81 rfl ?_
    refine r_sipush x_366_82 (x := 1500) rfl ?_
    refine r_imul x_366_85 ?_
    obtain ⟨h11, h⟩ := h
    refine r_iload_n x_366_86 rfl ?_
    refine r_iadd x_366_87 ?_
    obtain ⟨h12, h⟩ := h
    obtain ⟨n13, hA14, h⟩ := h
    obtain ⟨h15, h⟩ := h
    refine r_iald x_366_88 hA14 h12 h15.1 h15.2 ?_
    refine r_isub x_366_89 ?_
    obtain ⟨h16, h⟩ := h
    exact r_retI x_366_90 rfl h16 h
  · replace h := h.1 hc
    refine r_aload_n x_366_9 rfl ?_
    refine r_aload_n x_366_10 rfl ?_
    refine r_iload_n x_366_11 rfl ?_
    refine r_iload_n x_366_12 rfl ?_
    refine r_iload x_366_13 rfl ?_
    obtain ⟨hO17, h⟩ := h
    refine r_invV x_366_15 (z := 363) (ns := 0) (by decide +kernel) (as := [g_n v1, g_n v2, g_n v4]) (r := [.ref a0]) rfl rfl rfl hO17 rfl rfl ?_
    refine r_callI h fun r21 M18 hx19 hok20 hr22 h => ?_
    replace h := h hx19 hok20 hr22
    replace hO17 := hO17.up hx19
    refine r_aload_n x_366_18 rfl ?_
    refine r_iload_n x_366_19 rfl ?_
    refine r_iload_n x_366_20 rfl ?_
    refine r_iload x_366_21 rfl ?_
    refine r_invV x_366_23 (z := 363) (ns := 0) (by decide +kernel) (as := [g_n v1, g_n v3, g_n v4]) (r := [g_n r21, .ref a0]) rfl rfl rfl hO17 rfl rfl ?_
    refine r_callI h fun r26 M23 hx24 hok25 hr27 h => ?_
    replace h := h hx24 hok25 hr27
    replace hO17 := hO17.up hx24
    refine r_invV x_366_26 (z := 269) (ns := 0) (by decide +kernel) (as := [g_n r21, g_n r26]) (r := []) rfl rfl rfl hO17 rfl rfl ?_
    refine r_callI h fun r31 M28 hx29 hok30 hr32 h => ?_
    replace h := h hx29 hok30 hr32
    replace hO17 := hO17.up hx29
    refine r_istore x_366_29 (by decide +kernel) rfl (lv1 := [(0, .ref a0), (1, g_n v1), (2, g_n v2), (3, g_n v3), (4, g_n v4), (5, g_n r31)]) rfl ?_
    refine r_iload x_366_31 rfl ?_
    refine r_if_eq x_366_33 (t := 59) (by decide +kernel) hr32 (fun hc => ?_) (fun hc => ?_)
    · replace h := h.1 hc
      obtain ⟨h33, h⟩ := h
      refine r_iinc x_366_59 (by decide +kernel) rfl rfl (lv1 := [(0, .ref a0), (1, g_n v1), (2, g_n v2), (3, g_n v3), (4, g_n (v4 + 1)), (5, g_n r31)]) rfl ?_
      refine r_goto x_366_62 (t := 3) (by decide +kernel) ?_
      refine g_drop [0, 1, 2, 3, 4] (lv1 := [(0, .ref a0), (1, g_n v1), (2, g_n v2), (3, g_n v3), (4, g_n (v4 + 1))]) rfl ?_
      exact h
    · replace h := h.2 hc
      refine r_aload_n x_366_36 rfl ?_
      obtain ⟨b34, hb35, h⟩ := h
      refine r_getR x_366_37 rfl (ci := 12) (k := 38) (ns := 0) (by decide +kernel) (by decide) rfl (kz := 38) rfl hO17 hb35 ?_
      refine r_iconst x_366_40 ?_
      refine r_iload_n x_366_41 rfl ?_
      refine r_imul x_366_42 ?_
      obtain ⟨h36, h⟩ := h
      refine r_iload x_366_43 rfl ?_
      refine r_iadd x_366_45 ?_
      obtain ⟨h37, h⟩ := h
      obtain ⟨n38, hA39, h⟩ := h
      obtain ⟨h40, h⟩ := h
      refine r_bald x_366_46 (Or.inr rfl) hA39 h37 h40.1 h40.2 ?_
      refine r_if_eq x_366_47 (t := 56) (by decide +kernel) (hok30.1 _ _) (fun hc => ?_) (fun hc => ?_)
      · replace h := h.1 hc
        refine r_iload x_366_56 rfl ?_
        exact r_retI x_366_58 rfl hr32 h
      · replace h := h.2 hc
        refine r_iload x_366_50 rfl ?_
        refine r_ineg x_366_52 ?_
        obtain ⟨h41, h⟩ := h
        refine r_goto x_366_53 (t := 58) (by decide +kernel) ?_
        exact r_retI x_366_58 rfl h41 h
theorem m_X12_sizeOf {d : Nat} {M : g_M} {Q : Int → g_M → Prop} {a0 : Nat} {v1 : Int} (hv1 : g_InR v1) {v2 : Int} (hv2 : g_InR v2) (h : g_ok M → g_O M a0 12 ∧ ∃ b2, g_r M a0 50 = some b2 ∧ g_InR (v1 * 600) ∧ g_InR ((v1 * 600) + v2) ∧ ∃ n6, g_A M b2 1 n6 ∧ ((0 : Int) ≤ (v1 * 600) + v2 ∧ ((v1 * 600) + v2 : Int) < n6) ∧ Q (g_i M b2 ((v1 * 600) + v2)) M) : g_Call (d + 1) 367 [.ref a0, g_n v1, g_n v2] M (g_qI Q) := by
  refine g_Call.ok fun hok0 => ?_
  replace h := h hok0
  refine r_body rfl (lv := [(0, .ref a0), (1, g_n v1), (2, g_n v2)]) rfl ?_
  refine g_Run.ok fun hok => ?_
  refine r_aload_n x_367_0 rfl ?_
  obtain ⟨hO1, h⟩ := h
  obtain ⟨b2, hb3, h⟩ := h
  refine r_getR x_367_1 rfl (ci := 12) (k := 50) (ns := 0) (by decide +kernel) (by decide) rfl (kz := 50) rfl hO1 hb3 ?_
  refine r_iload_n x_367_4 rfl ?_
  refine r_sipush x_367_5 (x := 600) rfl ?_
  refine r_imul x_367_8 ?_
  obtain ⟨h4, h⟩ := h
  refine r_iload_n x_367_9 rfl ?_
  refine r_iadd x_367_10 ?_
  obtain ⟨h5, h⟩ := h
  obtain ⟨n6, hA7, h⟩ := h
  obtain ⟨h8, h⟩ := h
  refine r_iald x_367_11 hA7 h5 h8.1 h8.2 ?_
  exact r_retI x_367_12 rfl (hok.1 _ _) h
theorem m_X12_setSize {d : Nat} {M : g_M} {Q : g_M → Prop} {a0 : Nat} {v1 : Int} (hv1 : g_InR v1) {v2 : Int} (hv2 : g_InR v2) {v3 : Int} (hv3 : g_InR v3) (h : g_ok M → g_O M a0 12 ∧ ∃ b2, g_r M a0 50 = some b2 ∧ g_InR (v1 * 600) ∧ g_InR ((v1 * 600) + v2) ∧ ∃ n6, g_A M b2 1 n6 ∧ ((0 : Int) ≤ (v1 * 600) + v2 ∧ ((v1 * 600) + v2 : Int) < n6) ∧ (∀ M9, M9 = g_wi M b2 ((v1 * 600) + v2) v3 → g_ok M9 → Q M9)) : g_Call (d + 1) 368 [.ref a0, g_n v1, g_n v2, g_n v3] M (g_qV Q) := by
  refine g_Call.ok fun hok0 => ?_
  replace h := h hok0
  refine r_body rfl (lv := [(0, .ref a0), (1, g_n v1), (2, g_n v2), (3, g_n v3)]) rfl ?_
  refine g_Run.ok fun hok => ?_
  refine r_aload_n x_368_0 rfl ?_
  obtain ⟨hO1, h⟩ := h
  obtain ⟨b2, hb3, h⟩ := h
  refine r_getR x_368_1 rfl (ci := 12) (k := 50) (ns := 0) (by decide +kernel) (by decide) rfl (kz := 50) rfl hO1 hb3 ?_
  refine r_iload_n x_368_4 rfl ?_
  refine r_sipush x_368_5 (x := 600) rfl ?_
  refine r_imul x_368_8 ?_
  obtain ⟨h4, h⟩ := h
  refine r_iload_n x_368_9 rfl ?_
  refine r_iadd x_368_10 ?_
  obtain ⟨h5, h⟩ := h
  refine r_iload_n x_368_11 rfl ?_
  obtain ⟨n6, hA7, h⟩ := h
  obtain ⟨h8, h⟩ := h
  refine r_iast x_368_12 hA7 h5 h8.1 h8.2 hv3 ?_
  obtain ⟨M9, hM10⟩ : ∃ Mz, Mz = g_wi M b2 ((v1 * 600) + v2) v3 := ⟨_, rfl⟩
  rw [← hM10]
  refine g_Run.ok fun hok11 => ?_
  replace h := h M9 hM10 hok11
  have hx12 := g_extW hM10
  replace hO1 := hO1.up hx12
  replace hA7 := hA7.up hx12
  exact r_retV x_368_13 rfl h
theorem m_X12_slot {d : Nat} {M : g_M} {Q : Int → g_M → Prop} {a0 : Nat} {v1 : Int} (hv1 : g_InR v1) {v2 : Int} (hv2 : g_InR v2) {v3 : Int} (hv3 : g_InR v3) (h : g_ok M → g_InR (v1 * 600) ∧ g_InR ((v1 * 600) + v2) ∧ g_InR (10 * ((v1 * 600) + v2)) ∧ g_InR ((10 * ((v1 * 600) + v2)) + v3) ∧ Q ((10 * ((v1 * 600) + v2)) + v3) M) : g_Call (d + 1) 369 [.ref a0, g_n v1, g_n v2, g_n v3] M (g_qI Q) := by
  refine g_Call.ok fun hok0 => ?_
  replace h := h hok0
  refine r_body rfl (lv := [(0, .ref a0), (1, g_n v1), (2, g_n v2), (3, g_n v3)]) rfl ?_
  refine g_Run.ok fun hok => ?_
  refine r_bipush x_369_0 (x := 10) rfl ?_
  refine r_iload_n x_369_2 rfl ?_
  refine r_sipush x_369_3 (x := 600) rfl ?_
  refine r_imul x_369_6 ?_
  obtain ⟨h1, h⟩ := h
  refine r_iload_n x_369_7 rfl ?_
  refine r_iadd x_369_8 ?_
  obtain ⟨h2, h⟩ := h
  refine r_imul x_369_9 ?_
  obtain ⟨h3, h⟩ := h
  refine r_iload_n x_369_10 rfl ?_
  refine r_iadd x_369_11 ?_
  obtain ⟨h4, h⟩ := h
  exact r_retI x_369_12 rfl h4 h
theorem m_X12_newNode {d : Nat} {M : g_M} {Q : Int → g_M → Prop} {a0 : Nat} {v1 : Int} (hv1 : g_InR v1) {v2 : Int} (hv2 : g_InR v2) (h : g_ok M → g_Run d 370 2 [(0, .ref a0), (1, g_n v1), (2, g_n v2), (3, g_n 0)] [] M (g_qI Q)) : g_Call (d + 1) 370 [.ref a0, g_n v1, g_n v2] M (g_qI Q) := by
  refine g_Call.ok fun hok0 => ?_
  replace h := h hok0
  refine r_body rfl (lv := [(0, .ref a0), (1, g_n v1), (2, g_n v2)]) rfl ?_
  refine g_Run.ok fun hok => ?_
  refine r_iconst x_370_0 ?_
  refine r_istore_n x_370_1 (by decide +kernel) rfl (lv1 := [(0, .ref a0), (1, g_n v1), (2, g_n v2), (3, g_n 0)]) rfl ?_
  exact h
theorem s_X12_newNode_2 {d : Nat} {M : g_M} {Q : Int → g_M → Prop} {a0 : Nat} {v1 : Int} (hv1 : g_InR v1) {v2 : Int} (hv2 : g_InR v2) {v3 : Int} (hv3 : g_InR v3) (h : g_ok M → g_O M a0 12 ∧ ∃ b2, g_r M a0 48 = some b2 ∧ g_InR (v1 * 600) ∧ g_InR ((v1 * 600) + v3) ∧ ∃ n6, g_A M b2 2 n6 ∧ ((0 : Int) ≤ (v1 * 600) + v3 ∧ ((v1 * 600) + v3 : Int) < n6) ∧ ((g_i M b2 ((v1 * 600) + v3) = 0 → ∃ b9, g_r M a0 48 = some b9 ∧ g_InR (v1 * 600) ∧ g_InR ((v1 * 600) + v3) ∧ ∃ n13, g_A M b9 2 n13 ∧ ((0 : Int) ≤ (v1 * 600) + v3 ∧ ((v1 * 600) + v3 : Int) < n13) ∧ (∀ M16, M16 = g_wi M b9 ((v1 * 600) + v3) 1 → g_ok M16 → ∃ b20, g_r M16 a0 49 = some b20 ∧ g_InR (v1 * 600) ∧ g_InR ((v1 * 600) + v3) ∧ ∃ n24, g_A M16 b20 2 n24 ∧ ((0 : Int) ≤ (v1 * 600) + v3 ∧ ((v1 * 600) + v3 : Int) < n24) ∧ (v2 = 0 ∨ v2 = 1) ∧ (∀ M28, M28 = g_wi M16 b20 ((v1 * 600) + v3) v2 → g_ok M28 → g_Call d 368 [.ref a0, g_n v1, g_n v3, g_n 0] M28 (g_qV fun M32 => g_ext M28 M32 → g_ok M32 → Q v3 M32)))) ∧ (¬ g_i M b2 ((v1 * 600) + v3) = 0 → g_InR (v3 + 1) ∧ g_Run d 370 2 [(0, .ref a0), (1, g_n v1), (2, g_n v2), (3, g_n (v3 + 1))] [] M (g_qI Q)))) : g_Run d 370 2 [(0, .ref a0), (1, g_n v1), (2, g_n v2), (3, g_n v3)] [] M (g_qI Q) := by
  refine g_Run.ok fun hok => ?_
  replace h := h hok
  refine r_aload_n x_370_2 rfl ?_
  obtain ⟨hO1, h⟩ := h
  obtain ⟨b2, hb3, h⟩ := h
  refine r_getR x_370_3 rfl (ci := 12) (k := 48) (ns := 0) (by decide +kernel) (by decide) rfl (kz := 48) rfl hO1 hb3 ?_
  refine r_iload_n x_370_6 rfl ?_
  refine r_sipush x_370_7 (x := 600) rfl ?_
  refine r_imul x_370_10 ?_
  obtain ⟨h4, h⟩ := h
  refine r_iload_n x_370_11 rfl ?_
  refine r_iadd x_370_12 ?_
  obtain ⟨h5, h⟩ := h
  obtain ⟨n6, hA7, h⟩ := h
  obtain ⟨h8, h⟩ := h
  refine r_bald x_370_13 (Or.inr rfl) hA7 h5 h8.1 h8.2 ?_
  refine r_if_eq x_370_14 (t := 23) (by decide +kernel) (hok.1 _ _) (fun hc => ?_) (fun hc => ?_)
  · replace h := h.1 hc
    refine r_aload_n x_370_23 rfl ?_
    obtain ⟨b9, hb10, h⟩ := h
    refine r_getR x_370_24 rfl (ci := 12) (k := 48) (ns := 0) (by decide +kernel) (by decide) rfl (kz := 48) rfl hO1 hb10 ?_
    refine r_iload_n x_370_27 rfl ?_
    refine r_sipush x_370_28 (x := 600) rfl ?_
    refine r_imul x_370_31 ?_
    obtain ⟨h11, h⟩ := h
    refine r_iload_n x_370_32 rfl ?_
    refine r_iadd x_370_33 ?_
    obtain ⟨h12, h⟩ := h
    refine r_iconst x_370_34 ?_
    obtain ⟨n13, hA14, h⟩ := h
    obtain ⟨h15, h⟩ := h
    refine r_bast2 x_370_35 hA14 h12 h15.1 h15.2 (Or.inr rfl) ?_
    obtain ⟨M16, hM17⟩ : ∃ Mz, Mz = g_wi M b9 ((v1 * 600) + v3) 1 := ⟨_, rfl⟩
    rw [← hM17]
    refine g_Run.ok fun hok18 => ?_
    replace h := h M16 hM17 hok18
    have hx19 := g_extW hM17
    replace hO1 := hO1.up hx19
    replace hA7 := hA7.up hx19
    replace hA14 := hA14.up hx19
    refine r_aload_n x_370_36 rfl ?_
    obtain ⟨b20, hb21, h⟩ := h
    refine r_getR x_370_37 rfl (ci := 12) (k := 49) (ns := 0) (by decide +kernel) (by decide) rfl (kz := 49) rfl hO1 hb21 ?_
    refine r_iload_n x_370_40 rfl ?_
    refine r_sipush x_370_41 (x := 600) rfl ?_
    refine r_imul x_370_44 ?_
    obtain ⟨h22, h⟩ := h
    refine r_iload_n x_370_45 rfl ?_
    refine r_iadd x_370_46 ?_
    obtain ⟨h23, h⟩ := h
    refine r_iload_n x_370_47 rfl ?_
    obtain ⟨n24, hA25, h⟩ := h
    obtain ⟨h26, h⟩ := h
    obtain ⟨h27, h⟩ := h
    refine r_bast2 x_370_48 hA25 h23 h26.1 h26.2 h27 ?_
    obtain ⟨M28, hM29⟩ : ∃ Mz, Mz = g_wi M16 b20 ((v1 * 600) + v3) v2 := ⟨_, rfl⟩
    rw [← hM29]
    refine g_Run.ok fun hok30 => ?_
    replace h := h M28 hM29 hok30
    have hx31 := g_extW hM29
    replace hO1 := hO1.up hx31
    replace hA7 := hA7.up hx31
    replace hA14 := hA14.up hx31
    replace hA25 := hA25.up hx31
    refine r_aload_n x_370_49 rfl ?_
    refine r_iload_n x_370_50 rfl ?_
    refine r_iload_n x_370_51 rfl ?_
    refine r_iconst x_370_52 ?_
    refine r_invV x_370_53 (z := 368) (ns := 0) (by decide +kernel) (as := [g_n v1, g_n v3, g_n 0]) (r := []) rfl rfl rfl hO1 rfl rfl ?_
    refine r_callV h fun M32 hx33 hok34 h => ?_
    replace h := h hx33 hok34
    replace hO1 := hO1.up hx33
    replace hA7 := hA7.up hx33
    replace hA14 := hA14.up hx33
    replace hA25 := hA25.up hx33
    refine r_iload_n x_370_56 rfl ?_
    exact r_retI x_370_57 rfl hv3 h
  · replace h := h.2 hc
    obtain ⟨h35, h⟩ := h
    refine r_iinc x_370_17 (by decide +kernel) rfl rfl (lv1 := [(0, .ref a0), (1, g_n v1), (2, g_n v2), (3, g_n (v3 + 1))]) rfl ?_
    refine r_goto x_370_20 (t := 2) (by decide +kernel) ?_
    exact h
theorem m_X12_dropTree {d : Nat} {M : g_M} {Q : g_M → Prop} {a0 : Nat} {v1 : Int} (hv1 : g_InR v1) (h : g_ok M → g_Run d 371 2 [(0, .ref a0), (1, g_n v1), (2, g_n 0)] [] M (g_qV Q)) : g_Call (d + 1) 371 [.ref a0, g_n v1] M (g_qV Q) := by
  refine g_Call.ok fun hok0 => ?_
  replace h := h hok0
  refine r_body rfl (lv := [(0, .ref a0), (1, g_n v1)]) rfl ?_
  refine g_Run.ok fun hok => ?_
  refine r_iconst x_371_0 ?_
  refine r_istore_n x_371_1 (by decide +kernel) rfl (lv1 := [(0, .ref a0), (1, g_n v1), (2, g_n 0)]) rfl ?_
  exact h
theorem s_X12_dropTree_2 {d : Nat} {M : g_M} {Q : g_M → Prop} {a0 : Nat} {v1 : Int} (hv1 : g_InR v1) {v2 : Int} (hv2 : g_InR v2) (h : g_ok M → ((v2 < 600 → g_O M a0 12 ∧ ∃ b2, g_r M a0 48 = some b2 ∧ g_InR (v1 * 600) ∧ g_InR ((v1 * 600) + v2) ∧ ∃ n6, g_A M b2 2 n6 ∧ ((0 : Int) ≤ (v1 * 600) + v2 ∧ ((v1 * 600) + v2 : Int) < n6) ∧ (∀ M9, M9 = g_wi M b2 ((v1 * 600) + v2) 0 → g_ok M9 → g_InR (v2 + 1) ∧ g_Run d 371 2 [(0, .ref a0), (1, g_n v1), (2, g_n (v2 + 1))] [] M9 (g_qV Q))) ∧ (¬ v2 < 600 → g_Run d 371 30 [(0, .ref a0), (1, g_n v1), (2, g_n 0)] [] M (g_qV Q)))) : g_Run d 371 2 [(0, .ref a0), (1, g_n v1), (2, g_n v2)] [] M (g_qV Q) := by
  refine g_Run.ok fun hok => ?_
  replace h := h hok
  refine r_iload_n x_371_2 rfl ?_
  refine r_sipush x_371_3 (x := 600) rfl ?_
  refine r_ic_ge x_371_6 (t := 28) (by decide +kernel) hv2 (g_Rk rfl) (fun hc => ?_) (fun hc => ?_)
  · replace h := h.2 hc
    refine r_iconst x_371_28 ?_
    refine r_istore_n x_371_29 (by decide +kernel) rfl (lv1 := [(0, .ref a0), (1, g_n v1), (2, g_n 0)]) rfl ?_
    exact h
  · replace h := h.1 hc
    refine r_aload_n x_371_9 rfl ?_
    obtain ⟨hO1, h⟩ := h
    obtain ⟨b2, hb3, h⟩ := h
    refine r_getR x_371_10 rfl (ci := 12) (k := 48) (ns := 0) (by decide +kernel) (by decide) rfl (kz := 48) rfl hO1 hb3 ?_
    refine r_iload_n x_371_13 rfl ?_
    refine r_sipush x_371_14 (x := 600) rfl ?_
    refine r_imul x_371_17 ?_
    obtain ⟨h4, h⟩ := h
    refine r_iload_n x_371_18 rfl ?_
    refine r_iadd x_371_19 ?_
    obtain ⟨h5, h⟩ := h
    refine r_iconst x_371_20 ?_
    obtain ⟨n6, hA7, h⟩ := h
    obtain ⟨h8, h⟩ := h
    refine r_bast2 x_371_21 hA7 h5 h8.1 h8.2 (Or.inl rfl) ?_
    obtain ⟨M9, hM10⟩ : ∃ Mz, Mz = g_wi M b2 ((v1 * 600) + v2) 0 := ⟨_, rfl⟩
    rw [← hM10]
    refine g_Run.ok fun hok11 => ?_
    replace h := h M9 hM10 hok11
    have hx12 := g_extW hM10
    replace hO1 := hO1.up hx12
    replace hA7 := hA7.up hx12
    obtain ⟨h13, h⟩ := h
    refine r_iinc x_371_22 (by decide +kernel) rfl rfl (lv1 := [(0, .ref a0), (1, g_n v1), (2, g_n (v2 + 1))]) rfl ?_
    refine r_goto x_371_25 (t := 2) (by decide +kernel) ?_
    exact h
theorem s_X12_dropTree_30 {d : Nat} {M : g_M} {Q : g_M → Prop} {a0 : Nat} {v1 : Int} (hv1 : g_InR v1) {v2 : Int} (hv2 : g_InR v2) (h : g_ok M → ((v2 < 1500 → g_O M a0 12 ∧ ∃ b26, g_r M a0 45 = some b26 ∧ g_InR (v1 * 1500) ∧ g_InR ((v1 * 1500) + v2) ∧ ∃ n30, g_A M b26 2 n30 ∧ ((0 : Int) ≤ (v1 * 1500) + v2 ∧ ((v1 * 1500) + v2 : Int) < n30) ∧ (∀ M33, M33 = g_wi M b26 ((v1 * 1500) + v2) 0 → g_ok M33 → g_InR (v2 + 1) ∧ g_Run d 371 30 [(0, .ref a0), (1, g_n v1), (2, g_n (v2 + 1))] [] M33 (g_qV Q))) ∧ (¬ v2 < 1500 → g_O M a0 12 ∧ ∃ b2, g_r M a0 54 = some b2 ∧ ∃ n4, g_A M b2 1 n4 ∧ ((0 : Int) ≤ v1 ∧ (v1 : Int) < n4) ∧ (∀ M7, M7 = g_wi M b2 v1 0 → g_ok M7 → ∃ b11, g_r M7 a0 53 = some b11 ∧ g_Call d 370 [.ref a0, g_n v1, g_n 1] M7 (g_qI fun r16 M13 => g_ext M7 M13 → g_ok M13 → g_InR r16 → ∃ n18, g_A M13 b11 1 n18 ∧ ((0 : Int) ≤ v1 ∧ (v1 : Int) < n18) ∧ (∀ M21, M21 = g_wi M13 b11 v1 r16 → g_ok M21 → Q M21)))))) : g_Run d 371 30 [(0, .ref a0), (1, g_n v1), (2, g_n v2)] [] M (g_qV Q) := by
  refine g_Run.ok fun hok => ?_
  replace h := h hok
  refine r_iload_n x_371_30 rfl ?_
  refine r_sipush x_371_31 (x := 1500) rfl ?_
  refine r_ic_ge x_371_34 (t := 56) (by decide +kernel) hv2 (g_Rk rfl) (fun hc => ?_) (fun hc => ?_)
  · replace h := h.2 hc
    refine r_aload_n x_371_56 rfl ?_
    obtain ⟨hO1, h⟩ := h
    obtain ⟨b2, hb3, h⟩ := h
    refine r_getR x_371_57 rfl (ci := 12) (k := 54) (ns := 0) (by decide +kernel) (by decide) rfl (kz := 54) rfl hO1 hb3 ?_
    refine r_iload_n x_371_60 rfl ?_
    refine r_iconst x_371_61 ?_
    obtain ⟨n4, hA5, h⟩ := h
    obtain ⟨h6, h⟩ := h
    refine r_iast x_371_62 hA5 hv1 h6.1 h6.2 (g_Rk rfl) ?_
    obtain ⟨M7, hM8⟩ : ∃ Mz, Mz = g_wi M b2 v1 0 := ⟨_, rfl⟩
    rw [← hM8]
    refine g_Run.ok fun hok9 => ?_
    replace h := h M7 hM8 hok9
    have hx10 := g_extW hM8
    replace hO1 := hO1.up hx10
    replace hA5 := hA5.up hx10
    refine r_aload_n x_371_63 rfl ?_
    obtain ⟨b11, hb12, h⟩ := h
    refine r_getR x_371_64 rfl (ci := 12) (k := 53) (ns := 0) (by decide +kernel) (by decide) rfl (kz := 53) rfl hO1 hb12 ?_
    refine r_iload_n x_371_67 rfl ?_
    refine r_aload_n x_371_68 rfl ?_
    refine r_iload_n x_371_69 rfl ?_
    refine r_iconst x_371_70 ?_
    refine r_invV x_371_71 (z := 370) (ns := 0) (by decide +kernel) (as := [g_n v1, g_n 1]) (r := [g_n v1, .ref b11]) rfl rfl rfl hO1 rfl rfl ?_
    refine r_callI h fun r16 M13 hx14 hok15 hr17 h => ?_
    replace h := h hx14 hok15 hr17
    replace hO1 := hO1.up hx14
    replace hA5 := hA5.up hx14
    obtain ⟨n18, hA19, h⟩ := h
    obtain ⟨h20, h⟩ := h
    refine r_iast x_371_74 hA19 hv1 h20.1 h20.2 hr17 ?_
    obtain ⟨M21, hM22⟩ : ∃ Mz, Mz = g_wi M13 b11 v1 r16 := ⟨_, rfl⟩
    rw [← hM22]
    refine g_Run.ok fun hok23 => ?_
    replace h := h M21 hM22 hok23
    have hx24 := g_extW hM22
    replace hO1 := hO1.up hx24
    replace hA5 := hA5.up hx24
    replace hA19 := hA19.up hx24
    exact r_retV x_371_75 rfl h
  · replace h := h.1 hc
    refine r_aload_n x_371_37 rfl ?_
    obtain ⟨hO25, h⟩ := h
    obtain ⟨b26, hb27, h⟩ := h
    refine r_getR x_371_38 rfl (ci := 12) (k := 45) (ns := 0) (by decide +kernel) (by decide) rfl (kz := 45) rfl hO25 hb27 ?_
    refine r_iload_n x_371_41 rfl ?_
    refine r_sipush x_371_42 (x := 1500) rfl ?_
    refine r_imul x_371_45 ?_
    obtain ⟨h28, h⟩ := h
    refine r_iload_n x_371_46 rfl ?_
    refine r_iadd x_371_47 ?_
    obtain ⟨h29, h⟩ := h
    refine r_iconst x_371_48 ?_
    obtain ⟨n30, hA31, h⟩ := h
    obtain ⟨h32, h⟩ := h
    refine r_bast2 x_371_49 hA31 h29 h32.1 h32.2 (Or.inl rfl) ?_
    obtain ⟨M33, hM34⟩ : ∃ Mz, Mz = g_wi M b26 ((v1 * 1500) + v2) 0 := ⟨_, rfl⟩
    rw [← hM34]
    refine g_Run.ok fun hok35 => ?_
    replace h := h M33 hM34 hok35
    have hx36 := g_extW hM34
    replace hO25 := hO25.up hx36
    replace hA31 := hA31.up hx36
    obtain ⟨h37, h⟩ := h
    refine r_iinc x_371_50 (by decide +kernel) rfl rfl (lv1 := [(0, .ref a0), (1, g_n v1), (2, g_n (v2 + 1))]) rfl ?_
    refine r_goto x_371_53 (t := 30) (by decide +kernel) ?_
    exact h
theorem m_X12_insertAt {d : Nat} {M : g_M} {Q : g_M → Prop} {a0 : Nat} {v1 : Int} (hv1 : g_InR v1) {v2 : Int} (hv2 : g_InR v2) {v3 : Int} (hv3 : g_InR v3) {v4 : Int} (hv4 : g_InR v4) {v5 : Int} (hv5 : g_InR v5) (h : g_ok M → g_O M a0 12 ∧ g_Call d 367 [.ref a0, g_n v1, g_n v2] M (g_qI fun r5 M2 => g_ext M M2 → g_ok M2 → g_InR r5 → g_Run d 372 12 [(0, .ref a0), (1, g_n v1), (2, g_n v2), (3, g_n v3), (4, g_n v4), (5, g_n v5), (6, g_n r5), (7, g_n r5)] [] M2 (g_qV Q))) : g_Call (d + 1) 372 [.ref a0, g_n v1, g_n v2, g_n v3, g_n v4, g_n v5] M (g_qV Q) := by
  refine g_Call.ok fun hok0 => ?_
  replace h := h hok0
  refine r_body rfl (lv := [(0, .ref a0), (1, g_n v1), (2, g_n v2), (3, g_n v3), (4, g_n v4), (5, g_n v5)]) rfl ?_
  refine g_Run.ok fun hok => ?_
  refine r_aload_n x_372_0 rfl ?_
  refine r_iload_n x_372_1 rfl ?_
  refine r_iload_n x_372_2 rfl ?_
  obtain ⟨hO1, h⟩ := h
  refine r_invV x_372_3 (z := 367) (ns := 0) (by decide +kernel) (as := [g_n v1, g_n v2]) (r := []) rfl rfl rfl hO1 rfl rfl ?_
  refine r_callI h fun r5 M2 hx3 hok4 hr6 h => ?_
  replace h := h hx3 hok4 hr6
  replace hO1 := hO1.up hx3
  refine r_istore x_372_6 (by decide +kernel) rfl (lv1 := [(0, .ref a0), (1, g_n v1), (2, g_n v2), (3, g_n v3), (4, g_n v4), (5, g_n v5), (6, g_n r5)]) rfl ?_
  refine r_iload x_372_8 rfl ?_
  refine r_istore x_372_10 (by decide +kernel) rfl (lv1 := [(0, .ref a0), (1, g_n v1), (2, g_n v2), (3, g_n v3), (4, g_n v4), (5, g_n v5), (6, g_n r5), (7, g_n r5)]) rfl ?_
  exact h
theorem s_X12_insertAt_12 {d : Nat} {M : g_M} {Q : g_M → Prop} {a0 : Nat} {v1 : Int} (hv1 : g_InR v1) {v2 : Int} (hv2 : g_InR v2) {v3 : Int} (hv3 : g_InR v3) {v4 : Int} (hv4 : g_InR v4) {v5 : Int} (hv5 : g_InR v5) {v6 : Int} (hv6 : g_InR v6) {v7 : Int} (hv7 : g_InR v7) (h : g_ok M → ((v3 < v7 → g_O M a0 12 ∧ ∃ b35, g_r M a0 51 = some b35 ∧ g_Call d 369 [.ref a0, g_n v1, g_n v2, g_n v7] M (g_qI fun r40 M37 => g_ext M M37 → g_ok M37 → g_InR r40 → ∃ b42, g_r M37 a0 51 = some b42 ∧ g_InR (v7 - 1) ∧ g_Call d 369 [.ref a0, g_n v1, g_n v2, g_n (v7 - 1)] M37 (g_qI fun r48 M45 => g_ext M37 M45 → g_ok M45 → g_InR r48 → ∃ n50, g_A M45 b42 1 n50 ∧ ((0 : Int) ≤ r48 ∧ (r48 : Int) < n50) ∧ ∃ n53, g_A M45 b35 1 n53 ∧ ((0 : Int) ≤ r40 ∧ (r40 : Int) < n53) ∧ (∀ M56, M56 = g_wi M45 b35 r40 (g_i M45 b42 r48) → g_ok M56 → ∃ b60, g_r M56 a0 52 = some b60 ∧ g_Call d 369 [.ref a0, g_n v1, g_n v2, g_n v7] M56 (g_qI fun r65 M62 => g_ext M56 M62 → g_ok M62 → g_InR r65 → ∃ b67, g_r M62 a0 52 = some b67 ∧ g_InR (v7 - 1) ∧ g_Call d 369 [.ref a0, g_n v1, g_n v2, g_n (v7 - 1)] M62 (g_qI fun r73 M70 => g_ext M62 M70 → g_ok M70 → g_InR r73 → ∃ n75, g_A M70 b67 1 n75 ∧ ((0 : Int) ≤ r73 ∧ (r73 : Int) < n75) ∧ ∃ n78, g_A M70 b60 1 n78 ∧ ((0 : Int) ≤ r65 ∧ (r65 : Int) < n78) ∧ (∀ M81, M81 = g_wi M70 b60 r65 (g_i M70 b67 r73) → g_ok M81 → g_InR (v7 + (-1)) ∧ g_Run d 372 12 [(0, .ref a0), (1, g_n v1), (2, g_n v2), (3, g_n v3), (4, g_n v4), (5, g_n v5), (6, g_n v6), (7, g_n (v7 + (-1)))] [] M81 (g_qV Q)))))))) ∧ (¬ v3 < v7 → g_O M a0 12 ∧ ∃ b2, g_r M a0 51 = some b2 ∧ g_Call d 369 [.ref a0, g_n v1, g_n v2, g_n v3] M (g_qI fun r7 M4 => g_ext M M4 → g_ok M4 → g_InR r7 → ∃ n9, g_A M4 b2 1 n9 ∧ ((0 : Int) ≤ r7 ∧ (r7 : Int) < n9) ∧ (∀ M12, M12 = g_wi M4 b2 r7 v4 → g_ok M12 → ∃ b16, g_r M12 a0 52 = some b16 ∧ g_Call d 369 [.ref a0, g_n v1, g_n v2, g_n v3] M12 (g_qI fun r21 M18 => g_ext M12 M18 → g_ok M18 → g_InR r21 → ∃ n23, g_A M18 b16 1 n23 ∧ ((0 : Int) ≤ r21 ∧ (r21 : Int) < n23) ∧ (∀ M26, M26 = g_wi M18 b16 r21 v5 → g_ok M26 → g_InR (v6 + 1) ∧ g_Call d 368 [.ref a0, g_n v1, g_n v2, g_n (v6 + 1)] M26 (g_qV fun M31 => g_ext M26 M31 → g_ok M31 → Q M31)))))))) : g_Run d 372 12 [(0, .ref a0), (1, g_n v1), (2, g_n v2), (3, g_n v3), (4, g_n v4), (5, g_n v5), (6, g_n v6), (7, g_n v7)] [] M (g_qV Q) := by
  refine g_Run.ok fun hok => ?_
  replace h := h hok
  refine r_iload x_372_12 rfl ?_
  refine r_iload_n x_372_14 rfl ?_
  refine r_ic_le x_372_15 (t := 80) (by decide +kernel) hv7 hv3 (fun hc => ?_) (fun hc => ?_)
  · replace h := h.2 hc
    refine r_aload_n x_372_80 rfl ?_
    obtain ⟨hO1, h⟩ := h
    obtain ⟨b2, hb3, h⟩ := h
    refine r_getR x_372_81 rfl (ci := 12) (k := 51) (ns := 0) (by decide +kernel) (by decide) rfl (kz := 51) rfl hO1 hb3 ?_
    refine r_aload_n x_372_84 rfl ?_
    refine r_iload_n x_372_85 rfl ?_
    refine r_iload_n x_372_86 rfl ?_
    refine r_iload_n x_372_87 rfl ?_
    refine r_invV x_372_88 (z := 369) (ns := 0) (by decide +kernel) (as := [g_n v1, g_n v2, g_n v3]) (r := [.ref b2]) rfl rfl rfl hO1 rfl rfl ?_
    refine r_callI h fun r7 M4 hx5 hok6 hr8 h => ?_
    replace h := h hx5 hok6 hr8
    replace hO1 := hO1.up hx5
    refine r_iload x_372_91 rfl ?_
    obtain ⟨n9, hA10, h⟩ := h
    obtain ⟨h11, h⟩ := h
    refine r_iast x_372_93 hA10 hr8 h11.1 h11.2 hv4 ?_
    obtain ⟨M12, hM13⟩ : ∃ Mz, Mz = g_wi M4 b2 r7 v4 := ⟨_, rfl⟩
    rw [← hM13]
    refine g_Run.ok fun hok14 => ?_
    replace h := h M12 hM13 hok14
    have hx15 := g_extW hM13
    replace hO1 := hO1.up hx15
    replace hA10 := hA10.up hx15
    refine r_aload_n x_372_94 rfl ?_
    obtain ⟨b16, hb17, h⟩ := h
    refine r_getR x_372_95 rfl (ci := 12) (k := 52) (ns := 0) (by decide +kernel) (by decide) rfl (kz := 52) rfl hO1 hb17 ?_
    refine r_aload_n x_372_98 rfl ?_
    refine r_iload_n x_372_99 rfl ?_
    refine r_iload_n x_372_100 rfl ?_
    refine r_iload_n x_372_101 rfl ?_
    refine r_invV x_372_102 (z := 369) (ns := 0) (by decide +kernel) (as := [g_n v1, g_n v2, g_n v3]) (r := [.ref b16]) rfl rfl rfl hO1 rfl rfl ?_
    refine r_callI h fun r21 M18 hx19 hok20 hr22 h => ?_
    replace h := h hx19 hok20 hr22
    replace hO1 := hO1.up hx19
    replace hA10 := hA10.up hx19
    refine r_iload x_372_105 rfl ?_
    obtain ⟨n23, hA24, h⟩ := h
    obtain ⟨h25, h⟩ := h
    refine r_iast x_372_107 hA24 hr22 h25.1 h25.2 hv5 ?_
    obtain ⟨M26, hM27⟩ : ∃ Mz, Mz = g_wi M18 b16 r21 v5 := ⟨_, rfl⟩
    rw [← hM27]
    refine g_Run.ok fun hok28 => ?_
    replace h := h M26 hM27 hok28
    have hx29 := g_extW hM27
    replace hO1 := hO1.up hx29
    replace hA10 := hA10.up hx29
    replace hA24 := hA24.up hx29
    refine r_aload_n x_372_108 rfl ?_
    refine r_iload_n x_372_109 rfl ?_
    refine r_iload_n x_372_110 rfl ?_
    refine r_iload x_372_111 rfl ?_
    refine r_iconst x_372_113 ?_
    refine r_iadd x_372_114 ?_
    obtain ⟨h30, h⟩ := h
    refine r_invV x_372_115 (z := 368) (ns := 0) (by decide +kernel) (as := [g_n v1, g_n v2, g_n (v6 + 1)]) (r := []) rfl rfl rfl hO1 rfl rfl ?_
    refine r_callV h fun M31 hx32 hok33 h => ?_
    replace h := h hx32 hok33
    replace hO1 := hO1.up hx32
    replace hA10 := hA10.up hx32
    replace hA24 := hA24.up hx32
    exact r_retV x_372_118 rfl h
  · replace h := h.1 hc
    refine r_aload_n x_372_18 rfl ?_
    obtain ⟨hO34, h⟩ := h
    obtain ⟨b35, hb36, h⟩ := h
    refine r_getR x_372_19 rfl (ci := 12) (k := 51) (ns := 0) (by decide +kernel) (by decide) rfl (kz := 51) rfl hO34 hb36 ?_
    refine r_aload_n x_372_22 rfl ?_
    refine r_iload_n x_372_23 rfl ?_
    refine r_iload_n x_372_24 rfl ?_
    refine r_iload x_372_25 rfl ?_
    refine r_invV x_372_27 (z := 369) (ns := 0) (by decide +kernel) (as := [g_n v1, g_n v2, g_n v7]) (r := [.ref b35]) rfl rfl rfl hO34 rfl rfl ?_
    refine r_callI h fun r40 M37 hx38 hok39 hr41 h => ?_
    replace h := h hx38 hok39 hr41
    replace hO34 := hO34.up hx38
    refine r_aload_n x_372_30 rfl ?_
    obtain ⟨b42, hb43, h⟩ := h
    refine r_getR x_372_31 rfl (ci := 12) (k := 51) (ns := 0) (by decide +kernel) (by decide) rfl (kz := 51) rfl hO34 hb43 ?_
    refine r_aload_n x_372_34 rfl ?_
    refine r_iload_n x_372_35 rfl ?_
    refine r_iload_n x_372_36 rfl ?_
    refine r_iload x_372_37 rfl ?_
    refine r_iconst x_372_39 ?_
    refine r_isub x_372_40 ?_
    obtain ⟨h44, h⟩ := h
    refine r_invV x_372_41 (z := 369) (ns := 0) (by decide +kernel) (as := [g_n v1, g_n v2, g_n (v7 - 1)]) (r := [.ref b42, g_n r40, .ref b35]) rfl rfl rfl hO34 rfl rfl ?_
    refine r_callI h fun r48 M45 hx46 hok47 hr49 h => ?_
    replace h := h hx46 hok47 hr49
    replace hO34 := hO34.up hx46
    obtain ⟨n50, hA51, h⟩ := h
    obtain ⟨h52, h⟩ := h
    refine r_iald x_372_44 hA51 hr49 h52.1 h52.2 ?_
    obtain ⟨n53, hA54, h⟩ := h
    obtain ⟨h55, h⟩ := h
    refine r_iast x_372_45 hA54 hr41 h55.1 h55.2 (hok47.1 _ _) ?_
    obtain ⟨M56, hM57⟩ : ∃ Mz, Mz = g_wi M45 b35 r40 (g_i M45 b42 r48) := ⟨_, rfl⟩
    rw [← hM57]
    refine g_Run.ok fun hok58 => ?_
    replace h := h M56 hM57 hok58
    have hx59 := g_extW hM57
    replace hO34 := hO34.up hx59
    replace hA51 := hA51.up hx59
    replace hA54 := hA54.up hx59
    refine r_aload_n x_372_46 rfl ?_
    obtain ⟨b60, hb61, h⟩ := h
    refine r_getR x_372_47 rfl (ci := 12) (k := 52) (ns := 0) (by decide +kernel) (by decide) rfl (kz := 52) rfl hO34 hb61 ?_
    refine r_aload_n x_372_50 rfl ?_
    refine r_iload_n x_372_51 rfl ?_
    refine r_iload_n x_372_52 rfl ?_
    refine r_iload x_372_53 rfl ?_
    refine r_invV x_372_55 (z := 369) (ns := 0) (by decide +kernel) (as := [g_n v1, g_n v2, g_n v7]) (r := [.ref b60]) rfl rfl rfl hO34 rfl rfl ?_
    refine r_callI h fun r65 M62 hx63 hok64 hr66 h => ?_
    replace h := h hx63 hok64 hr66
    replace hO34 := hO34.up hx63
    replace hA51 := hA51.up hx63
    replace hA54 := hA54.up hx63
    refine r_aload_n x_372_58 rfl ?_
    obtain ⟨b67, hb68, h⟩ := h
    refine r_getR x_372_59 rfl (ci := 12) (k := 52) (ns := 0) (by decide +kernel) (by decide) rfl (kz := 52) rfl hO34 hb68 ?_
    refine r_aload_n x_372_62 rfl ?_
    refine r_iload_n x_372_63 rfl ?_
    refine r_iload_n x_372_64 rfl ?_
    refine r_iload x_372_65 rfl ?_
    refine r_iconst x_372_67 ?_
    refine r_isub x_372_68 ?_
    obtain ⟨h69, h⟩ := h
    refine r_invV x_372_69 (z := 369) (ns := 0) (by decide +kernel) (as := [g_n v1, g_n v2, g_n (v7 - 1)]) (r := [.ref b67, g_n r65, .ref b60]) rfl rfl rfl hO34 rfl rfl ?_
    refine r_callI h fun r73 M70 hx71 hok72 hr74 h => ?_
    replace h := h hx71 hok72 hr74
    replace hO34 := hO34.up hx71
    replace hA51 := hA51.up hx71
    replace hA54 := hA54.up hx71
    obtain ⟨n75, hA76, h⟩ := h
    obtain ⟨h77, h⟩ := h
    refine r_iald x_372_72 hA76 hr74 h77.1 h77.2 ?_
    obtain ⟨n78, hA79, h⟩ := h
    obtain ⟨h80, h⟩ := h
    refine r_iast x_372_73 hA79 hr66 h80.1 h80.2 (hok72.1 _ _) ?_
    obtain ⟨M81, hM82⟩ : ∃ Mz, Mz = g_wi M70 b60 r65 (g_i M70 b67 r73) := ⟨_, rfl⟩
    rw [← hM82]
    refine g_Run.ok fun hok83 => ?_
    replace h := h M81 hM82 hok83
    have hx84 := g_extW hM82
    replace hO34 := hO34.up hx84
    replace hA51 := hA51.up hx84
    replace hA54 := hA54.up hx84
    replace hA76 := hA76.up hx84
    replace hA79 := hA79.up hx84
    obtain ⟨h85, h⟩ := h
    refine r_iinc x_372_74 (by decide +kernel) rfl rfl (lv1 := [(0, .ref a0), (1, g_n v1), (2, g_n v2), (3, g_n v3), (4, g_n v4), (5, g_n v5), (6, g_n v6), (7, g_n (v7 + (-1)))]) rfl ?_
    refine r_goto x_372_77 (t := 12) (by decide +kernel) ?_
    exact h
theorem m_X12_removeAt {d : Nat} {M : g_M} {Q : g_M → Prop} {a0 : Nat} {v1 : Int} (hv1 : g_InR v1) {v2 : Int} (hv2 : g_InR v2) {v3 : Int} (hv3 : g_InR v3) (h : g_ok M → g_O M a0 12 ∧ g_Call d 367 [.ref a0, g_n v1, g_n v2] M (g_qI fun r5 M2 => g_ext M M2 → g_ok M2 → g_InR r5 → g_InR (r5 - 1) ∧ g_Run d 373 13 [(0, .ref a0), (1, g_n v1), (2, g_n v2), (3, g_n v3), (4, g_n (r5 - 1)), (5, g_n v3)] [] M2 (g_qV Q))) : g_Call (d + 1) 373 [.ref a0, g_n v1, g_n v2, g_n v3] M (g_qV Q) := by
  refine g_Call.ok fun hok0 => ?_
  replace h := h hok0
  refine r_body rfl (lv := [(0, .ref a0), (1, g_n v1), (2, g_n v2), (3, g_n v3)]) rfl ?_
  refine g_Run.ok fun hok => ?_
  refine r_aload_n x_373_0 rfl ?_
  refine r_iload_n x_373_1 rfl ?_
  refine r_iload_n x_373_2 rfl ?_
  obtain ⟨hO1, h⟩ := h
  refine r_invV x_373_3 (z := 367) (ns := 0) (by decide +kernel) (as := [g_n v1, g_n v2]) (r := []) rfl rfl rfl hO1 rfl rfl ?_
  refine r_callI h fun r5 M2 hx3 hok4 hr6 h => ?_
  replace h := h hx3 hok4 hr6
  replace hO1 := hO1.up hx3
  refine r_iconst x_373_6 ?_
  refine r_isub x_373_7 ?_
  obtain ⟨h7, h⟩ := h
  refine r_istore x_373_8 (by decide +kernel) rfl (lv1 := [(0, .ref a0), (1, g_n v1), (2, g_n v2), (3, g_n v3), (4, g_n (r5 - 1))]) rfl ?_
  refine r_iload_n x_373_10 rfl ?_
  refine r_istore x_373_11 (by decide +kernel) rfl (lv1 := [(0, .ref a0), (1, g_n v1), (2, g_n v2), (3, g_n v3), (4, g_n (r5 - 1)), (5, g_n v3)]) rfl ?_
  exact h
theorem s_X12_removeAt_13 {d : Nat} {M : g_M} {Q : g_M → Prop} {a0 : Nat} {v1 : Int} (hv1 : g_InR v1) {v2 : Int} (hv2 : g_InR v2) {v3 : Int} (hv3 : g_InR v3) {v4 : Int} (hv4 : g_InR v4) {v5 : Int} (hv5 : g_InR v5) (h : g_ok M → ((v5 < v4 → g_O M a0 12 ∧ ∃ b6, g_r M a0 51 = some b6 ∧ g_Call d 369 [.ref a0, g_n v1, g_n v2, g_n v5] M (g_qI fun r11 M8 => g_ext M M8 → g_ok M8 → g_InR r11 → ∃ b13, g_r M8 a0 51 = some b13 ∧ g_InR (v5 + 1) ∧ g_Call d 369 [.ref a0, g_n v1, g_n v2, g_n (v5 + 1)] M8 (g_qI fun r19 M16 => g_ext M8 M16 → g_ok M16 → g_InR r19 → ∃ n21, g_A M16 b13 1 n21 ∧ ((0 : Int) ≤ r19 ∧ (r19 : Int) < n21) ∧ ∃ n24, g_A M16 b6 1 n24 ∧ ((0 : Int) ≤ r11 ∧ (r11 : Int) < n24) ∧ (∀ M27, M27 = g_wi M16 b6 r11 (g_i M16 b13 r19) → g_ok M27 → ∃ b31, g_r M27 a0 52 = some b31 ∧ g_Call d 369 [.ref a0, g_n v1, g_n v2, g_n v5] M27 (g_qI fun r36 M33 => g_ext M27 M33 → g_ok M33 → g_InR r36 → ∃ b38, g_r M33 a0 52 = some b38 ∧ g_InR (v5 + 1) ∧ g_Call d 369 [.ref a0, g_n v1, g_n v2, g_n (v5 + 1)] M33 (g_qI fun r44 M41 => g_ext M33 M41 → g_ok M41 → g_InR r44 → ∃ n46, g_A M41 b38 1 n46 ∧ ((0 : Int) ≤ r44 ∧ (r44 : Int) < n46) ∧ ∃ n49, g_A M41 b31 1 n49 ∧ ((0 : Int) ≤ r36 ∧ (r36 : Int) < n49) ∧ (∀ M52, M52 = g_wi M41 b31 r36 (g_i M41 b38 r44) → g_ok M52 → g_InR (v5 + 1) ∧ g_Run d 373 13 [(0, .ref a0), (1, g_n v1), (2, g_n v2), (3, g_n v3), (4, g_n v4), (5, g_n (v5 + 1))] [] M52 (g_qV Q)))))))) ∧ (¬ v5 < v4 → g_O M a0 12 ∧ g_Call d 368 [.ref a0, g_n v1, g_n v2, g_n v4] M (g_qV fun M2 => g_ext M M2 → g_ok M2 → Q M2)))) : g_Run d 373 13 [(0, .ref a0), (1, g_n v1), (2, g_n v2), (3, g_n v3), (4, g_n v4), (5, g_n v5)] [] M (g_qV Q) := by
  refine g_Run.ok fun hok => ?_
  replace h := h hok
  refine r_iload x_373_13 rfl ?_
  refine r_iload x_373_15 rfl ?_
  refine r_ic_ge x_373_17 (t := 82) (by decide +kernel) hv5 hv4 (fun hc => ?_) (fun hc => ?_)
  · replace h := h.2 hc
    refine r_aload_n x_373_82 rfl ?_
    refine r_iload_n x_373_83 rfl ?_
    refine r_iload_n x_373_84 rfl ?_
    refine r_iload x_373_85 rfl ?_
    obtain ⟨hO1, h⟩ := h
    refine r_invV x_373_87 (z := 368) (ns := 0) (by decide +kernel) (as := [g_n v1, g_n v2, g_n v4]) (r := []) rfl rfl rfl hO1 rfl rfl ?_
    refine r_callV h fun M2 hx3 hok4 h => ?_
    replace h := h hx3 hok4
    replace hO1 := hO1.up hx3
    exact r_retV x_373_90 rfl h
  · replace h := h.1 hc
    refine r_aload_n x_373_20 rfl ?_
    obtain ⟨hO5, h⟩ := h
    obtain ⟨b6, hb7, h⟩ := h
    refine r_getR x_373_21 rfl (ci := 12) (k := 51) (ns := 0) (by decide +kernel) (by decide) rfl (kz := 51) rfl hO5 hb7 ?_
    refine r_aload_n x_373_24 rfl ?_
    refine r_iload_n x_373_25 rfl ?_
    refine r_iload_n x_373_26 rfl ?_
    refine r_iload x_373_27 rfl ?_
    refine r_invV x_373_29 (z := 369) (ns := 0) (by decide +kernel) (as := [g_n v1, g_n v2, g_n v5]) (r := [.ref b6]) rfl rfl rfl hO5 rfl rfl ?_
    refine r_callI h fun r11 M8 hx9 hok10 hr12 h => ?_
    replace h := h hx9 hok10 hr12
    replace hO5 := hO5.up hx9
    refine r_aload_n x_373_32 rfl ?_
    obtain ⟨b13, hb14, h⟩ := h
    refine r_getR x_373_33 rfl (ci := 12) (k := 51) (ns := 0) (by decide +kernel) (by decide) rfl (kz := 51) rfl hO5 hb14 ?_
    refine r_aload_n x_373_36 rfl ?_
    refine r_iload_n x_373_37 rfl ?_
    refine r_iload_n x_373_38 rfl ?_
    refine r_iload x_373_39 rfl ?_
    refine r_iconst x_373_41 ?_
    refine r_iadd x_373_42 ?_
    obtain ⟨h15, h⟩ := h
    refine r_invV x_373_43 (z := 369) (ns := 0) (by decide +kernel) (as := [g_n v1, g_n v2, g_n (v5 + 1)]) (r := [.ref b13, g_n r11, .ref b6]) rfl rfl rfl hO5 rfl rfl ?_
    refine r_callI h fun r19 M16 hx17 hok18 hr20 h => ?_
    replace h := h hx17 hok18 hr20
    replace hO5 := hO5.up hx17
    obtain ⟨n21, hA22, h⟩ := h
    obtain ⟨h23, h⟩ := h
    refine r_iald x_373_46 hA22 hr20 h23.1 h23.2 ?_
    obtain ⟨n24, hA25, h⟩ := h
    obtain ⟨h26, h⟩ := h
    refine r_iast x_373_47 hA25 hr12 h26.1 h26.2 (hok18.1 _ _) ?_
    obtain ⟨M27, hM28⟩ : ∃ Mz, Mz = g_wi M16 b6 r11 (g_i M16 b13 r19) := ⟨_, rfl⟩
    rw [← hM28]
    refine g_Run.ok fun hok29 => ?_
    replace h := h M27 hM28 hok29
    have hx30 := g_extW hM28
    replace hO5 := hO5.up hx30
    replace hA22 := hA22.up hx30
    replace hA25 := hA25.up hx30
    refine r_aload_n x_373_48 rfl ?_
    obtain ⟨b31, hb32, h⟩ := h
    refine r_getR x_373_49 rfl (ci := 12) (k := 52) (ns := 0) (by decide +kernel) (by decide) rfl (kz := 52) rfl hO5 hb32 ?_
    refine r_aload_n x_373_52 rfl ?_
    refine r_iload_n x_373_53 rfl ?_
    refine r_iload_n x_373_54 rfl ?_
    refine r_iload x_373_55 rfl ?_
    refine r_invV x_373_57 (z := 369) (ns := 0) (by decide +kernel) (as := [g_n v1, g_n v2, g_n v5]) (r := [.ref b31]) rfl rfl rfl hO5 rfl rfl ?_
    refine r_callI h fun r36 M33 hx34 hok35 hr37 h => ?_
    replace h := h hx34 hok35 hr37
    replace hO5 := hO5.up hx34
    replace hA22 := hA22.up hx34
    replace hA25 := hA25.up hx34
    refine r_aload_n x_373_60 rfl ?_
    obtain ⟨b38, hb39, h⟩ := h
    refine r_getR x_373_61 rfl (ci := 12) (k := 52) (ns := 0) (by decide +kernel) (by decide) rfl (kz := 52) rfl hO5 hb39 ?_
    refine r_aload_n x_373_64 rfl ?_
    refine r_iload_n x_373_65 rfl ?_
    refine r_iload_n x_373_66 rfl ?_
    refine r_iload x_373_67 rfl ?_
    refine r_iconst x_373_69 ?_
    refine r_iadd x_373_70 ?_
    obtain ⟨h40, h⟩ := h
    refine r_invV x_373_71 (z := 369) (ns := 0) (by decide +kernel) (as := [g_n v1, g_n v2, g_n (v5 + 1)]) (r := [.ref b38, g_n r36, .ref b31]) rfl rfl rfl hO5 rfl rfl ?_
    refine r_callI h fun r44 M41 hx42 hok43 hr45 h => ?_
    replace h := h hx42 hok43 hr45
    replace hO5 := hO5.up hx42
    replace hA22 := hA22.up hx42
    replace hA25 := hA25.up hx42
    obtain ⟨n46, hA47, h⟩ := h
    obtain ⟨h48, h⟩ := h
    refine r_iald x_373_74 hA47 hr45 h48.1 h48.2 ?_
    obtain ⟨n49, hA50, h⟩ := h
    obtain ⟨h51, h⟩ := h
    refine r_iast x_373_75 hA50 hr37 h51.1 h51.2 (hok43.1 _ _) ?_
    obtain ⟨M52, hM53⟩ : ∃ Mz, Mz = g_wi M41 b31 r36 (g_i M41 b38 r44) := ⟨_, rfl⟩
    rw [← hM53]
    refine g_Run.ok fun hok54 => ?_
    replace h := h M52 hM53 hok54
    have hx55 := g_extW hM53
    replace hO5 := hO5.up hx55
    replace hA22 := hA22.up hx55
    replace hA25 := hA25.up hx55
    replace hA47 := hA47.up hx55
    replace hA50 := hA50.up hx55
    obtain ⟨h56, h⟩ := h
    refine r_iinc x_373_76 (by decide +kernel) rfl rfl (lv1 := [(0, .ref a0), (1, g_n v1), (2, g_n v2), (3, g_n v3), (4, g_n v4), (5, g_n (v5 + 1))]) rfl ?_
    refine r_goto x_373_79 (t := 13) (by decide +kernel) ?_
    exact h
theorem m_X12_downTo {d : Nat} {M : g_M} {Q : Int → g_M → Prop} {a0 : Nat} {v1 : Int} (hv1 : g_InR v1) {v2 : Int} (hv2 : g_InR v2) {v3 : Int} (hv3 : g_InR v3) (h : g_ok M → g_Run d 374 3 [(0, .ref a0), (1, g_n v1), (2, g_n v2), (3, g_n v3), (4, g_n 0)] [] M (g_qI Q)) : g_Call (d + 1) 374 [.ref a0, g_n v1, g_n v2, g_n v3] M (g_qI Q) := by
  refine g_Call.ok fun hok0 => ?_
  replace h := h hok0
  refine r_body rfl (lv := [(0, .ref a0), (1, g_n v1), (2, g_n v2), (3, g_n v3)]) rfl ?_
  refine g_Run.ok fun hok => ?_
  refine r_iconst x_374_0 ?_
  refine r_istore x_374_1 (by decide +kernel) rfl (lv1 := [(0, .ref a0), (1, g_n v1), (2, g_n v2), (3, g_n v3), (4, g_n 0)]) rfl ?_
  exact h
theorem s_X12_downTo_3 {d : Nat} {M : g_M} {Q : Int → g_M → Prop} {a0 : Nat} {v1 : Int} (hv1 : g_InR v1) {v2 : Int} (hv2 : g_InR v2) {v3 : Int} (hv3 : g_InR v3) {v4 : Int} (hv4 : g_InR v4) (h : g_ok M → g_InR (v4 + 1) ∧ g_O M a0 12 ∧ g_Call d 367 [.ref a0, g_n v1, g_n v2] M (g_qI fun r6 M3 => g_ext M M3 → g_ok M3 → g_InR r6 → ((v4 + 1 < r6 → ∃ b8, g_r M3 a0 52 = some b8 ∧ g_InR (v4 + 1) ∧ g_Call d 369 [.ref a0, g_n v1, g_n v2, g_n (v4 + 1)] M3 (g_qI fun r14 M11 => g_ext M3 M11 → g_ok M11 → g_InR r14 → ∃ n16, g_A M11 b8 1 n16 ∧ ((0 : Int) ≤ r14 ∧ (r14 : Int) < n16) ∧ g_Call d 366 [.ref a0, g_n v1, g_n (g_i M11 b8 r14), g_n v3] M11 (g_qI fun r22 M19 => g_ext M11 M19 → g_ok M19 → g_InR r22 → ((0 < r22 → Q v4 M19) ∧ (¬ 0 < r22 → g_InR (v4 + 1) ∧ g_Run d 374 3 [(0, .ref a0), (1, g_n v1), (2, g_n v2), (3, g_n v3), (4, g_n (v4 + 1))] [] M19 (g_qI Q)))))) ∧ (¬ v4 + 1 < r6 → Q v4 M3)))) : g_Run d 374 3 [(0, .ref a0), (1, g_n v1), (2, g_n v2), (3, g_n v3), (4, g_n v4)] [] M (g_qI Q) := by
  refine g_Run.ok fun hok => ?_
  replace h := h hok
  refine r_iload x_374_3 rfl ?_
  refine r_iconst x_374_5 ?_
  refine r_iadd x_374_6 ?_
  obtain ⟨h1, h⟩ := h
  refine r_aload_n x_374_7 rfl ?_
  refine r_iload_n x_374_8 rfl ?_
  refine r_iload_n x_374_9 rfl ?_
  obtain ⟨hO2, h⟩ := h
  refine r_invV x_374_10 (z := 367) (ns := 0) (by decide +kernel) (as := [g_n v1, g_n v2]) (r := [g_n (v4 + 1)]) rfl rfl rfl hO2 rfl rfl ?_
  refine r_callI h fun r6 M3 hx4 hok5 hr7 h => ?_
  replace h := h hx4 hok5 hr7
  replace hO2 := hO2.up hx4
  refine r_ic_ge x_374_13 (t := 46) (by decide +kernel) h1 hr7 (fun hc => ?_) (fun hc => ?_)
  · replace h := h.2 hc
    refine r_iload x_374_46 rfl ?_
    exact r_retI x_374_48 rfl hv4 h
  · replace h := h.1 hc
    refine r_aload_n x_374_16 rfl ?_
    refine r_iload_n x_374_17 rfl ?_
    refine r_aload_n x_374_18 rfl ?_
    obtain ⟨b8, hb9, h⟩ := h
    refine r_getR x_374_19 rfl (ci := 12) (k := 52) (ns := 0) (by decide +kernel) (by decide) rfl (kz := 52) rfl hO2 hb9 ?_
    refine r_aload_n x_374_22 rfl ?_
    refine r_iload_n x_374_23 rfl ?_
    refine r_iload_n x_374_24 rfl ?_
    refine r_iload x_374_25 rfl ?_
    refine r_iconst x_374_27 ?_
    refine r_iadd x_374_28 ?_
    obtain ⟨h10, h⟩ := h
    refine r_invV x_374_29 (z := 369) (ns := 0) (by decide +kernel) (as := [g_n v1, g_n v2, g_n (v4 + 1)]) (r := [.ref b8, g_n v1, .ref a0]) rfl rfl rfl hO2 rfl rfl ?_
    refine r_callI h fun r14 M11 hx12 hok13 hr15 h => ?_
    replace h := h hx12 hok13 hr15
    replace hO2 := hO2.up hx12
    obtain ⟨n16, hA17, h⟩ := h
    obtain ⟨h18, h⟩ := h
    refine r_iald x_374_32 hA17 hr15 h18.1 h18.2 ?_
    refine r_iload_n x_374_33 rfl ?_
    refine r_invV x_374_34 (z := 366) (ns := 0) (by decide +kernel) (as := [g_n v1, g_n (g_i M11 b8 r14), g_n v3]) (r := []) rfl rfl rfl hO2 rfl rfl ?_
    refine r_callI h fun r22 M19 hx20 hok21 hr23 h => ?_
    replace h := h hx20 hok21 hr23
    replace hO2 := hO2.up hx20
    replace hA17 := hA17.up hx20
    refine r_if_gt x_374_37 (t := 46) (by decide +kernel) hr23 (fun hc => ?_) (fun hc => ?_)
    · replace h := h.1 hc
      refine r_iload x_374_46 rfl ?_
      exact r_retI x_374_48 rfl hv4 h
    · replace h := h.2 hc
      obtain ⟨h24, h⟩ := h
      refine r_iinc x_374_40 (by decide +kernel) rfl rfl (lv1 := [(0, .ref a0), (1, g_n v1), (2, g_n v2), (3, g_n v3), (4, g_n (v4 + 1))]) rfl ?_
      refine r_goto x_374_43 (t := 3) (by decide +kernel) ?_
      exact h
theorem m_X12_placeIn {d : Nat} {M : g_M} {Q : Int → g_M → Prop} {a0 : Nat} {v1 : Int} (hv1 : g_InR v1) {v2 : Int} (hv2 : g_InR v2) {v3 : Int} (hv3 : g_InR v3) (h : g_ok M → g_Run d 375 3 [(0, .ref a0), (1, g_n v1), (2, g_n v2), (3, g_n v3), (4, g_n 0)] [] M (g_qI Q)) : g_Call (d + 1) 375 [.ref a0, g_n v1, g_n v2, g_n v3] M (g_qI Q) := by
  refine g_Call.ok fun hok0 => ?_
  replace h := h hok0
  refine r_body rfl (lv := [(0, .ref a0), (1, g_n v1), (2, g_n v2), (3, g_n v3)]) rfl ?_
  refine g_Run.ok fun hok => ?_
  refine r_iconst x_375_0 ?_
  refine r_istore x_375_1 (by decide +kernel) rfl (lv1 := [(0, .ref a0), (1, g_n v1), (2, g_n v2), (3, g_n v3), (4, g_n 0)]) rfl ?_
  exact h
theorem s_X12_placeIn_3 {d : Nat} {M : g_M} {Q : Int → g_M → Prop} {a0 : Nat} {v1 : Int} (hv1 : g_InR v1) {v2 : Int} (hv2 : g_InR v2) {v3 : Int} (hv3 : g_InR v3) {v4 : Int} (hv4 : g_InR v4) (h : g_ok M → g_O M a0 12 ∧ g_Call d 367 [.ref a0, g_n v1, g_n v2] M (g_qI fun r5 M2 => g_ext M M2 → g_ok M2 → g_InR r5 → ((v4 < r5 → ∃ b7, g_r M2 a0 51 = some b7 ∧ g_Call d 369 [.ref a0, g_n v1, g_n v2, g_n v4] M2 (g_qI fun r12 M9 => g_ext M2 M9 → g_ok M9 → g_InR r12 → ∃ n14, g_A M9 b7 1 n14 ∧ ((0 : Int) ≤ r12 ∧ (r12 : Int) < n14) ∧ g_Call d 366 [.ref a0, g_n v1, g_n (g_i M9 b7 r12), g_n v3] M9 (g_qI fun r20 M17 => g_ext M9 M17 → g_ok M17 → g_InR r20 → ((r20 < 0 → g_InR (v4 + 1) ∧ g_Run d 375 3 [(0, .ref a0), (1, g_n v1), (2, g_n v2), (3, g_n v3), (4, g_n (v4 + 1))] [] M17 (g_qI Q)) ∧ (¬ r20 < 0 → Q v4 M17))))) ∧ (¬ v4 < r5 → Q v4 M2)))) : g_Run d 375 3 [(0, .ref a0), (1, g_n v1), (2, g_n v2), (3, g_n v3), (4, g_n v4)] [] M (g_qI Q) := by
  refine g_Run.ok fun hok => ?_
  replace h := h hok
  refine r_iload x_375_3 rfl ?_
  refine r_aload_n x_375_5 rfl ?_
  refine r_iload_n x_375_6 rfl ?_
  refine r_iload_n x_375_7 rfl ?_
  obtain ⟨hO1, h⟩ := h
  refine r_invV x_375_8 (z := 367) (ns := 0) (by decide +kernel) (as := [g_n v1, g_n v2]) (r := [g_n v4]) rfl rfl rfl hO1 rfl rfl ?_
  refine r_callI h fun r5 M2 hx3 hok4 hr6 h => ?_
  replace h := h hx3 hok4 hr6
  replace hO1 := hO1.up hx3
  refine r_ic_ge x_375_11 (t := 42) (by decide +kernel) hv4 hr6 (fun hc => ?_) (fun hc => ?_)
  · replace h := h.2 hc
    refine r_iload x_375_42 rfl ?_
    exact r_retI x_375_44 rfl hv4 h
  · replace h := h.1 hc
    refine r_aload_n x_375_14 rfl ?_
    refine r_iload_n x_375_15 rfl ?_
    refine r_aload_n x_375_16 rfl ?_
    obtain ⟨b7, hb8, h⟩ := h
    refine r_getR x_375_17 rfl (ci := 12) (k := 51) (ns := 0) (by decide +kernel) (by decide) rfl (kz := 51) rfl hO1 hb8 ?_
    refine r_aload_n x_375_20 rfl ?_
    refine r_iload_n x_375_21 rfl ?_
    refine r_iload_n x_375_22 rfl ?_
    refine r_iload x_375_23 rfl ?_
    refine r_invV x_375_25 (z := 369) (ns := 0) (by decide +kernel) (as := [g_n v1, g_n v2, g_n v4]) (r := [.ref b7, g_n v1, .ref a0]) rfl rfl rfl hO1 rfl rfl ?_
    refine r_callI h fun r12 M9 hx10 hok11 hr13 h => ?_
    replace h := h hx10 hok11 hr13
    replace hO1 := hO1.up hx10
    obtain ⟨n14, hA15, h⟩ := h
    obtain ⟨h16, h⟩ := h
    refine r_iald x_375_28 hA15 hr13 h16.1 h16.2 ?_
    refine r_iload_n x_375_29 rfl ?_
    refine r_invV x_375_30 (z := 366) (ns := 0) (by decide +kernel) (as := [g_n v1, g_n (g_i M9 b7 r12), g_n v3]) (r := []) rfl rfl rfl hO1 rfl rfl ?_
    refine r_callI h fun r20 M17 hx18 hok19 hr21 h => ?_
    replace h := h hx18 hok19 hr21
    replace hO1 := hO1.up hx18
    replace hA15 := hA15.up hx18
    refine r_if_ge x_375_33 (t := 42) (by decide +kernel) hr21 (fun hc => ?_) (fun hc => ?_)
    · replace h := h.2 hc
      refine r_iload x_375_42 rfl ?_
      exact r_retI x_375_44 rfl hv4 h
    · replace h := h.1 hc
      obtain ⟨h22, h⟩ := h
      refine r_iinc x_375_36 (by decide +kernel) rfl rfl (lv1 := [(0, .ref a0), (1, g_n v1), (2, g_n v2), (3, g_n v3), (4, g_n (v4 + 1))]) rfl ?_
      refine r_goto x_375_39 (t := 3) (by decide +kernel) ?_
      exact h
theorem m_X12_isLeafNode {d : Nat} {M : g_M} {Q : Int → g_M → Prop} {a0 : Nat} {v1 : Int} (hv1 : g_InR v1) {v2 : Int} (hv2 : g_InR v2) (h : g_ok M → g_O M a0 12 ∧ ∃ b2, g_r M a0 49 = some b2 ∧ g_InR (v1 * 600) ∧ g_InR ((v1 * 600) + v2) ∧ ∃ n6, g_A M b2 2 n6 ∧ ((0 : Int) ≤ (v1 * 600) + v2 ∧ ((v1 * 600) + v2 : Int) < n6) ∧ (g_i M b2 ((v1 * 600) + v2) = 0 ∨ g_i M b2 ((v1 * 600) + v2) = 1) ∧ Q (g_i M b2 ((v1 * 600) + v2)) M) : g_Call (d + 1) 376 [.ref a0, g_n v1, g_n v2] M (g_qI Q) := by
  refine g_Call.ok fun hok0 => ?_
  replace h := h hok0
  refine r_body rfl (lv := [(0, .ref a0), (1, g_n v1), (2, g_n v2)]) rfl ?_
  refine g_Run.ok fun hok => ?_
  refine r_aload_n x_376_0 rfl ?_
  obtain ⟨hO1, h⟩ := h
  obtain ⟨b2, hb3, h⟩ := h
  refine r_getR x_376_1 rfl (ci := 12) (k := 49) (ns := 0) (by decide +kernel) (by decide) rfl (kz := 49) rfl hO1 hb3 ?_
  refine r_iload_n x_376_4 rfl ?_
  refine r_sipush x_376_5 (x := 600) rfl ?_
  refine r_imul x_376_8 ?_
  obtain ⟨h4, h⟩ := h
  refine r_iload_n x_376_9 rfl ?_
  refine r_iadd x_376_10 ?_
  obtain ⟨h5, h⟩ := h
  obtain ⟨n6, hA7, h⟩ := h
  obtain ⟨h8, h⟩ := h
  refine r_bald x_376_11 (Or.inr rfl) hA7 h5 h8.1 h8.2 ?_
  obtain ⟨hz, h⟩ := h
  exact r_retZ x_376_12 rfl hz h
theorem m_X12_comes {d : Nat} {M : g_M} {Q : Int → g_M → Prop} {a0 : Nat} {v1 : Int} (hv1 : g_InR v1) {v2 : Int} (hv2 : g_InR v2) {v3 : Int} (hv3 : g_InR v3) (h : g_ok M → g_O M a0 12 ∧ g_Call d 376 [.ref a0, g_n v1, g_n v2] M (g_qI fun r5 M2 => g_ext M M2 → g_ok M2 → g_InR r5 → ((r5 = 0 → g_Call d 374 [.ref a0, g_n v1, g_n v2, g_n v3] M2 (g_qI fun r10 M7 => g_ext M2 M7 → g_ok M7 → g_InR r10 → ∃ b12, g_r M7 a0 51 = some b12 ∧ g_Call d 369 [.ref a0, g_n v1, g_n v2, g_n r10] M7 (g_qI fun r17 M14 => g_ext M7 M14 → g_ok M14 → g_InR r17 → ∃ n19, g_A M14 b12 1 n19 ∧ ((0 : Int) ≤ r17 ∧ (r17 : Int) < n19) ∧ g_Call d 377 [.ref a0, g_n v1, g_n (g_i M14 b12 r17), g_n v3] M14 (g_qI fun r25 M22 => g_ext M14 M22 → g_ok M22 → g_InR r25 → ((r25 = 0 → g_Run d 377 76 [(0, .ref a0), (1, g_n v1), (2, g_n v2), (3, g_n v3)] [] M22 (g_qI Q)) ∧ (¬ r25 = 0 → g_InR (r10 + 1) ∧ g_Call d 372 [.ref a0, g_n v1, g_n v2, g_n (r10 + 1), g_n (g_i M22 a0 55), g_n (g_i M22 a0 56)] M22 (g_qV fun M28 => g_ext M22 M28 → g_ok M28 → g_Run d 377 76 [(0, .ref a0), (1, g_n v1), (2, g_n v2), (3, g_n v3)] [] M28 (g_qI Q)))))))) ∧ (¬ r5 = 0 → g_Call d 375 [.ref a0, g_n v1, g_n v2, g_n v3] M2 (g_qI fun r34 M31 => g_ext M2 M31 → g_ok M31 → g_InR r34 → g_Call d 372 [.ref a0, g_n v1, g_n v2, g_n r34, g_n v3, g_n 0] M31 (g_qV fun M36 => g_ext M31 M36 → g_ok M36 → g_Run d 377 76 [(0, .ref a0), (1, g_n v1), (2, g_n v2), (3, g_n v3)] [] M36 (g_qI Q))))))) : g_Call (d + 1) 377 [.ref a0, g_n v1, g_n v2, g_n v3] M (g_qI Q) := by
  refine g_Call.ok fun hok0 => ?_
  replace h := h hok0
  refine r_body rfl (lv := [(0, .ref a0), (1, g_n v1), (2, g_n v2), (3, g_n v3)]) rfl ?_
  refine g_Run.ok fun hok => ?_
  refine r_aload_n x_377_0 rfl ?_
  refine r_iload_n x_377_1 rfl ?_
  refine r_iload_n x_377_2 rfl ?_
  obtain ⟨hO1, h⟩ := h
  refine r_invV x_377_3 (z := 376) (ns := 0) (by decide +kernel) (as := [g_n v1, g_n v2]) (r := []) rfl rfl rfl hO1 rfl rfl ?_
  refine r_callI h fun r5 M2 hx3 hok4 hr6 h => ?_
  replace h := h hx3 hok4 hr6
  replace hO1 := hO1.up hx3
  refine r_if_eq x_377_6 (t := 27) (by decide +kernel) hr6 (fun hc => ?_) (fun hc => ?_)
  · replace h := h.1 hc
    refine r_aload_n x_377_27 rfl ?_
    refine r_iload_n x_377_28 rfl ?_
    refine r_iload_n x_377_29 rfl ?_
    refine r_iload_n x_377_30 rfl ?_
    refine r_invV x_377_31 (z := 374) (ns := 0) (by decide +kernel) (as := [g_n v1, g_n v2, g_n v3]) (r := []) rfl rfl rfl hO1 rfl rfl ?_
    refine r_callI h fun r10 M7 hx8 hok9 hr11 h => ?_
    replace h := h hx8 hok9 hr11
    replace hO1 := hO1.up hx8
    refine r_istore x_377_34 (by decide +kernel) rfl (lv1 := [(0, .ref a0), (1, g_n v1), (2, g_n v2), (3, g_n v3), (4, g_n r10)]) rfl ?_
    refine r_aload_n x_377_36 rfl ?_
    refine r_iload_n x_377_37 rfl ?_
    refine r_aload_n x_377_38 rfl ?_
    obtain ⟨b12, hb13, h⟩ := h
    refine r_getR x_377_39 rfl (ci := 12) (k := 51) (ns := 0) (by decide +kernel) (by decide) rfl (kz := 51) rfl hO1 hb13 ?_
    refine r_aload_n x_377_42 rfl ?_
    refine r_iload_n x_377_43 rfl ?_
    refine r_iload_n x_377_44 rfl ?_
    refine r_iload x_377_45 rfl ?_
    refine r_invV x_377_47 (z := 369) (ns := 0) (by decide +kernel) (as := [g_n v1, g_n v2, g_n r10]) (r := [.ref b12, g_n v1, .ref a0]) rfl rfl rfl hO1 rfl rfl ?_
    refine r_callI h fun r17 M14 hx15 hok16 hr18 h => ?_
    replace h := h hx15 hok16 hr18
    replace hO1 := hO1.up hx15
    obtain ⟨n19, hA20, h⟩ := h
    obtain ⟨h21, h⟩ := h
    refine r_iald x_377_50 hA20 hr18 h21.1 h21.2 ?_
    refine r_iload_n x_377_51 rfl ?_
    refine r_invV x_377_52 (z := 377) (ns := 0) (by decide +kernel) (as := [g_n v1, g_n (g_i M14 b12 r17), g_n v3]) (r := []) rfl rfl rfl hO1 rfl rfl ?_
    refine r_callI h fun r25 M22 hx23 hok24 hr26 h => ?_
    replace h := h hx23 hok24 hr26
    replace hO1 := hO1.up hx23
    replace hA20 := hA20.up hx23
    refine r_if_eq x_377_55 (t := 76) (by decide +kernel) hr26 (fun hc => ?_) (fun hc => ?_)
    · replace h := h.1 hc
      refine g_drop [0, 1, 2, 3] (lv1 := [(0, .ref a0), (1, g_n v1), (2, g_n v2), (3, g_n v3)]) rfl ?_
      exact h
    · replace h := h.2 hc
      refine r_aload_n x_377_58 rfl ?_
      refine r_iload_n x_377_59 rfl ?_
      refine r_iload_n x_377_60 rfl ?_
      refine r_iload x_377_61 rfl ?_
      refine r_iconst x_377_63 ?_
      refine r_iadd x_377_64 ?_
      obtain ⟨h27, h⟩ := h
      refine r_aload_n x_377_65 rfl ?_
      refine r_getI x_377_66 rfl (ci := 12) (k := 55) (ns := 0) (by decide +kernel) (by decide) rfl (kz := 55) rfl hO1 ?_
      refine r_aload_n x_377_69 rfl ?_
      refine r_getI x_377_70 rfl (ci := 12) (k := 56) (ns := 0) (by decide +kernel) (by decide) rfl (kz := 56) rfl hO1 ?_
      refine r_invV x_377_73 (z := 372) (ns := 0) (by decide +kernel) (as := [g_n v1, g_n v2, g_n (r10 + 1), g_n (g_i M22 a0 55), g_n (g_i M22 a0 56)]) (r := []) rfl rfl rfl hO1 rfl rfl ?_
      refine r_callV h fun M28 hx29 hok30 h => ?_
      replace h := h hx29 hok30
      replace hO1 := hO1.up hx29
      replace hA20 := hA20.up hx29
      refine g_drop [0, 1, 2, 3] (lv1 := [(0, .ref a0), (1, g_n v1), (2, g_n v2), (3, g_n v3)]) rfl ?_
      exact h
  · replace h := h.2 hc
    refine r_aload_n x_377_9 rfl ?_
    refine r_iload_n x_377_10 rfl ?_
    refine r_iload_n x_377_11 rfl ?_
    refine r_aload_n x_377_12 rfl ?_
    refine r_iload_n x_377_13 rfl ?_
    refine r_iload_n x_377_14 rfl ?_
    refine r_iload_n x_377_15 rfl ?_
    refine r_invV x_377_16 (z := 375) (ns := 0) (by decide +kernel) (as := [g_n v1, g_n v2, g_n v3]) (r := [g_n v2, g_n v1, .ref a0]) rfl rfl rfl hO1 rfl rfl ?_
    refine r_callI h fun r34 M31 hx32 hok33 hr35 h => ?_
    replace h := h hx32 hok33 hr35
    replace hO1 := hO1.up hx32
    refine r_iload_n x_377_19 rfl ?_
    refine r_iconst x_377_20 ?_
    refine r_invV x_377_21 (z := 372) (ns := 0) (by decide +kernel) (as := [g_n v1, g_n v2, g_n r34, g_n v3, g_n 0]) (r := []) rfl rfl rfl hO1 rfl rfl ?_
    refine r_callV h fun M36 hx37 hok38 h => ?_
    replace h := h hx37 hok38
    replace hO1 := hO1.up hx37
    refine r_goto x_377_24 (t := 76) (by decide +kernel) ?_
    exact h
theorem s_X12_comes_76 {d : Nat} {M : g_M} {Q : Int → g_M → Prop} {a0 : Nat} {v1 : Int} (hv1 : g_InR v1) {v2 : Int} (hv2 : g_InR v2) {v3 : Int} (hv3 : g_InR v3) (h : g_ok M → g_O M a0 12 ∧ g_Call d 367 [.ref a0, g_n v1, g_n v2] M (g_qI fun r5 M2 => g_ext M M2 → g_ok M2 → g_InR r5 → ((8 < r5 → g_Call d 376 [.ref a0, g_n v1, g_n v2] M2 (g_qI fun r10 M7 => g_ext M2 M7 → g_ok M7 → g_InR r10 → g_Call d 370 [.ref a0, g_n v1, g_n r10] M7 (g_qI fun r15 M12 => g_ext M7 M12 → g_ok M12 → g_InR r15 → g_Call d 367 [.ref a0, g_n v1, g_n v2] M12 (g_qI fun r20 M17 => g_ext M12 M17 → g_ok M17 → g_InR r20 → g_Run d 377 113 [(0, .ref a0), (1, g_n v1), (2, g_n v2), (3, g_n v3), (4, g_n r15), (5, g_n r20), (6, g_n 4)] [] M17 (g_qI Q))))) ∧ (¬ 8 < r5 → Q 0 M2)))) : g_Run d 377 76 [(0, .ref a0), (1, g_n v1), (2, g_n v2), (3, g_n v3)] [] M (g_qI Q) := by
  refine g_Run.ok fun hok => ?_
  replace h := h hok
  refine r_aload_n x_377_76 rfl ?_
  refine r_iload_n x_377_77 rfl ?_
  refine r_iload_n x_377_78 rfl ?_
  obtain ⟨hO1, h⟩ := h
  refine r_invV x_377_79 (z := 367) (ns := 0) (by decide +kernel) (as := [g_n v1, g_n v2]) (r := []) rfl rfl rfl hO1 rfl rfl ?_
  refine r_callI h fun r5 M2 hx3 hok4 hr6 h => ?_
  replace h := h hx3 hok4 hr6
  replace hO1 := hO1.up hx3
  refine r_bipush x_377_82 (x := 8) rfl ?_
  refine r_ic_gt x_377_84 (t := 89) (by decide +kernel) hr6 (g_Rk rfl) (fun hc => ?_) (fun hc => ?_)
  · replace h := h.1 hc
    refine r_aload_n x_377_89 rfl ?_
    refine r_iload_n x_377_90 rfl ?_
    refine r_aload_n x_377_91 rfl ?_
    refine r_iload_n x_377_92 rfl ?_
    refine r_iload_n x_377_93 rfl ?_
    refine r_invV x_377_94 (z := 376) (ns := 0) (by decide +kernel) (as := [g_n v1, g_n v2]) (r := [g_n v1, .ref a0]) rfl rfl rfl hO1 rfl rfl ?_
    refine r_callI h fun r10 M7 hx8 hok9 hr11 h => ?_
    replace h := h hx8 hok9 hr11
    replace hO1 := hO1.up hx8
    refine r_invV x_377_97 (z := 370) (ns := 0) (by decide +kernel) (as := [g_n v1, g_n r10]) (r := []) rfl rfl rfl hO1 rfl rfl ?_
    refine r_callI h fun r15 M12 hx13 hok14 hr16 h => ?_
    replace h := h hx13 hok14 hr16
    replace hO1 := hO1.up hx13
    refine r_istore x_377_100 (by decide +kernel) rfl (lv1 := [(0, .ref a0), (1, g_n v1), (2, g_n v2), (3, g_n v3), (4, g_n r15)]) rfl ?_
    refine r_aload_n x_377_102 rfl ?_
    refine r_iload_n x_377_103 rfl ?_
    refine r_iload_n x_377_104 rfl ?_
    refine r_invV x_377_105 (z := 367) (ns := 0) (by decide +kernel) (as := [g_n v1, g_n v2]) (r := []) rfl rfl rfl hO1 rfl rfl ?_
    refine r_callI h fun r20 M17 hx18 hok19 hr21 h => ?_
    replace h := h hx18 hok19 hr21
    replace hO1 := hO1.up hx18
    refine r_istore x_377_108 (by decide +kernel) rfl (lv1 := [(0, .ref a0), (1, g_n v1), (2, g_n v2), (3, g_n v3), (4, g_n r15), (5, g_n r20)]) rfl ?_
    refine r_iconst x_377_110 ?_
    refine r_istore x_377_111 (by decide +kernel) rfl (lv1 := [(0, .ref a0), (1, g_n v1), (2, g_n v2), (3, g_n v3), (4, g_n r15), (5, g_n r20), (6, g_n 4)]) rfl ?_
    exact h
  · replace h := h.2 hc
    refine r_iconst x_377_87 ?_
    exact r_retZ x_377_88 rfl (Or.inl rfl) h
theorem s_X12_comes_113 {d : Nat} {M : g_M} {Q : Int → g_M → Prop} {a0 : Nat} {v1 : Int} (hv1 : g_InR v1) {v2 : Int} (hv2 : g_InR v2) {v3 : Int} (hv3 : g_InR v3) {v4 : Int} (hv4 : g_InR v4) {v5 : Int} (hv5 : g_InR v5) {v6 : Int} (hv6 : g_InR v6) (h : g_ok M → ((v6 < v5 → g_InR (v6 - 4) ∧ g_O M a0 12 ∧ ∃ b44, g_r M a0 51 = some b44 ∧ g_Call d 369 [.ref a0, g_n v1, g_n v2, g_n v6] M (g_qI fun r49 M46 => g_ext M M46 → g_ok M46 → g_InR r49 → ∃ n51, g_A M46 b44 1 n51 ∧ ((0 : Int) ≤ r49 ∧ (r49 : Int) < n51) ∧ ∃ b54, g_r M46 a0 52 = some b54 ∧ g_Call d 369 [.ref a0, g_n v1, g_n v2, g_n v6] M46 (g_qI fun r59 M56 => g_ext M46 M56 → g_ok M56 → g_InR r59 → ∃ n61, g_A M56 b54 1 n61 ∧ ((0 : Int) ≤ r59 ∧ (r59 : Int) < n61) ∧ g_Call d 372 [.ref a0, g_n v1, g_n v4, g_n (v6 - 4), g_n (g_i M46 b44 r49), g_n (g_i M56 b54 r59)] M56 (g_qV fun M64 => g_ext M56 M64 → g_ok M64 → g_InR (v6 + 1) ∧ g_Run d 377 113 [(0, .ref a0), (1, g_n v1), (2, g_n v2), (3, g_n v3), (4, g_n v4), (5, g_n v5), (6, g_n (v6 + 1))] [] M64 (g_qI Q))))) ∧ (¬ v6 < v5 → g_O M a0 12 ∧ g_Call d 368 [.ref a0, g_n v1, g_n v2, g_n 4] M (g_qV fun M2 => g_ext M M2 → g_ok M2 → (∀ M5, M5 = g_wi M2 a0 55 v4 → g_ok M5 → g_Call d 376 [.ref a0, g_n v1, g_n v2] M5 (g_qI fun r12 M9 => g_ext M5 M9 → g_ok M9 → g_InR r12 → ((r12 = 0 → ∃ b14, g_r M9 a0 52 = some b14 ∧ g_Call d 369 [.ref a0, g_n v1, g_n v4, g_n 0] M9 (g_qI fun r19 M16 => g_ext M9 M16 → g_ok M16 → g_InR r19 → ∃ n21, g_A M16 b14 1 n21 ∧ ((0 : Int) ≤ r19 ∧ (r19 : Int) < n21) ∧ (∀ M24, M24 = g_wi M16 a0 56 (g_i M16 b14 r19) → g_ok M24 → Q 1 M24))) ∧ (¬ r12 = 0 → ∃ b28, g_r M9 a0 51 = some b28 ∧ g_Call d 369 [.ref a0, g_n v1, g_n v4, g_n 0] M9 (g_qI fun r33 M30 => g_ext M9 M30 → g_ok M30 → g_InR r33 → ∃ n35, g_A M30 b28 1 n35 ∧ ((0 : Int) ≤ r33 ∧ (r33 : Int) < n35) ∧ (∀ M38, M38 = g_wi M30 a0 56 (g_i M30 b28 r33) → g_ok M38 → Q 1 M38)))))))))) : g_Run d 377 113 [(0, .ref a0), (1, g_n v1), (2, g_n v2), (3, g_n v3), (4, g_n v4), (5, g_n v5), (6, g_n v6)] [] M (g_qI Q) := by
  refine g_Run.ok fun hok => ?_
  replace h := h hok
  refine r_iload x_377_113 rfl ?_
  refine r_iload x_377_115 rfl ?_
  refine r_ic_ge x_377_117 (t := 163) (by decide +kernel) hv6 hv5 (fun hc => ?_) (fun hc => ?_)
  · replace h := h.2 hc
    refine r_aload_n x_377_163 rfl ?_
    refine r_iload_n x_377_164 rfl ?_
    refine r_iload_n x_377_165 rfl ?_
    refine r_iconst x_377_166 ?_
    obtain ⟨hO1, h⟩ := h
    refine r_invV x_377_167 (z := 368) (ns := 0) (by decide +kernel) (as := [g_n v1, g_n v2, g_n 4]) (r := []) rfl rfl rfl hO1 rfl rfl ?_
    refine r_callV h fun M2 hx3 hok4 h => ?_
    replace h := h hx3 hok4
    replace hO1 := hO1.up hx3
    refine r_aload_n x_377_170 rfl ?_
    refine r_iload x_377_171 rfl ?_
    refine r_putI x_377_173 (ci := 12) (k := 55) (ns := 0) (by decide +kernel) (by decide) (g_f0 (by decide +kernel)) rfl hv4 trivial (kz := 55) rfl hO1 ?_
    obtain ⟨M5, hM6⟩ : ∃ Mz, Mz = g_wi M2 a0 55 v4 := ⟨_, rfl⟩
    rw [← hM6]
    refine g_Run.ok fun hok7 => ?_
    replace h := h M5 hM6 hok7
    have hx8 := g_extW hM6
    replace hO1 := hO1.up hx8
    refine r_aload_n x_377_176 rfl ?_
    refine r_aload_n x_377_177 rfl ?_
    refine r_iload_n x_377_178 rfl ?_
    refine r_iload_n x_377_179 rfl ?_
    refine r_invV x_377_180 (z := 376) (ns := 0) (by decide +kernel) (as := [g_n v1, g_n v2]) (r := [.ref a0]) rfl rfl rfl hO1 rfl rfl ?_
    refine r_callI h fun r12 M9 hx10 hok11 hr13 h => ?_
    replace h := h hx10 hok11 hr13
    replace hO1 := hO1.up hx10
    refine r_if_eq x_377_183 (t := 202) (by decide +kernel) hr13 (fun hc => ?_) (fun hc => ?_)
    · replace h := h.1 hc
      refine r_aload_n x_377_202 rfl ?_
      obtain ⟨b14, hb15, h⟩ := h
      refine r_getR x_377_203 rfl (ci := 12) (k := 52) (ns := 0) (by decide +kernel) (by decide) rfl (kz := 52) rfl hO1 hb15 ?_
      refine r_aload_n x_377_206 rfl ?_
      refine r_iload_n x_377_207 rfl ?_
      refine r_iload x_377_208 rfl ?_
      refine r_iconst x_377_210 ?_
      refine r_invV x_377_211 (z := 369) (ns := 0) (by decide +kernel) (as := [g_n v1, g_n v4, g_n 0]) (r := [.ref b14, .ref a0]) rfl rfl rfl hO1 rfl rfl ?_
      refine r_callI h fun r19 M16 hx17 hok18 hr20 h => ?_
      replace h := h hx17 hok18 hr20
      replace hO1 := hO1.up hx17
      obtain ⟨n21, hA22, h⟩ := h
      obtain ⟨h23, h⟩ := h
      refine r_iald x_377_214 hA22 hr20 h23.1 h23.2 ?_
      refine r_putI x_377_215 (ci := 12) (k := 56) (ns := 0) (by decide +kernel) (by decide) (g_f0 (by decide +kernel)) rfl (hok18.1 _ _) trivial (kz := 56) rfl hO1 ?_
      obtain ⟨M24, hM25⟩ : ∃ Mz, Mz = g_wi M16 a0 56 (g_i M16 b14 r19) := ⟨_, rfl⟩
      rw [← hM25]
      refine g_Run.ok fun hok26 => ?_
      replace h := h M24 hM25 hok26
      have hx27 := g_extW hM25
      replace hO1 := hO1.up hx27
      replace hA22 := hA22.up hx27
      refine r_iconst x_377_218 ?_
      exact r_retZ x_377_219 rfl (Or.inr rfl) h
    · replace h := h.2 hc
      refine r_aload_n x_377_186 rfl ?_
      obtain ⟨b28, hb29, h⟩ := h
      refine r_getR x_377_187 rfl (ci := 12) (k := 51) (ns := 0) (by decide +kernel) (by decide) rfl (kz := 51) rfl hO1 hb29 ?_
      refine r_aload_n x_377_190 rfl ?_
      refine r_iload_n x_377_191 rfl ?_
      refine r_iload x_377_192 rfl ?_
      refine r_iconst x_377_194 ?_
      refine r_invV x_377_195 (z := 369) (ns := 0) (by decide +kernel) (as := [g_n v1, g_n v4, g_n 0]) (r := [.ref b28, .ref a0]) rfl rfl rfl hO1 rfl rfl ?_
      refine r_callI h fun r33 M30 hx31 hok32 hr34 h => ?_
      replace h := h hx31 hok32 hr34
      replace hO1 := hO1.up hx31
      obtain ⟨n35, hA36, h⟩ := h
      obtain ⟨h37, h⟩ := h
      refine r_iald x_377_198 hA36 hr34 h37.1 h37.2 ?_
      refine r_goto x_377_199 (t := 215) (by decide +kernel) ?_
      refine r_putI x_377_215 (ci := 12) (k := 56) (ns := 0) (by decide +kernel) (by decide) (g_f0 (by decide +kernel)) rfl (hok32.1 _ _) trivial (kz := 56) rfl hO1 ?_
      obtain ⟨M38, hM39⟩ : ∃ Mz, Mz = g_wi M30 a0 56 (g_i M30 b28 r33) := ⟨_, rfl⟩
      rw [← hM39]
      refine g_Run.ok fun hok40 => ?_
      replace h := h M38 hM39 hok40
      have hx41 := g_extW hM39
      replace hO1 := hO1.up hx41
      replace hA36 := hA36.up hx41
      refine r_iconst x_377_218 ?_
      exact r_retZ x_377_219 rfl (Or.inr rfl) h
  · replace h := h.1 hc
    refine r_aload_n x_377_120 rfl ?_
    refine r_iload_n x_377_121 rfl ?_
    refine r_iload x_377_122 rfl ?_
    refine r_iload x_377_124 rfl ?_
    refine r_iconst x_377_126 ?_
    refine r_isub x_377_127 ?_
    obtain ⟨h42, h⟩ := h
    refine r_aload_n x_377_128 rfl ?_
    obtain ⟨hO43, h⟩ := h
    obtain ⟨b44, hb45, h⟩ := h
    refine r_getR x_377_129 rfl (ci := 12) (k := 51) (ns := 0) (by decide +kernel) (by decide) rfl (kz := 51) rfl hO43 hb45 ?_
    refine r_aload_n x_377_132 rfl ?_
    refine r_iload_n x_377_133 rfl ?_
    refine r_iload_n x_377_134 rfl ?_
    refine r_iload x_377_135 rfl ?_
    refine r_invV x_377_137 (z := 369) (ns := 0) (by decide +kernel) (as := [g_n v1, g_n v2, g_n v6]) (r := [.ref b44, g_n (v6 - 4), g_n v4, g_n v1, .ref a0]) rfl rfl rfl hO43 rfl rfl ?_
    refine r_callI h fun r49 M46 hx47 hok48 hr50 h => ?_
    replace h := h hx47 hok48 hr50
    replace hO43 := hO43.up hx47
    obtain ⟨n51, hA52, h⟩ := h
    obtain ⟨h53, h⟩ := h
    refine r_iald x_377_140 hA52 hr50 h53.1 h53.2 ?_
    refine r_aload_n x_377_141 rfl ?_
    obtain ⟨b54, hb55, h⟩ := h
    refine r_getR x_377_142 rfl (ci := 12) (k := 52) (ns := 0) (by decide +kernel) (by decide) rfl (kz := 52) rfl hO43 hb55 ?_
    refine r_aload_n x_377_145 rfl ?_
    refine r_iload_n x_377_146 rfl ?_
    refine r_iload_n x_377_147 rfl ?_
    refine r_iload x_377_148 rfl ?_
    refine r_invV x_377_150 (z := 369) (ns := 0) (by decide +kernel) (as := [g_n v1, g_n v2, g_n v6]) (r := [.ref b54, g_n (g_i M46 b44 r49), g_n (v6 - 4), g_n v4, g_n v1, .ref a0]) rfl rfl rfl hO43 rfl rfl ?_
    refine r_callI h fun r59 M56 hx57 hok58 hr60 h => ?_
    replace h := h hx57 hok58 hr60
    replace hO43 := hO43.up hx57
    replace hA52 := hA52.up hx57
    obtain ⟨n61, hA62, h⟩ := h
    obtain ⟨h63, h⟩ := h
    refine r_iald x_377_153 hA62 hr60 h63.1 h63.2 ?_
    refine r_invV x_377_154 (z := 372) (ns := 0) (by decide +kernel) (as := [g_n v1, g_n v4, g_n (v6 - 4), g_n (g_i M46 b44 r49), g_n (g_i M56 b54 r59)]) (r := []) rfl rfl rfl hO43 rfl rfl ?_
    refine r_callV h fun M64 hx65 hok66 h => ?_
    replace h := h hx65 hok66
    replace hO43 := hO43.up hx65
    replace hA52 := hA52.up hx65
    replace hA62 := hA62.up hx65
    obtain ⟨h67, h⟩ := h
    refine r_iinc x_377_157 (by decide +kernel) rfl rfl (lv1 := [(0, .ref a0), (1, g_n v1), (2, g_n v2), (3, g_n v3), (4, g_n v4), (5, g_n v5), (6, g_n (v6 + 1))]) rfl ?_
    refine r_goto x_377_160 (t := 113) (by decide +kernel) ?_
    exact h
theorem m_X12_enter {d : Nat} {M : g_M} {Q : g_M → Prop} {a0 : Nat} {v1 : Int} (hv1 : g_InR v1) {v2 : Int} (hv2 : g_InR v2) {v3 : Int} (hv3 : g_InR v3) {v4 : Int} (hv4 : g_InR v4) (h : g_ok M → g_O M a0 12 ∧ g_Call d 364 [.ref a0, g_n v1, g_n v2, g_n v3, g_n v4] M (g_qI fun r5 M2 => g_ext M M2 → g_ok M2 → g_InR r5 → (∀ M7, M7 = g_wi M2 a0 47 r5 → g_ok M7 → ∃ b11, g_r M7 a0 53 = some b11 ∧ ∃ n13, g_A M7 b11 1 n13 ∧ ((0 : Int) ≤ v1 ∧ (v1 : Int) < n13) ∧ g_Call d 377 [.ref a0, g_n v1, g_n (g_i M7 b11 v1), g_n r5] M7 (g_qI fun r19 M16 => g_ext M7 M16 → g_ok M16 → g_InR r19 → ((r19 = 0 → g_Run d 378 84 [(0, .ref a0), (1, g_n v1), (2, g_n v2), (3, g_n v3), (4, g_n v4), (5, g_n r5)] [] M16 (g_qV Q)) ∧ (¬ r19 = 0 → ∃ b21, g_r M16 a0 53 = some b21 ∧ ∃ n23, g_A M16 b21 1 n23 ∧ ((0 : Int) ≤ v1 ∧ (v1 : Int) < n23) ∧ g_Call d 370 [.ref a0, g_n v1, g_n 0] M16 (g_qI fun r29 M26 => g_ext M16 M26 → g_ok M26 → g_InR r29 → g_Call d 372 [.ref a0, g_n v1, g_n r29, g_n 0, g_n (g_i M16 b21 v1), g_n 0] M26 (g_qV fun M31 => g_ext M26 M31 → g_ok M31 → g_Call d 372 [.ref a0, g_n v1, g_n r29, g_n 1, g_n (g_i M31 a0 55), g_n (g_i M31 a0 56)] M31 (g_qV fun M34 => g_ext M31 M34 → g_ok M34 → ∃ b37, g_r M34 a0 53 = some b37 ∧ ∃ n39, g_A M34 b37 1 n39 ∧ ((0 : Int) ≤ v1 ∧ (v1 : Int) < n39) ∧ (∀ M42, M42 = g_wi M34 b37 v1 r29 → g_ok M42 → g_Run d 378 84 [(0, .ref a0), (1, g_n v1), (2, g_n v2), (3, g_n v3), (4, g_n v4), (5, g_n r5)] [] M42 (g_qV Q))))))))))) : g_Call (d + 1) 378 [.ref a0, g_n v1, g_n v2, g_n v3, g_n v4] M (g_qV Q) := by
  refine g_Call.ok fun hok0 => ?_
  replace h := h hok0
  refine r_body rfl (lv := [(0, .ref a0), (1, g_n v1), (2, g_n v2), (3, g_n v3), (4, g_n v4)]) rfl ?_
  refine g_Run.ok fun hok => ?_
  refine r_aload_n x_378_0 rfl ?_
  refine r_iload_n x_378_1 rfl ?_
  refine r_iload_n x_378_2 rfl ?_
  refine r_iload_n x_378_3 rfl ?_
  refine r_iload x_378_4 rfl ?_
  obtain ⟨hO1, h⟩ := h
  refine r_invV x_378_6 (z := 364) (ns := 0) (by decide +kernel) (as := [g_n v1, g_n v2, g_n v3, g_n v4]) (r := []) rfl rfl rfl hO1 rfl rfl ?_
  refine r_callI h fun r5 M2 hx3 hok4 hr6 h => ?_
  replace h := h hx3 hok4 hr6
  replace hO1 := hO1.up hx3
  refine r_istore x_378_9 (by decide +kernel) rfl (lv1 := [(0, .ref a0), (1, g_n v1), (2, g_n v2), (3, g_n v3), (4, g_n v4), (5, g_n r5)]) rfl ?_
  refine r_aload_n x_378_11 rfl ?_
  refine r_iload x_378_12 rfl ?_
  refine r_putI x_378_14 (ci := 12) (k := 47) (ns := 0) (by decide +kernel) (by decide) (g_f0 (by decide +kernel)) rfl hr6 trivial (kz := 47) rfl hO1 ?_
  obtain ⟨M7, hM8⟩ : ∃ Mz, Mz = g_wi M2 a0 47 r5 := ⟨_, rfl⟩
  rw [← hM8]
  refine g_Run.ok fun hok9 => ?_
  replace h := h M7 hM8 hok9
  have hx10 := g_extW hM8
  replace hO1 := hO1.up hx10
  refine r_aload_n x_378_17 rfl ?_
  refine r_iload_n x_378_18 rfl ?_
  refine r_aload_n x_378_19 rfl ?_
  obtain ⟨b11, hb12, h⟩ := h
  refine r_getR x_378_20 rfl (ci := 12) (k := 53) (ns := 0) (by decide +kernel) (by decide) rfl (kz := 53) rfl hO1 hb12 ?_
  refine r_iload_n x_378_23 rfl ?_
  obtain ⟨n13, hA14, h⟩ := h
  obtain ⟨h15, h⟩ := h
  refine r_iald x_378_24 hA14 hv1 h15.1 h15.2 ?_
  refine r_iload x_378_25 rfl ?_
  refine r_invV x_378_27 (z := 377) (ns := 0) (by decide +kernel) (as := [g_n v1, g_n (g_i M7 b11 v1), g_n r5]) (r := []) rfl rfl rfl hO1 rfl rfl ?_
  refine r_callI h fun r19 M16 hx17 hok18 hr20 h => ?_
  replace h := h hx17 hok18 hr20
  replace hO1 := hO1.up hx17
  replace hA14 := hA14.up hx17
  refine r_if_eq x_378_30 (t := 84) (by decide +kernel) hr20 (fun hc => ?_) (fun hc => ?_)
  · replace h := h.1 hc
    exact h
  · replace h := h.2 hc
    refine r_aload_n x_378_33 rfl ?_
    obtain ⟨b21, hb22, h⟩ := h
    refine r_getR x_378_34 rfl (ci := 12) (k := 53) (ns := 0) (by decide +kernel) (by decide) rfl (kz := 53) rfl hO1 hb22 ?_
    refine r_iload_n x_378_37 rfl ?_
    obtain ⟨n23, hA24, h⟩ := h
    obtain ⟨h25, h⟩ := h
    refine r_iald x_378_38 hA24 hv1 h25.1 h25.2 ?_
    refine r_istore x_378_39 (by decide +kernel) rfl (lv1 := [(0, .ref a0), (1, g_n v1), (2, g_n v2), (3, g_n v3), (4, g_n v4), (5, g_n r5), (6, g_n (g_i M16 b21 v1))]) rfl ?_
    refine r_aload_n x_378_41 rfl ?_
    refine r_iload_n x_378_42 rfl ?_
    refine r_iconst x_378_43 ?_
    refine r_invV x_378_44 (z := 370) (ns := 0) (by decide +kernel) (as := [g_n v1, g_n 0]) (r := []) rfl rfl rfl hO1 rfl rfl ?_
    refine r_callI h fun r29 M26 hx27 hok28 hr30 h => ?_
    replace h := h hx27 hok28 hr30
    replace hO1 := hO1.up hx27
    replace hA14 := hA14.up hx27
    replace hA24 := hA24.up hx27
    refine r_istore x_378_47 (by decide +kernel) rfl (lv1 := [(0, .ref a0), (1, g_n v1), (2, g_n v2), (3, g_n v3), (4, g_n v4), (5, g_n r5), (6, g_n (g_i M16 b21 v1)), (7, g_n r29)]) rfl ?_
    refine r_aload_n x_378_49 rfl ?_
    refine r_iload_n x_378_50 rfl ?_
    refine r_iload x_378_51 rfl ?_
    refine r_iconst x_378_53 ?_
    refine r_iload x_378_54 rfl ?_
    refine r_iconst x_378_56 ?_
    refine r_invV x_378_57 (z := 372) (ns := 0) (by decide +kernel) (as := [g_n v1, g_n r29, g_n 0, g_n (g_i M16 b21 v1), g_n 0]) (r := []) rfl rfl rfl hO1 rfl rfl ?_
    refine r_callV h fun M31 hx32 hok33 h => ?_
    replace h := h hx32 hok33
    replace hO1 := hO1.up hx32
    replace hA14 := hA14.up hx32
    replace hA24 := hA24.up hx32
    refine r_aload_n x_378_60 rfl ?_
    refine r_iload_n x_378_61 rfl ?_
    refine r_iload x_378_62 rfl ?_
    refine r_iconst x_378_64 ?_
    refine r_aload_n x_378_65 rfl ?_
    refine r_getI x_378_66 rfl (ci := 12) (k := 55) (ns := 0) (by decide +kernel) (by decide) rfl (kz := 55) rfl hO1 ?_
    refine r_aload_n x_378_69 rfl ?_
    refine r_getI x_378_70 rfl (ci := 12) (k := 56) (ns := 0) (by decide +kernel) (by decide) rfl (kz := 56) rfl hO1 ?_
    refine r_invV x_378_73 (z := 372) (ns := 0) (by decide +kernel) (as := [g_n v1, g_n r29, g_n 1, g_n (g_i M31 a0 55), g_n (g_i M31 a0 56)]) (r := []) rfl rfl rfl hO1 rfl rfl ?_
    refine r_callV h fun M34 hx35 hok36 h => ?_
    replace h := h hx35 hok36
    replace hO1 := hO1.up hx35
    replace hA14 := hA14.up hx35
    replace hA24 := hA24.up hx35
    refine r_aload_n x_378_76 rfl ?_
    obtain ⟨b37, hb38, h⟩ := h
    refine r_getR x_378_77 rfl (ci := 12) (k := 53) (ns := 0) (by decide +kernel) (by decide) rfl (kz := 53) rfl hO1 hb38 ?_
    refine r_iload_n x_378_80 rfl ?_
    refine r_iload x_378_81 rfl ?_
    obtain ⟨n39, hA40, h⟩ := h
    obtain ⟨h41, h⟩ := h
    refine r_iast x_378_83 hA40 hv1 h41.1 h41.2 hr30 ?_
    obtain ⟨M42, hM43⟩ : ∃ Mz, Mz = g_wi M34 b37 v1 r29 := ⟨_, rfl⟩
    rw [← hM43]
    refine g_Run.ok fun hok44 => ?_
    replace h := h M42 hM43 hok44
    have hx45 := g_extW hM43
    replace hO1 := hO1.up hx45
    replace hA14 := hA14.up hx45
    replace hA24 := hA24.up hx45
    replace hA40 := hA40.up hx45
    refine g_drop [0, 1, 2, 3, 4, 5] (lv1 := [(0, .ref a0), (1, g_n v1), (2, g_n v2), (3, g_n v3), (4, g_n v4), (5, g_n r5)]) rfl ?_
    exact h
theorem s_X12_enter_84 {d : Nat} {M : g_M} {Q : g_M → Prop} {a0 : Nat} {v1 : Int} (hv1 : g_InR v1) {v2 : Int} (hv2 : g_InR v2) {v3 : Int} (hv3 : g_InR v3) {v4 : Int} (hv4 : g_InR v4) {v5 : Int} (hv5 : g_InR v5) (h : g_ok M → g_O M a0 12 ∧ (∀ M2, M2 = g_wi M a0 47 ((-1)) → g_ok M2 → ∃ b6, g_r M2 a0 54 = some b6 ∧ ∃ n8, g_A M2 b6 1 n8 ∧ ((0 : Int) ≤ v1 ∧ (v1 : Int) < n8) ∧ g_InR ((g_i M2 b6 v1) + 1) ∧ ((0 : Int) ≤ v1 ∧ (v1 : Int) < n8) ∧ (∀ M13, M13 = g_wi M2 b6 v1 ((g_i M2 b6 v1) + 1) → g_ok M13 → Q M13))) : g_Run d 378 84 [(0, .ref a0), (1, g_n v1), (2, g_n v2), (3, g_n v3), (4, g_n v4), (5, g_n v5)] [] M (g_qV Q) := by
  refine g_Run.ok fun hok => ?_
  replace h := h hok
  refine r_aload_n x_378_84 rfl ?_
  refine r_iconst x_378_85 ?_
  obtain ⟨hO1, h⟩ := h
  refine r_putI x_378_86 (ci := 12) (k := 47) (ns := 0) (by decide +kernel) (by decide) (g_f0 (by decide +kernel)) rfl (g_Rk rfl) trivial (kz := 47) rfl hO1 ?_
  obtain ⟨M2, hM3⟩ : ∃ Mz, Mz = g_wi M a0 47 ((-1)) := ⟨_, rfl⟩
  rw [← hM3]
  refine g_Run.ok fun hok4 => ?_
  replace h := h M2 hM3 hok4
  have hx5 := g_extW hM3
  replace hO1 := hO1.up hx5
  refine r_aload_n x_378_89 rfl ?_
  obtain ⟨b6, hb7, h⟩ := h
  refine r_getR x_378_90 rfl (ci := 12) (k := 54) (ns := 0) (by decide +kernel) (by decide) rfl (kz := 54) rfl hO1 hb7 ?_
  refine r_iload_n x_378_93 rfl ?_
  refine r_dup2 x_378_94 rfl rfl ?_
  obtain ⟨n8, hA9, h⟩ := h
  obtain ⟨h10, h⟩ := h
  refine r_iald x_378_95 hA9 hv1 h10.1 h10.2 ?_
  refine r_iconst x_378_96 ?_
  refine r_iadd x_378_97 ?_
  obtain ⟨h11, h⟩ := h
  obtain ⟨h12, h⟩ := h
  refine r_iast x_378_98 hA9 hv1 h12.1 h12.2 h11 ?_
  obtain ⟨M13, hM14⟩ : ∃ Mz, Mz = g_wi M2 b6 v1 ((g_i M2 b6 v1) + 1) := ⟨_, rfl⟩
  rw [← hM14]
  refine g_Run.ok fun hok15 => ?_
  replace h := h M13 hM14 hok15
  have hx16 := g_extW hM14
  replace hO1 := hO1.up hx16
  replace hA9 := hA9.up hx16
  exact r_retV x_378_99 rfl h
theorem m_X12_goes {d : Nat} {M : g_M} {Q : g_M → Prop} {a0 : Nat} {v1 : Int} (hv1 : g_InR v1) {v2 : Int} (hv2 : g_InR v2) {v3 : Int} (hv3 : g_InR v3) (h : g_ok M → g_O M a0 12 ∧ g_Call d 376 [.ref a0, g_n v1, g_n v2] M (g_qI fun r5 M2 => g_ext M M2 → g_ok M2 → g_InR r5 → ((r5 = 0 → g_Call d 374 [.ref a0, g_n v1, g_n v2, g_n v3] M2 (g_qI fun r10 M7 => g_ext M2 M7 → g_ok M7 → g_InR r10 → ∃ b12, g_r M7 a0 51 = some b12 ∧ g_Call d 369 [.ref a0, g_n v1, g_n v2, g_n r10] M7 (g_qI fun r17 M14 => g_ext M7 M14 → g_ok M14 → g_InR r17 → ∃ n19, g_A M14 b12 1 n19 ∧ ((0 : Int) ≤ r17 ∧ (r17 : Int) < n19) ∧ g_Call d 379 [.ref a0, g_n v1, g_n (g_i M14 b12 r17), g_n v3] M14 (g_qV fun M22 => g_ext M14 M22 → g_ok M22 → g_Call d 367 [.ref a0, g_n v1, g_n (g_i M14 b12 r17)] M22 (g_qI fun r28 M25 => g_ext M22 M25 → g_ok M25 → g_InR r28 → ((r28 < 4 → ((0 < r10 → ∃ b30, g_r M25 a0 51 = some b30 ∧ g_InR (r10 - 1) ∧ g_Call d 369 [.ref a0, g_n v1, g_n v2, g_n (r10 - 1)] M25 (g_qI fun r36 M33 => g_ext M25 M33 → g_ok M33 → g_InR r36 → ∃ n38, g_A M33 b30 1 n38 ∧ ((0 : Int) ≤ r36 ∧ (r36 : Int) < n38) ∧ g_Call d 367 [.ref a0, g_n v1, g_n (g_i M33 b30 r36)] M33 (g_qI fun r44 M41 => g_ext M33 M41 → g_ok M41 → g_InR r44 → ((4 < r44 → g_Call d 380 [.ref a0, g_n v1, g_n v2, g_n r10] M41 (g_qV fun M46 => g_ext M41 M46 → g_ok M46 → Q M46)) ∧ (¬ 4 < r44 → g_Run d 379 107 [(0, .ref a0), (1, g_n v1), (2, g_n v2), (3, g_n v3), (4, g_n r10), (5, g_n (g_i M14 b12 r17))] [] M41 (g_qV Q)))))) ∧ (¬ 0 < r10 → g_Run d 379 107 [(0, .ref a0), (1, g_n v1), (2, g_n v2), (3, g_n v3), (4, g_n r10), (5, g_n (g_i M14 b12 r17))] [] M25 (g_qV Q)))) ∧ (¬ r28 < 4 → Q M25))))))) ∧ (¬ r5 = 0 → g_Call d 375 [.ref a0, g_n v1, g_n v2, g_n v3] M2 (g_qI fun r52 M49 => g_ext M2 M49 → g_ok M49 → g_InR r52 → g_Call d 373 [.ref a0, g_n v1, g_n v2, g_n r52] M49 (g_qV fun M54 => g_ext M49 M54 → g_ok M54 → Q M54)))))) : g_Call (d + 1) 379 [.ref a0, g_n v1, g_n v2, g_n v3] M (g_qV Q) := by
  refine g_Call.ok fun hok0 => ?_
  replace h := h hok0
  refine r_body rfl (lv := [(0, .ref a0), (1, g_n v1), (2, g_n v2), (3, g_n v3)]) rfl ?_
  refine g_Run.ok fun hok => ?_
  refine r_aload_n x_379_0 rfl ?_
  refine r_iload_n x_379_1 rfl ?_
  refine r_iload_n x_379_2 rfl ?_
  obtain ⟨hO1, h⟩ := h
  refine r_invV x_379_3 (z := 376) (ns := 0) (by decide +kernel) (as := [g_n v1, g_n v2]) (r := []) rfl rfl rfl hO1 rfl rfl ?_
  refine r_callI h fun r5 M2 hx3 hok4 hr6 h => ?_
  replace h := h hx3 hok4 hr6
  replace hO1 := hO1.up hx3
  refine r_if_eq x_379_6 (t := 23) (by decide +kernel) hr6 (fun hc => ?_) (fun hc => ?_)
  · replace h := h.1 hc
    refine r_aload_n x_379_23 rfl ?_
    refine r_iload_n x_379_24 rfl ?_
    refine r_iload_n x_379_25 rfl ?_
    refine r_iload_n x_379_26 rfl ?_
    refine r_invV x_379_27 (z := 374) (ns := 0) (by decide +kernel) (as := [g_n v1, g_n v2, g_n v3]) (r := []) rfl rfl rfl hO1 rfl rfl ?_
    refine r_callI h fun r10 M7 hx8 hok9 hr11 h => ?_
    replace h := h hx8 hok9 hr11
    replace hO1 := hO1.up hx8
    refine r_istore x_379_30 (by decide +kernel) rfl (lv1 := [(0, .ref a0), (1, g_n v1), (2, g_n v2), (3, g_n v3), (4, g_n r10)]) rfl ?_
    refine r_aload_n x_379_32 rfl ?_
    obtain ⟨b12, hb13, h⟩ := h
    refine r_getR x_379_33 rfl (ci := 12) (k := 51) (ns := 0) (by decide +kernel) (by decide) rfl (kz := 51) rfl hO1 hb13 ?_
    refine r_aload_n x_379_36 rfl ?_
    refine r_iload_n x_379_37 rfl ?_
    refine r_iload_n x_379_38 rfl ?_
    refine r_iload x_379_39 rfl ?_
    refine r_invV x_379_41 (z := 369) (ns := 0) (by decide +kernel) (as := [g_n v1, g_n v2, g_n r10]) (r := [.ref b12]) rfl rfl rfl hO1 rfl rfl ?_
    refine r_callI h fun r17 M14 hx15 hok16 hr18 h => ?_
    replace h := h hx15 hok16 hr18
    replace hO1 := hO1.up hx15
    obtain ⟨n19, hA20, h⟩ := h
    obtain ⟨h21, h⟩ := h
    refine r_iald x_379_44 hA20 hr18 h21.1 h21.2 ?_
    refine r_istore x_379_45 (by decide +kernel) rfl (lv1 := [(0, .ref a0), (1, g_n v1), (2, g_n v2), (3, g_n v3), (4, g_n r10), (5, g_n (g_i M14 b12 r17))]) rfl ?_
    refine r_aload_n x_379_47 rfl ?_
    refine r_iload_n x_379_48 rfl ?_
    refine r_iload x_379_49 rfl ?_
    refine r_iload_n x_379_51 rfl ?_
    refine r_invV x_379_52 (z := 379) (ns := 0) (by decide +kernel) (as := [g_n v1, g_n (g_i M14 b12 r17), g_n v3]) (r := []) rfl rfl rfl hO1 rfl rfl ?_
    refine r_callV h fun M22 hx23 hok24 h => ?_
    replace h := h hx23 hok24
    replace hO1 := hO1.up hx23
    replace hA20 := hA20.up hx23
    refine r_aload_n x_379_55 rfl ?_
    refine r_iload_n x_379_56 rfl ?_
    refine r_iload x_379_57 rfl ?_
    refine r_invV x_379_59 (z := 367) (ns := 0) (by decide +kernel) (as := [g_n v1, g_n (g_i M14 b12 r17)]) (r := []) rfl rfl rfl hO1 rfl rfl ?_
    refine r_callI h fun r28 M25 hx26 hok27 hr29 h => ?_
    replace h := h hx26 hok27 hr29
    replace hO1 := hO1.up hx26
    replace hA20 := hA20.up hx26
    refine r_iconst x_379_62 ?_
    refine r_ic_lt x_379_63 (t := 67) (by decide +kernel) hr29 (g_Rk rfl) (fun hc => ?_) (fun hc => ?_)
    · replace h := h.1 hc
      refine r_iload x_379_67 rfl ?_
      refine r_if_le x_379_69 (t := 107) (by decide +kernel) hr11 (fun hc => ?_) (fun hc => ?_)
      · replace h := h.2 hc
        exact h
      · replace h := h.1 hc
        refine r_aload_n x_379_72 rfl ?_
        refine r_iload_n x_379_73 rfl ?_
        refine r_aload_n x_379_74 rfl ?_
        obtain ⟨b30, hb31, h⟩ := h
        refine r_getR x_379_75 rfl (ci := 12) (k := 51) (ns := 0) (by decide +kernel) (by decide) rfl (kz := 51) rfl hO1 hb31 ?_
        refine r_aload_n x_379_78 rfl ?_
        refine r_iload_n x_379_79 rfl ?_
        refine r_iload_n x_379_80 rfl ?_
        refine r_iload x_379_81 rfl ?_
        refine r_iconst x_379_83 ?_
        refine r_isub x_379_84 ?_
        obtain ⟨h32, h⟩ := h
        refine r_invV x_379_85 (z := 369) (ns := 0) (by decide +kernel) (as := [g_n v1, g_n v2, g_n (r10 - 1)]) (r := [.ref b30, g_n v1, .ref a0]) rfl rfl rfl hO1 rfl rfl ?_
        refine r_callI h fun r36 M33 hx34 hok35 hr37 h => ?_
        replace h := h hx34 hok35 hr37
        replace hO1 := hO1.up hx34
        replace hA20 := hA20.up hx34
        obtain ⟨n38, hA39, h⟩ := h
        obtain ⟨h40, h⟩ := h
        refine r_iald x_379_88 hA39 hr37 h40.1 h40.2 ?_
        refine r_invV x_379_89 (z := 367) (ns := 0) (by decide +kernel) (as := [g_n v1, g_n (g_i M33 b30 r36)]) (r := []) rfl rfl rfl hO1 rfl rfl ?_
        refine r_callI h fun r44 M41 hx42 hok43 hr45 h => ?_
        replace h := h hx42 hok43 hr45
        replace hO1 := hO1.up hx42
        replace hA20 := hA20.up hx42
        replace hA39 := hA39.up hx42
        refine r_iconst x_379_92 ?_
        refine r_ic_le x_379_93 (t := 107) (by decide +kernel) hr45 (g_Rk rfl) (fun hc => ?_) (fun hc => ?_)
        · replace h := h.2 hc
          exact h
        · replace h := h.1 hc
          refine r_aload_n x_379_96 rfl ?_
          refine r_iload_n x_379_97 rfl ?_
          refine r_iload_n x_379_98 rfl ?_
          refine r_iload x_379_99 rfl ?_
          refine r_invV x_379_101 (z := 380) (ns := 0) (by decide +kernel) (as := [g_n v1, g_n v2, g_n r10]) (r := []) rfl rfl rfl hO1 rfl rfl ?_
          refine r_callV h fun M46 hx47 hok48 h => ?_
          replace h := h hx47 hok48
          replace hO1 := hO1.up hx47
          replace hA20 := hA20.up hx47
          replace hA39 := hA39.up hx47
          refine r_goto x_379_104 (t := 175) (by decide +kernel) ?_
          exact r_retV x_379_175 rfl h
    · replace h := h.2 hc
      exact r_retV x_379_66 rfl h
  · replace h := h.2 hc
    refine r_aload_n x_379_9 rfl ?_
    refine r_iload_n x_379_10 rfl ?_
    refine r_iload_n x_379_11 rfl ?_
    refine r_aload_n x_379_12 rfl ?_
    refine r_iload_n x_379_13 rfl ?_
    refine r_iload_n x_379_14 rfl ?_
    refine r_iload_n x_379_15 rfl ?_
    refine r_invV x_379_16 (z := 375) (ns := 0) (by decide +kernel) (as := [g_n v1, g_n v2, g_n v3]) (r := [g_n v2, g_n v1, .ref a0]) rfl rfl rfl hO1 rfl rfl ?_
    refine r_callI h fun r52 M49 hx50 hok51 hr53 h => ?_
    replace h := h hx50 hok51 hr53
    replace hO1 := hO1.up hx50
    refine r_invV x_379_19 (z := 373) (ns := 0) (by decide +kernel) (as := [g_n v1, g_n v2, g_n r52]) (r := []) rfl rfl rfl hO1 rfl rfl ?_
    refine r_callV h fun M54 hx55 hok56 h => ?_
    replace h := h hx55 hok56
    replace hO1 := hO1.up hx55
    exact r_retV x_379_22 rfl h
theorem s_X12_goes_107 {d : Nat} {M : g_M} {Q : g_M → Prop} {a0 : Nat} {v1 : Int} (hv1 : g_InR v1) {v2 : Int} (hv2 : g_InR v2) {v3 : Int} (hv3 : g_InR v3) {v4 : Int} (hv4 : g_InR v4) {v5 : Int} (hv5 : g_InR v5) (h : g_ok M → g_InR (v4 + 1) ∧ g_O M a0 12 ∧ g_Call d 367 [.ref a0, g_n v1, g_n v2] M (g_qI fun r6 M3 => g_ext M M3 → g_ok M3 → g_InR r6 → ((v4 + 1 < r6 → ∃ b8, g_r M3 a0 51 = some b8 ∧ g_InR (v4 + 1) ∧ g_Call d 369 [.ref a0, g_n v1, g_n v2, g_n (v4 + 1)] M3 (g_qI fun r14 M11 => g_ext M3 M11 → g_ok M11 → g_InR r14 → ∃ n16, g_A M11 b8 1 n16 ∧ ((0 : Int) ≤ r14 ∧ (r14 : Int) < n16) ∧ g_Call d 367 [.ref a0, g_n v1, g_n (g_i M11 b8 r14)] M11 (g_qI fun r22 M19 => g_ext M11 M19 → g_ok M19 → g_InR r22 → ((4 < r22 → g_Call d 381 [.ref a0, g_n v1, g_n v2, g_n v4] M19 (g_qV fun M24 => g_ext M19 M24 → g_ok M24 → Q M24)) ∧ (¬ 4 < r22 → g_Run d 379 155 [(0, .ref a0), (1, g_n v1), (2, g_n v2), (3, g_n v3), (4, g_n v4), (5, g_n v5)] [] M19 (g_qV Q)))))) ∧ (¬ v4 + 1 < r6 → g_Run d 379 155 [(0, .ref a0), (1, g_n v1), (2, g_n v2), (3, g_n v3), (4, g_n v4), (5, g_n v5)] [] M3 (g_qV Q))))) : g_Run d 379 107 [(0, .ref a0), (1, g_n v1), (2, g_n v2), (3, g_n v3), (4, g_n v4), (5, g_n v5)] [] M (g_qV Q) := by
  refine g_Run.ok fun hok => ?_
  replace h := h hok
  refine r_iload x_379_107 rfl ?_
  refine r_iconst x_379_109 ?_
  refine r_iadd x_379_110 ?_
  obtain ⟨h1, h⟩ := h
  refine r_aload_n x_379_111 rfl ?_
  refine r_iload_n x_379_112 rfl ?_
  refine r_iload_n x_379_113 rfl ?_
  obtain ⟨hO2, h⟩ := h
  refine r_invV x_379_114 (z := 367) (ns := 0) (by decide +kernel) (as := [g_n v1, g_n v2]) (r := [g_n (v4 + 1)]) rfl rfl rfl hO2 rfl rfl ?_
  refine r_callI h fun r6 M3 hx4 hok5 hr7 h => ?_
  replace h := h hx4 hok5 hr7
  replace hO2 := hO2.up hx4
  refine r_ic_ge x_379_117 (t := 155) (by decide +kernel) h1 hr7 (fun hc => ?_) (fun hc => ?_)
  · replace h := h.2 hc
    exact h
  · replace h := h.1 hc
    refine r_aload_n x_379_120 rfl ?_
    refine r_iload_n x_379_121 rfl ?_
    refine r_aload_n x_379_122 rfl ?_
    obtain ⟨b8, hb9, h⟩ := h
    refine r_getR x_379_123 rfl (ci := 12) (k := 51) (ns := 0) (by decide +kernel) (by decide) rfl (kz := 51) rfl hO2 hb9 ?_
    refine r_aload_n x_379_126 rfl ?_
    refine r_iload_n x_379_127 rfl ?_
    refine r_iload_n x_379_128 rfl ?_
    refine r_iload x_379_129 rfl ?_
    refine r_iconst x_379_131 ?_
    refine r_iadd x_379_132 ?_
    obtain ⟨h10, h⟩ := h
    refine r_invV x_379_133 (z := 369) (ns := 0) (by decide +kernel) (as := [g_n v1, g_n v2, g_n (v4 + 1)]) (r := [.ref b8, g_n v1, .ref a0]) rfl rfl rfl hO2 rfl rfl ?_
    refine r_callI h fun r14 M11 hx12 hok13 hr15 h => ?_
    replace h := h hx12 hok13 hr15
    replace hO2 := hO2.up hx12
    obtain ⟨n16, hA17, h⟩ := h
    obtain ⟨h18, h⟩ := h
    refine r_iald x_379_136 hA17 hr15 h18.1 h18.2 ?_
    refine r_invV x_379_137 (z := 367) (ns := 0) (by decide +kernel) (as := [g_n v1, g_n (g_i M11 b8 r14)]) (r := []) rfl rfl rfl hO2 rfl rfl ?_
    refine r_callI h fun r22 M19 hx20 hok21 hr23 h => ?_
    replace h := h hx20 hok21 hr23
    replace hO2 := hO2.up hx20
    replace hA17 := hA17.up hx20
    refine r_iconst x_379_140 ?_
    refine r_ic_le x_379_141 (t := 155) (by decide +kernel) hr23 (g_Rk rfl) (fun hc => ?_) (fun hc => ?_)
    · replace h := h.2 hc
      exact h
    · replace h := h.1 hc
      refine r_aload_n x_379_144 rfl ?_
      refine r_iload_n x_379_145 rfl ?_
      refine r_iload_n x_379_146 rfl ?_
      refine r_iload x_379_147 rfl ?_
      refine r_invV x_379_149 (z := 381) (ns := 0) (by decide +kernel) (as := [g_n v1, g_n v2, g_n v4]) (r := []) rfl rfl rfl hO2 rfl rfl ?_
      refine r_callV h fun M24 hx25 hok26 h => ?_
      replace h := h hx25 hok26
      replace hO2 := hO2.up hx25
      replace hA17 := hA17.up hx25
      refine r_goto x_379_152 (t := 175) (by decide +kernel) ?_
      exact r_retV x_379_175 rfl h
theorem s_X12_goes_155 {d : Nat} {M : g_M} {Q : g_M → Prop} {a0 : Nat} {v1 : Int} (hv1 : g_InR v1) {v2 : Int} (hv2 : g_InR v2) {v3 : Int} (hv3 : g_InR v3) {v4 : Int} (hv4 : g_InR v4) {v5 : Int} (hv5 : g_InR v5) (h : g_ok M → ((0 < v4 → g_InR (v4 - 1) ∧ g_O M a0 12 ∧ g_Call d 382 [.ref a0, g_n v1, g_n v2, g_n (v4 - 1)] M (g_qV fun M7 => g_ext M M7 → g_ok M7 → Q M7)) ∧ (¬ 0 < v4 → g_O M a0 12 ∧ g_Call d 382 [.ref a0, g_n v1, g_n v2, g_n v4] M (g_qV fun M2 => g_ext M M2 → g_ok M2 → Q M2)))) : g_Run d 379 155 [(0, .ref a0), (1, g_n v1), (2, g_n v2), (3, g_n v3), (4, g_n v4), (5, g_n v5)] [] M (g_qV Q) := by
  refine g_Run.ok fun hok => ?_
  replace h := h hok
  refine r_aload_n x_379_155 rfl ?_
  refine r_iload_n x_379_156 rfl ?_
  refine r_iload_n x_379_157 rfl ?_
  refine r_iload x_379_158 rfl ?_
  refine r_if_le x_379_160 (t := 170) (by decide +kernel) hv4 (fun hc => ?_) (fun hc => ?_)
  · replace h := h.2 hc
    refine r_iload x_379_170 rfl ?_
    obtain ⟨hO1, h⟩ := h
    refine r_invV x_379_172 (z := 382) (ns := 0) (by decide +kernel) (as := [g_n v1, g_n v2, g_n v4]) (r := []) rfl rfl rfl hO1 rfl rfl ?_
    refine r_callV h fun M2 hx3 hok4 h => ?_
    replace h := h hx3 hok4
    replace hO1 := hO1.up hx3
    exact r_retV x_379_175 rfl h
  · replace h := h.1 hc
    refine r_iload x_379_163 rfl ?_
    refine r_iconst x_379_165 ?_
    refine r_isub x_379_166 ?_
    obtain ⟨h5, h⟩ := h
    refine r_goto x_379_167 (t := 172) (by decide +kernel) ?_
    obtain ⟨hO6, h⟩ := h
    refine r_invV x_379_172 (z := 382) (ns := 0) (by decide +kernel) (as := [g_n v1, g_n v2, g_n (v4 - 1)]) (r := []) rfl rfl rfl hO6 rfl rfl ?_
    refine r_callV h fun M7 hx8 hok9 h => ?_
    replace h := h hx8 hok9
    replace hO6 := hO6.up hx8
    exact r_retV x_379_175 rfl h
theorem m_X12_fromAhead {d : Nat} {M : g_M} {Q : g_M → Prop} {a0 : Nat} {v1 : Int} (hv1 : g_InR v1) {v2 : Int} (hv2 : g_InR v2) {v3 : Int} (hv3 : g_InR v3) (h : g_ok M → g_O M a0 12 ∧ ∃ b2, g_r M a0 51 = some b2 ∧ g_InR (v3 - 1) ∧ g_Call d 369 [.ref a0, g_n v1, g_n v2, g_n (v3 - 1)] M (g_qI fun r8 M5 => g_ext M M5 → g_ok M5 → g_InR r8 → ∃ n10, g_A M5 b2 1 n10 ∧ ((0 : Int) ≤ r8 ∧ (r8 : Int) < n10) ∧ ∃ b13, g_r M5 a0 51 = some b13 ∧ g_Call d 369 [.ref a0, g_n v1, g_n v2, g_n v3] M5 (g_qI fun r18 M15 => g_ext M5 M15 → g_ok M15 → g_InR r18 → ∃ n20, g_A M15 b13 1 n20 ∧ ((0 : Int) ≤ r18 ∧ (r18 : Int) < n20) ∧ g_Call d 367 [.ref a0, g_n v1, g_n (g_i M5 b2 r8)] M15 (g_qI fun r26 M23 => g_ext M15 M23 → g_ok M23 → g_InR r26 → g_InR (r26 - 1) ∧ ∃ b29, g_r M23 a0 51 = some b29 ∧ g_Call d 369 [.ref a0, g_n v1, g_n (g_i M5 b2 r8), g_n (r26 - 1)] M23 (g_qI fun r34 M31 => g_ext M23 M31 → g_ok M31 → g_InR r34 → ∃ n36, g_A M31 b29 1 n36 ∧ ((0 : Int) ≤ r34 ∧ (r34 : Int) < n36) ∧ ∃ b39, g_r M31 a0 52 = some b39 ∧ g_Call d 369 [.ref a0, g_n v1, g_n (g_i M5 b2 r8), g_n (r26 - 1)] M31 (g_qI fun r44 M41 => g_ext M31 M41 → g_ok M41 → g_InR r44 → ∃ n46, g_A M41 b39 1 n46 ∧ ((0 : Int) ≤ r44 ∧ (r44 : Int) < n46) ∧ g_Call d 373 [.ref a0, g_n v1, g_n (g_i M5 b2 r8), g_n (r26 - 1)] M41 (g_qV fun M49 => g_ext M41 M49 → g_ok M49 → g_Call d 372 [.ref a0, g_n v1, g_n (g_i M15 b13 r18), g_n 0, g_n (g_i M31 b29 r34), g_n 0] M49 (g_qV fun M52 => g_ext M49 M52 → g_ok M52 → g_Call d 376 [.ref a0, g_n v1, g_n (g_i M15 b13 r18)] M52 (g_qI fun r58 M55 => g_ext M52 M55 → g_ok M55 → g_InR r58 → ((r58 = 0 → ∃ b60, g_r M55 a0 52 = some b60 ∧ g_Call d 369 [.ref a0, g_n v1, g_n (g_i M15 b13 r18), g_n 1] M55 (g_qI fun r65 M62 => g_ext M55 M62 → g_ok M62 → g_InR r65 → ∃ b67, g_r M62 a0 52 = some b67 ∧ g_Call d 369 [.ref a0, g_n v1, g_n v2, g_n v3] M62 (g_qI fun r72 M69 => g_ext M62 M69 → g_ok M69 → g_InR r72 → ∃ n74, g_A M69 b67 1 n74 ∧ ((0 : Int) ≤ r72 ∧ (r72 : Int) < n74) ∧ ∃ n77, g_A M69 b60 1 n77 ∧ ((0 : Int) ≤ r65 ∧ (r65 : Int) < n77) ∧ (∀ M80, M80 = g_wi M69 b60 r65 (g_i M69 b67 r72) → g_ok M80 → ∃ b84, g_r M80 a0 52 = some b84 ∧ g_Call d 369 [.ref a0, g_n v1, g_n v2, g_n v3] M80 (g_qI fun r89 M86 => g_ext M80 M86 → g_ok M86 → g_InR r89 → ∃ n91, g_A M86 b84 1 n91 ∧ ((0 : Int) ≤ r89 ∧ (r89 : Int) < n91) ∧ (∀ M94, M94 = g_wi M86 b84 r89 (g_i M41 b39 r44) → g_ok M94 → Q M94)))))) ∧ (¬ r58 = 0 → ∃ b98, g_r M55 a0 52 = some b98 ∧ g_Call d 369 [.ref a0, g_n v1, g_n v2, g_n v3] M55 (g_qI fun r103 M100 => g_ext M55 M100 → g_ok M100 → g_InR r103 → ∃ n105, g_A M100 b98 1 n105 ∧ ((0 : Int) ≤ r103 ∧ (r103 : Int) < n105) ∧ (∀ M108, M108 = g_wi M100 b98 r103 (g_i M31 b29 r34) → g_ok M108 → Q M108))))))))))))) : g_Call (d + 1) 380 [.ref a0, g_n v1, g_n v2, g_n v3] M (g_qV Q) := by
  refine g_Call.ok fun hok0 => ?_
  replace h := h hok0
  refine r_body rfl (lv := [(0, .ref a0), (1, g_n v1), (2, g_n v2), (3, g_n v3)]) rfl ?_
  refine g_Run.ok fun hok => ?_
  refine r_aload_n x_380_0 rfl ?_
  obtain ⟨hO1, h⟩ := h
  obtain ⟨b2, hb3, h⟩ := h
  refine r_getR x_380_1 rfl (ci := 12) (k := 51) (ns := 0) (by decide +kernel) (by decide) rfl (kz := 51) rfl hO1 hb3 ?_
  refine r_aload_n x_380_4 rfl ?_
  refine r_iload_n x_380_5 rfl ?_
  refine r_iload_n x_380_6 rfl ?_
  refine r_iload_n x_380_7 rfl ?_
  refine r_iconst x_380_8 ?_
  refine r_isub x_380_9 ?_
  obtain ⟨h4, h⟩ := h
  refine r_invV x_380_10 (z := 369) (ns := 0) (by decide +kernel) (as := [g_n v1, g_n v2, g_n (v3 - 1)]) (r := [.ref b2]) rfl rfl rfl hO1 rfl rfl ?_
  refine r_callI h fun r8 M5 hx6 hok7 hr9 h => ?_
  replace h := h hx6 hok7 hr9
  replace hO1 := hO1.up hx6
  obtain ⟨n10, hA11, h⟩ := h
  obtain ⟨h12, h⟩ := h
  refine r_iald x_380_13 hA11 hr9 h12.1 h12.2 ?_
  refine r_istore x_380_14 (by decide +kernel) rfl (lv1 := [(0, .ref a0), (1, g_n v1), (2, g_n v2), (3, g_n v3), (4, g_n (g_i M5 b2 r8))]) rfl ?_
  refine r_aload_n x_380_16 rfl ?_
  obtain ⟨b13, hb14, h⟩ := h
  refine r_getR x_380_17 rfl (ci := 12) (k := 51) (ns := 0) (by decide +kernel) (by decide) rfl (kz := 51) rfl hO1 hb14 ?_
  refine r_aload_n x_380_20 rfl ?_
  refine r_iload_n x_380_21 rfl ?_
  refine r_iload_n x_380_22 rfl ?_
  refine r_iload_n x_380_23 rfl ?_
  refine r_invV x_380_24 (z := 369) (ns := 0) (by decide +kernel) (as := [g_n v1, g_n v2, g_n v3]) (r := [.ref b13]) rfl rfl rfl hO1 rfl rfl ?_
  refine r_callI h fun r18 M15 hx16 hok17 hr19 h => ?_
  replace h := h hx16 hok17 hr19
  replace hO1 := hO1.up hx16
  replace hA11 := hA11.up hx16
  obtain ⟨n20, hA21, h⟩ := h
  obtain ⟨h22, h⟩ := h
  refine r_iald x_380_27 hA21 hr19 h22.1 h22.2 ?_
  refine r_istore x_380_28 (by decide +kernel) rfl (lv1 := [(0, .ref a0), (1, g_n v1), (2, g_n v2), (3, g_n v3), (4, g_n (g_i M5 b2 r8)), (5, g_n (g_i M15 b13 r18))]) rfl ?_
  refine r_aload_n x_380_30 rfl ?_
  refine r_iload_n x_380_31 rfl ?_
  refine r_iload x_380_32 rfl ?_
  refine r_invV x_380_34 (z := 367) (ns := 0) (by decide +kernel) (as := [g_n v1, g_n (g_i M5 b2 r8)]) (r := []) rfl rfl rfl hO1 rfl rfl ?_
  refine r_callI h fun r26 M23 hx24 hok25 hr27 h => ?_
  replace h := h hx24 hok25 hr27
  replace hO1 := hO1.up hx24
  replace hA11 := hA11.up hx24
  replace hA21 := hA21.up hx24
  refine r_iconst x_380_37 ?_
  refine r_isub x_380_38 ?_
  obtain ⟨h28, h⟩ := h
  refine r_istore x_380_39 (by decide +kernel) rfl (lv1 := [(0, .ref a0), (1, g_n v1), (2, g_n v2), (3, g_n v3), (4, g_n (g_i M5 b2 r8)), (5, g_n (g_i M15 b13 r18)), (6, g_n (r26 - 1))]) rfl ?_
  refine r_aload_n x_380_41 rfl ?_
  obtain ⟨b29, hb30, h⟩ := h
  refine r_getR x_380_42 rfl (ci := 12) (k := 51) (ns := 0) (by decide +kernel) (by decide) rfl (kz := 51) rfl hO1 hb30 ?_
  refine r_aload_n x_380_45 rfl ?_
  refine r_iload_n x_380_46 rfl ?_
  refine r_iload x_380_47 rfl ?_
  refine r_iload x_380_49 rfl ?_
  refine r_invV x_380_51 (z := 369) (ns := 0) (by decide +kernel) (as := [g_n v1, g_n (g_i M5 b2 r8), g_n (r26 - 1)]) (r := [.ref b29]) rfl rfl rfl hO1 rfl rfl ?_
  refine r_callI h fun r34 M31 hx32 hok33 hr35 h => ?_
  replace h := h hx32 hok33 hr35
  replace hO1 := hO1.up hx32
  replace hA11 := hA11.up hx32
  replace hA21 := hA21.up hx32
  obtain ⟨n36, hA37, h⟩ := h
  obtain ⟨h38, h⟩ := h
  refine r_iald x_380_54 hA37 hr35 h38.1 h38.2 ?_
  refine r_istore x_380_55 (by decide +kernel) rfl (lv1 := [(0, .ref a0), (1, g_n v1), (2, g_n v2), (3, g_n v3), (4, g_n (g_i M5 b2 r8)), (5, g_n (g_i M15 b13 r18)), (6, g_n (r26 - 1)), (7, g_n (g_i M31 b29 r34))]) rfl ?_
  refine r_aload_n x_380_57 rfl ?_
  obtain ⟨b39, hb40, h⟩ := h
  refine r_getR x_380_58 rfl (ci := 12) (k := 52) (ns := 0) (by decide +kernel) (by decide) rfl (kz := 52) rfl hO1 hb40 ?_
  refine r_aload_n x_380_61 rfl ?_
  refine r_iload_n x_380_62 rfl ?_
  refine r_iload x_380_63 rfl ?_
  refine r_iload x_380_65 rfl ?_
  refine r_invV x_380_67 (z := 369) (ns := 0) (by decide +kernel) (as := [g_n v1, g_n (g_i M5 b2 r8), g_n (r26 - 1)]) (r := [.ref b39]) rfl rfl rfl hO1 rfl rfl ?_
  refine r_callI h fun r44 M41 hx42 hok43 hr45 h => ?_
  replace h := h hx42 hok43 hr45
  replace hO1 := hO1.up hx42
  replace hA11 := hA11.up hx42
  replace hA21 := hA21.up hx42
  replace hA37 := hA37.up hx42
  obtain ⟨n46, hA47, h⟩ := h
  obtain ⟨h48, h⟩ := h
  refine r_iald x_380_70 hA47 hr45 h48.1 h48.2 ?_
  refine r_istore x_380_71 (by decide +kernel) rfl (lv1 := [(0, .ref a0), (1, g_n v1), (2, g_n v2), (3, g_n v3), (4, g_n (g_i M5 b2 r8)), (5, g_n (g_i M15 b13 r18)), (6, g_n (r26 - 1)), (7, g_n (g_i M31 b29 r34)), (8, g_n (g_i M41 b39 r44))]) rfl ?_
  refine r_aload_n x_380_73 rfl ?_
  refine r_iload_n x_380_74 rfl ?_
  refine r_iload x_380_75 rfl ?_
  refine r_iload x_380_77 rfl ?_
  refine r_invV x_380_79 (z := 373) (ns := 0) (by decide +kernel) (as := [g_n v1, g_n (g_i M5 b2 r8), g_n (r26 - 1)]) (r := []) rfl rfl rfl hO1 rfl rfl ?_
  refine r_callV h fun M49 hx50 hok51 h => ?_
  replace h := h hx50 hok51
  replace hO1 := hO1.up hx50
  replace hA11 := hA11.up hx50
  replace hA21 := hA21.up hx50
  replace hA37 := hA37.up hx50
  replace hA47 := hA47.up hx50
  refine r_aload_n x_380_82 rfl ?_
  refine r_iload_n x_380_83 rfl ?_
  refine r_iload x_380_84 rfl ?_
  refine r_iconst x_380_86 ?_
  refine r_iload x_380_87 rfl ?_
  refine r_iconst x_380_89 ?_
  refine r_invV x_380_90 (z := 372) (ns := 0) (by decide +kernel) (as := [g_n v1, g_n (g_i M15 b13 r18), g_n 0, g_n (g_i M31 b29 r34), g_n 0]) (r := []) rfl rfl rfl hO1 rfl rfl ?_
  refine r_callV h fun M52 hx53 hok54 h => ?_
  replace h := h hx53 hok54
  replace hO1 := hO1.up hx53
  replace hA11 := hA11.up hx53
  replace hA21 := hA21.up hx53
  replace hA37 := hA37.up hx53
  replace hA47 := hA47.up hx53
  refine r_aload_n x_380_93 rfl ?_
  refine r_iload_n x_380_94 rfl ?_
  refine r_iload x_380_95 rfl ?_
  refine r_invV x_380_97 (z := 376) (ns := 0) (by decide +kernel) (as := [g_n v1, g_n (g_i M15 b13 r18)]) (r := []) rfl rfl rfl hO1 rfl rfl ?_
  refine r_callI h fun r58 M55 hx56 hok57 hr59 h => ?_
  replace h := h hx56 hok57 hr59
  replace hO1 := hO1.up hx56
  replace hA11 := hA11.up hx56
  replace hA21 := hA21.up hx56
  replace hA37 := hA37.up hx56
  replace hA47 := hA47.up hx56
  refine r_if_eq x_380_100 (t := 120) (by decide +kernel) hr59 (fun hc => ?_) (fun hc => ?_)
  · replace h := h.1 hc
    refine r_aload_n x_380_120 rfl ?_
    obtain ⟨b60, hb61, h⟩ := h
    refine r_getR x_380_121 rfl (ci := 12) (k := 52) (ns := 0) (by decide +kernel) (by decide) rfl (kz := 52) rfl hO1 hb61 ?_
    refine r_aload_n x_380_124 rfl ?_
    refine r_iload_n x_380_125 rfl ?_
    refine r_iload x_380_126 rfl ?_
    refine r_iconst x_380_128 ?_
    refine r_invV x_380_129 (z := 369) (ns := 0) (by decide +kernel) (as := [g_n v1, g_n (g_i M15 b13 r18), g_n 1]) (r := [.ref b60]) rfl rfl rfl hO1 rfl rfl ?_
    refine r_callI h fun r65 M62 hx63 hok64 hr66 h => ?_
    replace h := h hx63 hok64 hr66
    replace hO1 := hO1.up hx63
    replace hA11 := hA11.up hx63
    replace hA21 := hA21.up hx63
    replace hA37 := hA37.up hx63
    replace hA47 := hA47.up hx63
    refine r_aload_n x_380_132 rfl ?_
    obtain ⟨b67, hb68, h⟩ := h
    refine r_getR x_380_133 rfl (ci := 12) (k := 52) (ns := 0) (by decide +kernel) (by decide) rfl (kz := 52) rfl hO1 hb68 ?_
    refine r_aload_n x_380_136 rfl ?_
    refine r_iload_n x_380_137 rfl ?_
    refine r_iload_n x_380_138 rfl ?_
    refine r_iload_n x_380_139 rfl ?_
    refine r_invV x_380_140 (z := 369) (ns := 0) (by decide +kernel) (as := [g_n v1, g_n v2, g_n v3]) (r := [.ref b67, g_n r65, .ref b60]) rfl rfl rfl hO1 rfl rfl ?_
    refine r_callI h fun r72 M69 hx70 hok71 hr73 h => ?_
    replace h := h hx70 hok71 hr73
    replace hO1 := hO1.up hx70
    replace hA11 := hA11.up hx70
    replace hA21 := hA21.up hx70
    replace hA37 := hA37.up hx70
    replace hA47 := hA47.up hx70
    obtain ⟨n74, hA75, h⟩ := h
    obtain ⟨h76, h⟩ := h
    refine r_iald x_380_143 hA75 hr73 h76.1 h76.2 ?_
    obtain ⟨n77, hA78, h⟩ := h
    obtain ⟨h79, h⟩ := h
    refine r_iast x_380_144 hA78 hr66 h79.1 h79.2 (hok71.1 _ _) ?_
    obtain ⟨M80, hM81⟩ : ∃ Mz, Mz = g_wi M69 b60 r65 (g_i M69 b67 r72) := ⟨_, rfl⟩
    rw [← hM81]
    refine g_Run.ok fun hok82 => ?_
    replace h := h M80 hM81 hok82
    have hx83 := g_extW hM81
    replace hO1 := hO1.up hx83
    replace hA11 := hA11.up hx83
    replace hA21 := hA21.up hx83
    replace hA37 := hA37.up hx83
    replace hA47 := hA47.up hx83
    replace hA75 := hA75.up hx83
    replace hA78 := hA78.up hx83
    refine r_aload_n x_380_145 rfl ?_
    obtain ⟨b84, hb85, h⟩ := h
    refine r_getR x_380_146 rfl (ci := 12) (k := 52) (ns := 0) (by decide +kernel) (by decide) rfl (kz := 52) rfl hO1 hb85 ?_
    refine r_aload_n x_380_149 rfl ?_
    refine r_iload_n x_380_150 rfl ?_
    refine r_iload_n x_380_151 rfl ?_
    refine r_iload_n x_380_152 rfl ?_
    refine r_invV x_380_153 (z := 369) (ns := 0) (by decide +kernel) (as := [g_n v1, g_n v2, g_n v3]) (r := [.ref b84]) rfl rfl rfl hO1 rfl rfl ?_
    refine r_callI h fun r89 M86 hx87 hok88 hr90 h => ?_
    replace h := h hx87 hok88 hr90
    replace hO1 := hO1.up hx87
    replace hA11 := hA11.up hx87
    replace hA21 := hA21.up hx87
    replace hA37 := hA37.up hx87
    replace hA47 := hA47.up hx87
    replace hA75 := hA75.up hx87
    replace hA78 := hA78.up hx87
    refine r_iload x_380_156 rfl ?_
    obtain ⟨n91, hA92, h⟩ := h
    obtain ⟨h93, h⟩ := h
    refine r_iast x_380_158 hA92 hr90 h93.1 h93.2 (hok43.1 _ _) ?_
    obtain ⟨M94, hM95⟩ : ∃ Mz, Mz = g_wi M86 b84 r89 (g_i M41 b39 r44) := ⟨_, rfl⟩
    rw [← hM95]
    refine g_Run.ok fun hok96 => ?_
    replace h := h M94 hM95 hok96
    have hx97 := g_extW hM95
    replace hO1 := hO1.up hx97
    replace hA11 := hA11.up hx97
    replace hA21 := hA21.up hx97
    replace hA37 := hA37.up hx97
    replace hA47 := hA47.up hx97
    replace hA75 := hA75.up hx97
    replace hA78 := hA78.up hx97
    replace hA92 := hA92.up hx97
    exact r_retV x_380_159 rfl h
  · replace h := h.2 hc
    refine r_aload_n x_380_103 rfl ?_
    obtain ⟨b98, hb99, h⟩ := h
    refine r_getR x_380_104 rfl (ci := 12) (k := 52) (ns := 0) (by decide +kernel) (by decide) rfl (kz := 52) rfl hO1 hb99 ?_
    refine r_aload_n x_380_107 rfl ?_
    refine r_iload_n x_380_108 rfl ?_
    refine r_iload_n x_380_109 rfl ?_
    refine r_iload_n x_380_110 rfl ?_
    refine r_invV x_380_111 (z := 369) (ns := 0) (by decide +kernel) (as := [g_n v1, g_n v2, g_n v3]) (r := [.ref b98]) rfl rfl rfl hO1 rfl rfl ?_
    refine r_callI h fun r103 M100 hx101 hok102 hr104 h => ?_
    replace h := h hx101 hok102 hr104
    replace hO1 := hO1.up hx101
    replace hA11 := hA11.up hx101
    replace hA21 := hA21.up hx101
    replace hA37 := hA37.up hx101
    replace hA47 := hA47.up hx101
    refine r_iload x_380_114 rfl ?_
    obtain ⟨n105, hA106, h⟩ := h
    obtain ⟨h107, h⟩ := h
    refine r_iast x_380_116 hA106 hr104 h107.1 h107.2 (hok33.1 _ _) ?_
    obtain ⟨M108, hM109⟩ : ∃ Mz, Mz = g_wi M100 b98 r103 (g_i M31 b29 r34) := ⟨_, rfl⟩
    rw [← hM109]
    refine g_Run.ok fun hok110 => ?_
    replace h := h M108 hM109 hok110
    have hx111 := g_extW hM109
    replace hO1 := hO1.up hx111
    replace hA11 := hA11.up hx111
    replace hA21 := hA21.up hx111
    replace hA37 := hA37.up hx111
    replace hA47 := hA47.up hx111
    replace hA106 := hA106.up hx111
    refine r_goto x_380_117 (t := 159) (by decide +kernel) ?_
    exact r_retV x_380_159 rfl h
theorem m_X12_fromBehind {d : Nat} {M : g_M} {Q : g_M → Prop} {a0 : Nat} {v1 : Int} (hv1 : g_InR v1) {v2 : Int} (hv2 : g_InR v2) {v3 : Int} (hv3 : g_InR v3) (h : g_ok M → g_O M a0 12 ∧ ∃ b2, g_r M a0 51 = some b2 ∧ g_Call d 369 [.ref a0, g_n v1, g_n v2, g_n v3] M (g_qI fun r7 M4 => g_ext M M4 → g_ok M4 → g_InR r7 → ∃ n9, g_A M4 b2 1 n9 ∧ ((0 : Int) ≤ r7 ∧ (r7 : Int) < n9) ∧ ∃ b12, g_r M4 a0 51 = some b12 ∧ g_InR (v3 + 1) ∧ g_Call d 369 [.ref a0, g_n v1, g_n v2, g_n (v3 + 1)] M4 (g_qI fun r18 M15 => g_ext M4 M15 → g_ok M15 → g_InR r18 → ∃ n20, g_A M15 b12 1 n20 ∧ ((0 : Int) ≤ r18 ∧ (r18 : Int) < n20) ∧ ∃ b23, g_r M15 a0 51 = some b23 ∧ g_Call d 369 [.ref a0, g_n v1, g_n (g_i M15 b12 r18), g_n 0] M15 (g_qI fun r28 M25 => g_ext M15 M25 → g_ok M25 → g_InR r28 → ∃ n30, g_A M25 b23 1 n30 ∧ ((0 : Int) ≤ r28 ∧ (r28 : Int) < n30) ∧ g_Call d 367 [.ref a0, g_n v1, g_n (g_i M15 b12 r18)] M25 (g_qI fun r36 M33 => g_ext M25 M33 → g_ok M33 → g_InR r36 → ((1 < r36 → ∃ b38, g_r M33 a0 52 = some b38 ∧ g_Call d 369 [.ref a0, g_n v1, g_n (g_i M15 b12 r18), g_n 1] M33 (g_qI fun r43 M40 => g_ext M33 M40 → g_ok M40 → g_InR r43 → ∃ n45, g_A M40 b38 1 n45 ∧ ((0 : Int) ≤ r43 ∧ (r43 : Int) < n45) ∧ g_Run d 381 73 [(0, .ref a0), (1, g_n v1), (2, g_n v2), (3, g_n v3), (4, g_n (g_i M4 b2 r7)), (5, g_n (g_i M15 b12 r18)), (6, g_n (g_i M25 b23 r28))] [g_n (g_i M40 b38 r43)] M40 (g_qV Q))) ∧ (¬ 1 < r36 → g_Run d 381 73 [(0, .ref a0), (1, g_n v1), (2, g_n v2), (3, g_n v3), (4, g_n (g_i M4 b2 r7)), (5, g_n (g_i M15 b12 r18)), (6, g_n (g_i M25 b23 r28))] [g_n 0] M33 (g_qV Q)))))))) : g_Call (d + 1) 381 [.ref a0, g_n v1, g_n v2, g_n v3] M (g_qV Q) := by
  refine g_Call.ok fun hok0 => ?_
  replace h := h hok0
  refine r_body rfl (lv := [(0, .ref a0), (1, g_n v1), (2, g_n v2), (3, g_n v3)]) rfl ?_
  refine g_Run.ok fun hok => ?_
  refine r_aload_n x_381_0 rfl ?_
  obtain ⟨hO1, h⟩ := h
  obtain ⟨b2, hb3, h⟩ := h
  refine r_getR x_381_1 rfl (ci := 12) (k := 51) (ns := 0) (by decide +kernel) (by decide) rfl (kz := 51) rfl hO1 hb3 ?_
  refine r_aload_n x_381_4 rfl ?_
  refine r_iload_n x_381_5 rfl ?_
  refine r_iload_n x_381_6 rfl ?_
  refine r_iload_n x_381_7 rfl ?_
  refine r_invV x_381_8 (z := 369) (ns := 0) (by decide +kernel) (as := [g_n v1, g_n v2, g_n v3]) (r := [.ref b2]) rfl rfl rfl hO1 rfl rfl ?_
  refine r_callI h fun r7 M4 hx5 hok6 hr8 h => ?_
  replace h := h hx5 hok6 hr8
  replace hO1 := hO1.up hx5
  obtain ⟨n9, hA10, h⟩ := h
  obtain ⟨h11, h⟩ := h
  refine r_iald x_381_11 hA10 hr8 h11.1 h11.2 ?_
  refine r_istore x_381_12 (by decide +kernel) rfl (lv1 := [(0, .ref a0), (1, g_n v1), (2, g_n v2), (3, g_n v3), (4, g_n (g_i M4 b2 r7))]) rfl ?_
  refine r_aload_n x_381_14 rfl ?_
  obtain ⟨b12, hb13, h⟩ := h
  refine r_getR x_381_15 rfl (ci := 12) (k := 51) (ns := 0) (by decide +kernel) (by decide) rfl (kz := 51) rfl hO1 hb13 ?_
  refine r_aload_n x_381_18 rfl ?_
  refine r_iload_n x_381_19 rfl ?_
  refine r_iload_n x_381_20 rfl ?_
  refine r_iload_n x_381_21 rfl ?_
  refine r_iconst x_381_22 ?_
  refine r_iadd x_381_23 ?_
  obtain ⟨h14, h⟩ := h
  refine r_invV x_381_24 (z := 369) (ns := 0) (by decide +kernel) (as := [g_n v1, g_n v2, g_n (v3 + 1)]) (r := [.ref b12]) rfl rfl rfl hO1 rfl rfl ?_
  refine r_callI h fun r18 M15 hx16 hok17 hr19 h => ?_
  replace h := h hx16 hok17 hr19
  replace hO1 := hO1.up hx16
  replace hA10 := hA10.up hx16
  obtain ⟨n20, hA21, h⟩ := h
  obtain ⟨h22, h⟩ := h
  refine r_iald x_381_27 hA21 hr19 h22.1 h22.2 ?_
  refine r_istore x_381_28 (by decide +kernel) rfl (lv1 := [(0, .ref a0), (1, g_n v1), (2, g_n v2), (3, g_n v3), (4, g_n (g_i M4 b2 r7)), (5, g_n (g_i M15 b12 r18))]) rfl ?_
  refine r_aload_n x_381_30 rfl ?_
  obtain ⟨b23, hb24, h⟩ := h
  refine r_getR x_381_31 rfl (ci := 12) (k := 51) (ns := 0) (by decide +kernel) (by decide) rfl (kz := 51) rfl hO1 hb24 ?_
  refine r_aload_n x_381_34 rfl ?_
  refine r_iload_n x_381_35 rfl ?_
  refine r_iload x_381_36 rfl ?_
  refine r_iconst x_381_38 ?_
  refine r_invV x_381_39 (z := 369) (ns := 0) (by decide +kernel) (as := [g_n v1, g_n (g_i M15 b12 r18), g_n 0]) (r := [.ref b23]) rfl rfl rfl hO1 rfl rfl ?_
  refine r_callI h fun r28 M25 hx26 hok27 hr29 h => ?_
  replace h := h hx26 hok27 hr29
  replace hO1 := hO1.up hx26
  replace hA10 := hA10.up hx26
  replace hA21 := hA21.up hx26
  obtain ⟨n30, hA31, h⟩ := h
  obtain ⟨h32, h⟩ := h
  refine r_iald x_381_42 hA31 hr29 h32.1 h32.2 ?_
  refine r_istore x_381_43 (by decide +kernel) rfl (lv1 := [(0, .ref a0), (1, g_n v1), (2, g_n v2), (3, g_n v3), (4, g_n (g_i M4 b2 r7)), (5, g_n (g_i M15 b12 r18)), (6, g_n (g_i M25 b23 r28))]) rfl ?_
  refine r_aload_n x_381_45 rfl ?_
  refine r_iload_n x_381_46 rfl ?_
  refine r_iload x_381_47 rfl ?_
  refine r_invV x_381_49 (z := 367) (ns := 0) (by decide +kernel) (as := [g_n v1, g_n (g_i M15 b12 r18)]) (r := []) rfl rfl rfl hO1 rfl rfl ?_
  refine r_callI h fun r36 M33 hx34 hok35 hr37 h => ?_
  replace h := h hx34 hok35 hr37
  replace hO1 := hO1.up hx34
  replace hA10 := hA10.up hx34
  replace hA21 := hA21.up hx34
  replace hA31 := hA31.up hx34
  refine r_iconst x_381_52 ?_
  refine r_ic_le x_381_53 (t := 72) (by decide +kernel) hr37 (g_Rk rfl) (fun hc => ?_) (fun hc => ?_)
  · replace h := h.2 hc
    refine r_iconst x_381_72 ?_
    exact h
  · replace h := h.1 hc
    refine r_aload_n x_381_56 rfl ?_
    obtain ⟨b38, hb39, h⟩ := h
    refine r_getR x_381_57 rfl (ci := 12) (k := 52) (ns := 0) (by decide +kernel) (by decide) rfl (kz := 52) rfl hO1 hb39 ?_
    refine r_aload_n x_381_60 rfl ?_
    refine r_iload_n x_381_61 rfl ?_
    refine r_iload x_381_62 rfl ?_
    refine r_iconst x_381_64 ?_
    refine r_invV x_381_65 (z := 369) (ns := 0) (by decide +kernel) (as := [g_n v1, g_n (g_i M15 b12 r18), g_n 1]) (r := [.ref b38]) rfl rfl rfl hO1 rfl rfl ?_
    refine r_callI h fun r43 M40 hx41 hok42 hr44 h => ?_
    replace h := h hx41 hok42 hr44
    replace hO1 := hO1.up hx41
    replace hA10 := hA10.up hx41
    replace hA21 := hA21.up hx41
    replace hA31 := hA31.up hx41
    obtain ⟨n45, hA46, h⟩ := h
    obtain ⟨h47, h⟩ := h
    refine r_iald x_381_68 hA46 hr44 h47.1 h47.2 ?_
    refine r_goto x_381_69 (t := 73) (by decide +kernel) ?_
    exact h
theorem s_X12_fromBehind_73 {d : Nat} {M : g_M} {Q : g_M → Prop} {a0 : Nat} {v1 : Int} (hv1 : g_InR v1) {v2 : Int} (hv2 : g_InR v2) {v3 : Int} (hv3 : g_InR v3) {v4 : Int} (hv4 : g_InR v4) {v5 : Int} (hv5 : g_InR v5) {v6 : Int} (hv6 : g_InR v6) {w0 : Int} (hw0 : g_InR w0) (h : g_ok M → g_O M a0 12 ∧ g_Call d 373 [.ref a0, g_n v1, g_n v5, g_n 0] M (g_qV fun M2 => g_ext M M2 → g_ok M2 → g_Call d 367 [.ref a0, g_n v1, g_n v4] M2 (g_qI fun r8 M5 => g_ext M2 M5 → g_ok M5 → g_InR r8 → ∃ b10, g_r M5 a0 52 = some b10 ∧ g_InR (v3 + 1) ∧ g_Call d 369 [.ref a0, g_n v1, g_n v2, g_n (v3 + 1)] M5 (g_qI fun r16 M13 => g_ext M5 M13 → g_ok M13 → g_InR r16 → ∃ n18, g_A M13 b10 1 n18 ∧ ((0 : Int) ≤ r16 ∧ (r16 : Int) < n18) ∧ g_Call d 372 [.ref a0, g_n v1, g_n v4, g_n r8, g_n v6, g_n (g_i M13 b10 r16)] M13 (g_qV fun M21 => g_ext M13 M21 → g_ok M21 → ∃ b24, g_r M21 a0 52 = some b24 ∧ g_InR (v3 + 1) ∧ g_Call d 369 [.ref a0, g_n v1, g_n v2, g_n (v3 + 1)] M21 (g_qI fun r30 M27 => g_ext M21 M27 → g_ok M27 → g_InR r30 → g_Call d 376 [.ref a0, g_n v1, g_n v4] M27 (g_qI fun r35 M32 => g_ext M27 M32 → g_ok M32 → g_InR r35 → ((r35 = 0 → ∃ n37, g_A M32 b24 1 n37 ∧ ((0 : Int) ≤ r30 ∧ (r30 : Int) < n37) ∧ (∀ M40, M40 = g_wi M32 b24 r30 w0 → g_ok M40 → Q M40)) ∧ (¬ r35 = 0 → ∃ b44, g_r M32 a0 51 = some b44 ∧ g_Call d 369 [.ref a0, g_n v1, g_n v5, g_n 0] M32 (g_qI fun r49 M46 => g_ext M32 M46 → g_ok M46 → g_InR r49 → ∃ n51, g_A M46 b44 1 n51 ∧ ((0 : Int) ≤ r49 ∧ (r49 : Int) < n51) ∧ ∃ n54, g_A M46 b24 1 n54 ∧ ((0 : Int) ≤ r30 ∧ (r30 : Int) < n54) ∧ (∀ M57, M57 = g_wi M46 b24 r30 (g_i M46 b44 r49) → g_ok M57 → Q M57))))))))))) : g_Run d 381 73 [(0, .ref a0), (1, g_n v1), (2, g_n v2), (3, g_n v3), (4, g_n v4), (5, g_n v5), (6, g_n v6)] [g_n w0] M (g_qV Q) := by
  refine g_Run.ok fun hok => ?_
  replace h := h hok
  refine r_istore x_381_73 (by decide +kernel) rfl (lv1 := [(0, .ref a0), (1, g_n v1), (2, g_n v2), (3, g_n v3), (4, g_n v4), (5, g_n v5), (6, g_n v6), (7, g_n w0)]) rfl ?_
  refine r_aload_n x_381_75 rfl ?_
  refine r_iload_n x_381_76 rfl ?_
  refine r_iload x_381_77 rfl ?_
  refine r_iconst x_381_79 ?_
  obtain ⟨hO1, h⟩ := h
  refine r_invV x_381_80 (z := 373) (ns := 0) (by decide +kernel) (as := [g_n v1, g_n v5, g_n 0]) (r := []) rfl rfl rfl hO1 rfl rfl ?_
  refine r_callV h fun M2 hx3 hok4 h => ?_
  replace h := h hx3 hok4
  replace hO1 := hO1.up hx3
  refine r_aload_n x_381_83 rfl ?_
  refine r_iload_n x_381_84 rfl ?_
  refine r_iload x_381_85 rfl ?_
  refine r_aload_n x_381_87 rfl ?_
  refine r_iload_n x_381_88 rfl ?_
  refine r_iload x_381_89 rfl ?_
  refine r_invV x_381_91 (z := 367) (ns := 0) (by decide +kernel) (as := [g_n v1, g_n v4]) (r := [g_n v4, g_n v1, .ref a0]) rfl rfl rfl hO1 rfl rfl ?_
  refine r_callI h fun r8 M5 hx6 hok7 hr9 h => ?_
  replace h := h hx6 hok7 hr9
  replace hO1 := hO1.up hx6
  refine r_iload x_381_94 rfl ?_
  refine r_aload_n x_381_96 rfl ?_
  obtain ⟨b10, hb11, h⟩ := h
  refine r_getR x_381_97 rfl (ci := 12) (k := 52) (ns := 0) (by decide +kernel) (by decide) rfl (kz := 52) rfl hO1 hb11 ?_
  refine r_aload_n x_381_100 rfl ?_
  refine r_iload_n x_381_101 rfl ?_
  refine r_iload_n x_381_102 rfl ?_
  refine r_iload_n x_381_103 rfl ?_
  refine r_iconst x_381_104 ?_
  refine r_iadd x_381_105 ?_
  obtain ⟨h12, h⟩ := h
  refine r_invV x_381_106 (z := 369) (ns := 0) (by decide +kernel) (as := [g_n v1, g_n v2, g_n (v3 + 1)]) (r := [.ref b10, g_n v6, g_n r8, g_n v4, g_n v1, .ref a0]) rfl rfl rfl hO1 rfl rfl ?_
  refine r_callI h fun r16 M13 hx14 hok15 hr17 h => ?_
  replace h := h hx14 hok15 hr17
  replace hO1 := hO1.up hx14
  obtain ⟨n18, hA19, h⟩ := h
  obtain ⟨h20, h⟩ := h
  refine r_iald x_381_109 hA19 hr17 h20.1 h20.2 ?_
  refine r_invV x_381_110 (z := 372) (ns := 0) (by decide +kernel) (as := [g_n v1, g_n v4, g_n r8, g_n v6, g_n (g_i M13 b10 r16)]) (r := []) rfl rfl rfl hO1 rfl rfl ?_
  refine r_callV h fun M21 hx22 hok23 h => ?_
  replace h := h hx22 hok23
  replace hO1 := hO1.up hx22
  replace hA19 := hA19.up hx22
  refine r_aload_n x_381_113 rfl ?_
  obtain ⟨b24, hb25, h⟩ := h
  refine r_getR x_381_114 rfl (ci := 12) (k := 52) (ns := 0) (by decide +kernel) (by decide) rfl (kz := 52) rfl hO1 hb25 ?_
  refine r_aload_n x_381_117 rfl ?_
  refine r_iload_n x_381_118 rfl ?_
  refine r_iload_n x_381_119 rfl ?_
  refine r_iload_n x_381_120 rfl ?_
  refine r_iconst x_381_121 ?_
  refine r_iadd x_381_122 ?_
  obtain ⟨h26, h⟩ := h
  refine r_invV x_381_123 (z := 369) (ns := 0) (by decide +kernel) (as := [g_n v1, g_n v2, g_n (v3 + 1)]) (r := [.ref b24]) rfl rfl rfl hO1 rfl rfl ?_
  refine r_callI h fun r30 M27 hx28 hok29 hr31 h => ?_
  replace h := h hx28 hok29 hr31
  replace hO1 := hO1.up hx28
  replace hA19 := hA19.up hx28
  refine r_aload_n x_381_126 rfl ?_
  refine r_iload_n x_381_127 rfl ?_
  refine r_iload x_381_128 rfl ?_
  refine r_invV x_381_130 (z := 376) (ns := 0) (by decide +kernel) (as := [g_n v1, g_n v4]) (r := [g_n r30, .ref b24]) rfl rfl rfl hO1 rfl rfl ?_
  refine r_callI h fun r35 M32 hx33 hok34 hr36 h => ?_
  replace h := h hx33 hok34 hr36
  replace hO1 := hO1.up hx33
  replace hA19 := hA19.up hx33
  refine r_if_eq x_381_133 (t := 152) (by decide +kernel) hr36 (fun hc => ?_) (fun hc => ?_)
  · replace h := h.1 hc
    refine r_iload x_381_152 rfl ?_
    obtain ⟨n37, hA38, h⟩ := h
    obtain ⟨h39, h⟩ := h
    refine r_iast x_381_154 hA38 hr31 h39.1 h39.2 hw0 ?_
    obtain ⟨M40, hM41⟩ : ∃ Mz, Mz = g_wi M32 b24 r30 w0 := ⟨_, rfl⟩
    rw [← hM41]
    refine g_Run.ok fun hok42 => ?_
    replace h := h M40 hM41 hok42
    have hx43 := g_extW hM41
    replace hO1 := hO1.up hx43
    replace hA19 := hA19.up hx43
    replace hA38 := hA38.up hx43
    exact r_retV x_381_155 rfl h
  · replace h := h.2 hc
    refine r_aload_n x_381_136 rfl ?_
    obtain ⟨b44, hb45, h⟩ := h
    refine r_getR x_381_137 rfl (ci := 12) (k := 51) (ns := 0) (by decide +kernel) (by decide) rfl (kz := 51) rfl hO1 hb45 ?_
    refine r_aload_n x_381_140 rfl ?_
    refine r_iload_n x_381_141 rfl ?_
    refine r_iload x_381_142 rfl ?_
    refine r_iconst x_381_144 ?_
    refine r_invV x_381_145 (z := 369) (ns := 0) (by decide +kernel) (as := [g_n v1, g_n v5, g_n 0]) (r := [.ref b44, g_n r30, .ref b24]) rfl rfl rfl hO1 rfl rfl ?_
    refine r_callI h fun r49 M46 hx47 hok48 hr50 h => ?_
    replace h := h hx47 hok48 hr50
    replace hO1 := hO1.up hx47
    replace hA19 := hA19.up hx47
    obtain ⟨n51, hA52, h⟩ := h
    obtain ⟨h53, h⟩ := h
    refine r_iald x_381_148 hA52 hr50 h53.1 h53.2 ?_
    refine r_goto x_381_149 (t := 154) (by decide +kernel) ?_
    obtain ⟨n54, hA55, h⟩ := h
    obtain ⟨h56, h⟩ := h
    refine r_iast x_381_154 hA55 hr31 h56.1 h56.2 (hok48.1 _ _) ?_
    obtain ⟨M57, hM58⟩ : ∃ Mz, Mz = g_wi M46 b24 r30 (g_i M46 b44 r49) := ⟨_, rfl⟩
    rw [← hM58]
    refine g_Run.ok fun hok59 => ?_
    replace h := h M57 hM58 hok59
    have hx60 := g_extW hM58
    replace hO1 := hO1.up hx60
    replace hA19 := hA19.up hx60
    replace hA52 := hA52.up hx60
    replace hA55 := hA55.up hx60
    exact r_retV x_381_155 rfl h
