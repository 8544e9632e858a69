theorem x_38_0 : decode (q_code 38) 0 = .ok (.aload_n 0, 1) := by decide +kernel
theorem x_38_1 : decode (q_code 38) 1 = .ok (.iload_n 1, 1) := by decide +kernel
theorem x_38_2 : decode (q_code 38) 2 = .ok (.invokestatic 31, 3) := by decide +kernel
theorem x_38_5 : decode (q_code 38) 5 = .ok (.ifCond .ne 7, 3) := by decide +kernel
theorem x_38_8 : decode (q_code 38) 8 = .ok (.iconst 0, 1) := by decide +kernel
theorem x_38_9 : decode (q_code 38) 9 = .ok (.goto 179, 3) := by decide +kernel
theorem x_38_12 : decode (q_code 38) 12 = .ok (.aload_n 0, 1) := by decide +kernel
theorem x_38_13 : decode (q_code 38) 13 = .ok (.iload_n 1, 1) := by decide +kernel
theorem x_38_14 : decode (q_code 38) 14 = .ok (.ldc 35, 2) := by decide +kernel
theorem x_38_16 : decode (q_code 38) 16 = .ok (.invokestatic 37, 3) := by decide +kernel
theorem x_38_19 : decode (q_code 38) 19 = .ok (.ifCond .eq 7, 3) := by decide +kernel
theorem x_38_22 : decode (q_code 38) 22 = .ok (.iconst 1, 1) := by decide +kernel
theorem x_38_23 : decode (q_code 38) 23 = .ok (.goto 165, 3) := by decide +kernel
theorem x_38_26 : decode (q_code 38) 26 = .ok (.aload_n 0, 1) := by decide +kernel
theorem x_38_27 : decode (q_code 38) 27 = .ok (.iload_n 1, 1) := by decide +kernel
theorem x_38_28 : decode (q_code 38) 28 = .ok (.ldc 41, 2) := by decide +kernel
theorem x_38_30 : decode (q_code 38) 30 = .ok (.invokestatic 37, 3) := by decide +kernel
theorem x_38_33 : decode (q_code 38) 33 = .ok (.ifCond .eq 7, 3) := by decide +kernel
theorem x_38_36 : decode (q_code 38) 36 = .ok (.iconst 2, 1) := by decide +kernel
theorem x_38_37 : decode (q_code 38) 37 = .ok (.goto 151, 3) := by decide +kernel
theorem x_38_40 : decode (q_code 38) 40 = .ok (.aload_n 0, 1) := by decide +kernel
theorem x_38_41 : decode (q_code 38) 41 = .ok (.iload_n 1, 1) := by decide +kernel
theorem x_38_42 : decode (q_code 38) 42 = .ok (.ldc 43, 2) := by decide +kernel
theorem x_38_44 : decode (q_code 38) 44 = .ok (.invokestatic 37, 3) := by decide +kernel
theorem x_38_47 : decode (q_code 38) 47 = .ok (.ifCond .eq 7, 3) := by decide +kernel
theorem x_38_50 : decode (q_code 38) 50 = .ok (.iconst 3, 1) := by decide +kernel
theorem x_38_51 : decode (q_code 38) 51 = .ok (.goto 137, 3) := by decide +kernel
theorem x_38_54 : decode (q_code 38) 54 = .ok (.aload_n 0, 1) := by decide +kernel
theorem x_38_55 : decode (q_code 38) 55 = .ok (.iload_n 1, 1) := by decide +kernel
theorem x_38_56 : decode (q_code 38) 56 = .ok (.ldc 45, 2) := by decide +kernel
theorem x_38_58 : decode (q_code 38) 58 = .ok (.invokestatic 37, 3) := by decide +kernel
theorem x_38_61 : decode (q_code 38) 61 = .ok (.ifCond .eq 7, 3) := by decide +kernel
theorem x_38_64 : decode (q_code 38) 64 = .ok (.iconst 4, 1) := by decide +kernel
theorem x_38_65 : decode (q_code 38) 65 = .ok (.goto 123, 3) := by decide +kernel
theorem x_38_68 : decode (q_code 38) 68 = .ok (.aload_n 0, 1) := by decide +kernel
theorem x_38_69 : decode (q_code 38) 69 = .ok (.iload_n 1, 1) := by decide +kernel
theorem x_38_70 : decode (q_code 38) 70 = .ok (.ldc 47, 2) := by decide +kernel
theorem x_38_72 : decode (q_code 38) 72 = .ok (.invokestatic 37, 3) := by decide +kernel
theorem x_38_75 : decode (q_code 38) 75 = .ok (.ifCond .eq 7, 3) := by decide +kernel
theorem x_38_78 : decode (q_code 38) 78 = .ok (.iconst 5, 1) := by decide +kernel
theorem x_38_79 : decode (q_code 38) 79 = .ok (.goto 109, 3) := by decide +kernel
theorem x_38_82 : decode (q_code 38) 82 = .ok (.aload_n 0, 1) := by decide +kernel
theorem x_38_83 : decode (q_code 38) 83 = .ok (.iload_n 1, 1) := by decide +kernel
theorem x_38_84 : decode (q_code 38) 84 = .ok (.ldc 49, 2) := by decide +kernel
theorem x_38_86 : decode (q_code 38) 86 = .ok (.invokestatic 37, 3) := by decide +kernel
theorem x_38_89 : decode (q_code 38) 89 = .ok (.ifCond .eq 8, 3) := by decide +kernel
theorem x_38_92 : decode (q_code 38) 92 = .ok (.bipush 6, 2) := by decide +kernel
theorem x_38_94 : decode (q_code 38) 94 = .ok (.goto 94, 3) := by decide +kernel
theorem x_38_97 : decode (q_code 38) 97 = .ok (.aload_n 0, 1) := by decide +kernel
theorem x_38_98 : decode (q_code 38) 98 = .ok (.iload_n 1, 1) := by decide +kernel
theorem x_38_99 : decode (q_code 38) 99 = .ok (.ldc 51, 2) := by decide +kernel
theorem x_38_101 : decode (q_code 38) 101 = .ok (.invokestatic 37, 3) := by decide +kernel
theorem x_38_104 : decode (q_code 38) 104 = .ok (.ifCond .eq 8, 3) := by decide +kernel
theorem x_38_107 : decode (q_code 38) 107 = .ok (.bipush 7, 2) := by decide +kernel
theorem x_38_109 : decode (q_code 38) 109 = .ok (.goto 79, 3) := by decide +kernel
theorem x_38_112 : decode (q_code 38) 112 = .ok (.aload_n 0, 1) := by decide +kernel
theorem x_38_113 : decode (q_code 38) 113 = .ok (.iload_n 1, 1) := by decide +kernel
theorem x_38_114 : decode (q_code 38) 114 = .ok (.ldc 53, 2) := by decide +kernel
theorem x_38_116 : decode (q_code 38) 116 = .ok (.invokestatic 37, 3) := by decide +kernel
theorem x_38_119 : decode (q_code 38) 119 = .ok (.ifCond .eq 8, 3) := by decide +kernel
theorem x_38_122 : decode (q_code 38) 122 = .ok (.bipush 8, 2) := by decide +kernel
theorem x_38_124 : decode (q_code 38) 124 = .ok (.goto 64, 3) := by decide +kernel
theorem x_38_127 : decode (q_code 38) 127 = .ok (.aload_n 0, 1) := by decide +kernel
theorem x_38_128 : decode (q_code 38) 128 = .ok (.iload_n 1, 1) := by decide +kernel
theorem x_38_129 : decode (q_code 38) 129 = .ok (.ldc 55, 2) := by decide +kernel
theorem x_38_131 : decode (q_code 38) 131 = .ok (.invokestatic 37, 3) := by decide +kernel
theorem x_38_134 : decode (q_code 38) 134 = .ok (.ifCond .eq 8, 3) := by decide +kernel
theorem x_38_137 : decode (q_code 38) 137 = .ok (.bipush 9, 2) := by decide +kernel
theorem x_38_139 : decode (q_code 38) 139 = .ok (.goto 49, 3) := by decide +kernel
theorem x_38_142 : decode (q_code 38) 142 = .ok (.aload_n 0, 1) := by decide +kernel
theorem x_38_143 : decode (q_code 38) 143 = .ok (.iload_n 1, 1) := by decide +kernel
theorem x_38_144 : decode (q_code 38) 144 = .ok (.ldc 57, 2) := by decide +kernel
theorem x_38_146 : decode (q_code 38) 146 = .ok (.invokestatic 37, 3) := by decide +kernel
theorem x_38_149 : decode (q_code 38) 149 = .ok (.ifCond .eq 8, 3) := by decide +kernel
theorem x_38_152 : decode (q_code 38) 152 = .ok (.bipush 10, 2) := by decide +kernel
theorem x_38_154 : decode (q_code 38) 154 = .ok (.goto 34, 3) := by decide +kernel
theorem x_38_157 : decode (q_code 38) 157 = .ok (.aload_n 0, 1) := by decide +kernel
theorem x_38_158 : decode (q_code 38) 158 = .ok (.iload_n 1, 1) := by decide +kernel
theorem x_38_159 : decode (q_code 38) 159 = .ok (.ldc 59, 2) := by decide +kernel
theorem x_38_161 : decode (q_code 38) 161 = .ok (.invokestatic 37, 3) := by decide +kernel
theorem x_38_164 : decode (q_code 38) 164 = .ok (.ifCond .eq 8, 3) := by decide +kernel
theorem x_38_167 : decode (q_code 38) 167 = .ok (.bipush 11, 2) := by decide +kernel
theorem x_38_169 : decode (q_code 38) 169 = .ok (.goto 19, 3) := by decide +kernel
theorem x_38_172 : decode (q_code 38) 172 = .ok (.aload_n 0, 1) := by decide +kernel
theorem x_38_173 : decode (q_code 38) 173 = .ok (.iload_n 1, 1) := by decide +kernel
theorem x_38_174 : decode (q_code 38) 174 = .ok (.ldc 61, 2) := by decide +kernel
theorem x_38_176 : decode (q_code 38) 176 = .ok (.invokestatic 37, 3) := by decide +kernel
theorem x_38_179 : decode (q_code 38) 179 = .ok (.ifCond .eq 8, 3) := by decide +kernel
theorem x_38_182 : decode (q_code 38) 182 = .ok (.bipush 12, 2) := by decide +kernel
theorem x_38_184 : decode (q_code 38) 184 = .ok (.goto 4, 3) := by decide +kernel
theorem x_38_187 : decode (q_code 38) 187 = .ok (.iconst 0, 1) := by decide +kernel
theorem x_38_188 : decode (q_code 38) 188 = .ok (.ireturn, 1) := by decide +kernel
theorem x_39_0 : decode (q_code 39) 0 = .ok (.aload_n 0, 1) := by decide +kernel
theorem x_39_1 : decode (q_code 39) 1 = .ok (.iload_n 1, 1) := by decide +kernel
theorem x_39_2 : decode (q_code 39) 2 = .ok (.ldc 63, 2) := by decide +kernel
theorem x_39_4 : decode (q_code 39) 4 = .ok (.invokestatic 37, 3) := by decide +kernel
theorem x_39_7 : decode (q_code 39) 7 = .ok (.ifCond .ne 23, 3) := by decide +kernel
theorem x_39_10 : decode (q_code 39) 10 = .ok (.aload_n 0, 1) := by decide +kernel
theorem x_39_11 : decode (q_code 39) 11 = .ok (.iload_n 1, 1) := by decide +kernel
theorem x_39_12 : decode (q_code 39) 12 = .ok (.ldc 65, 2) := by decide +kernel
theorem x_39_14 : decode (q_code 39) 14 = .ok (.invokestatic 37, 3) := by decide +kernel
theorem x_39_17 : decode (q_code 39) 17 = .ok (.ifCond .ne 13, 3) := by decide +kernel
theorem x_39_20 : decode (q_code 39) 20 = .ok (.aload_n 0, 1) := by decide +kernel
theorem x_39_21 : decode (q_code 39) 21 = .ok (.iload_n 1, 1) := by decide +kernel
theorem x_39_22 : decode (q_code 39) 22 = .ok (.ldc 67, 2) := by decide +kernel
theorem x_39_24 : decode (q_code 39) 24 = .ok (.invokestatic 37, 3) := by decide +kernel
theorem x_39_27 : decode (q_code 39) 27 = .ok (.ifCond .eq 7, 3) := by decide +kernel
theorem x_39_30 : decode (q_code 39) 30 = .ok (.iconst 1, 1) := by decide +kernel
theorem x_39_31 : decode (q_code 39) 31 = .ok (.goto 4, 3) := by decide +kernel
theorem x_39_34 : decode (q_code 39) 34 = .ok (.iconst 0, 1) := by decide +kernel
theorem x_39_35 : decode (q_code 39) 35 = .ok (.ireturn, 1) := by decide +kernel
theorem x_40_0 : decode (q_code 40) 0 = .ok (.aload_n 0, 1) := by decide +kernel
theorem x_40_1 : decode (q_code 40) 1 = .ok (.iload_n 1, 1) := by decide +kernel
theorem x_40_2 : decode (q_code 40) 2 = .ok (.invokestatic 69, 3) := by decide +kernel
theorem x_40_5 : decode (q_code 40) 5 = .ok (.iconst 3, 1) := by decide +kernel
theorem x_40_6 : decode (q_code 40) 6 = .ok (.if_icmp .eq 5, 3) := by decide +kernel
theorem x_40_9 : decode (q_code 40) 9 = .ok (.iconst 0, 1) := by decide +kernel
theorem x_40_10 : decode (q_code 40) 10 = .ok (.ireturn, 1) := by decide +kernel
theorem x_40_11 : decode (q_code 40) 11 = .ok (.aload_n 0, 1) := by decide +kernel
theorem x_40_12 : decode (q_code 40) 12 = .ok (.iload_n 1, 1) := by decide +kernel
theorem x_40_13 : decode (q_code 40) 13 = .ok (.invokestatic 73, 3) := by decide +kernel
theorem x_40_16 : decode (q_code 40) 16 = .ok (.istore_n 2, 1) := by decide +kernel
theorem x_40_17 : decode (q_code 40) 17 = .ok (.aload_n 0, 1) := by decide +kernel
theorem x_40_18 : decode (q_code 40) 18 = .ok (.iload_n 2, 1) := by decide +kernel
theorem x_40_19 : decode (q_code 40) 19 = .ok (.invokestatic 69, 3) := by decide +kernel
theorem x_40_22 : decode (q_code 40) 22 = .ok (.ifCond .eq 15, 3) := by decide +kernel
theorem x_40_25 : decode (q_code 40) 25 = .ok (.aload_n 0, 1) := by decide +kernel
theorem x_40_26 : decode (q_code 40) 26 = .ok (.iload_n 2, 1) := by decide +kernel
theorem x_40_27 : decode (q_code 40) 27 = .ok (.invokestatic 31, 3) := by decide +kernel
theorem x_40_30 : decode (q_code 40) 30 = .ok (.ifCond .eq 7, 3) := by decide +kernel
theorem x_40_33 : decode (q_code 40) 33 = .ok (.iconst 1, 1) := by decide +kernel
theorem x_40_34 : decode (q_code 40) 34 = .ok (.goto 4, 3) := by decide +kernel
theorem x_40_37 : decode (q_code 40) 37 = .ok (.iconst 0, 1) := by decide +kernel
theorem x_40_38 : decode (q_code 40) 38 = .ok (.ireturn, 1) := by decide +kernel
theorem x_41_0 : decode (q_code 41) 0 = .ok (.aload_n 0, 1) := by decide +kernel
theorem x_41_1 : decode (q_code 41) 1 = .ok (.iload_n 1, 1) := by decide +kernel
theorem x_41_2 : decode (q_code 41) 2 = .ok (.invokestatic 76, 3) := by decide +kernel
theorem x_41_5 : decode (q_code 41) 5 = .ok (.ifCond .eq 19, 3) := by decide +kernel
theorem x_41_8 : decode (q_code 41) 8 = .ok (.aload_n 0, 1) := by decide +kernel
theorem x_41_9 : decode (q_code 41) 9 = .ok (.aload_n 0, 1) := by decide +kernel
theorem x_41_10 : decode (q_code 41) 10 = .ok (.iload_n 1, 1) := by decide +kernel
theorem x_41_11 : decode (q_code 41) 11 = .ok (.invokestatic 73, 3) := by decide +kernel
theorem x_41_14 : decode (q_code 41) 14 = .ok (.invokestatic 79, 3) := by decide +kernel
theorem x_41_17 : decode (q_code 41) 17 = .ok (.ifCond .ne 7, 3) := by decide +kernel
theorem x_41_20 : decode (q_code 41) 20 = .ok (.iconst 1, 1) := by decide +kernel
theorem x_41_21 : decode (q_code 41) 21 = .ok (.goto 4, 3) := by decide +kernel
theorem x_41_24 : decode (q_code 41) 24 = .ok (.iconst 0, 1) := by decide +kernel
theorem x_41_25 : decode (q_code 41) 25 = .ok (.ireturn, 1) := by decide +kernel
theorem x_42_0 : decode (q_code 42) 0 = .ok (.aload_n 0, 1) := by decide +kernel
theorem x_42_1 : decode (q_code 42) 1 = .ok (.iconst 0, 1) := by decide +kernel
theorem x_42_2 : decode (q_code 42) 2 = .ok (.putfield 82, 3) := by decide +kernel
theorem x_42_5 : decode (q_code 42) 5 = .ok (.aload_n 0, 1) := by decide +kernel
theorem x_42_6 : decode (q_code 42) 6 = .ok (.iconst 0, 1) := by decide +kernel
theorem x_42_7 : decode (q_code 42) 7 = .ok (.putfield 86, 3) := by decide +kernel
theorem x_42_10 : decode (q_code 42) 10 = .ok (.aload_n 0, 1) := by decide +kernel
theorem x_42_11 : decode (q_code 42) 11 = .ok (.iload_n 1, 1) := by decide +kernel
theorem x_42_12 : decode (q_code 42) 12 = .ok (.iconst 0, 1) := by decide +kernel
theorem x_42_13 : decode (q_code 42) 13 = .ok (.invokevirtual 89, 3) := by decide +kernel
theorem x_42_16 : decode (q_code 42) 16 = .ok (.ireturn, 1) := by decide +kernel
theorem x_43_0 : decode (q_code 43) 0 = .ok (.aload_n 0, 1) := by decide +kernel
theorem x_43_1 : decode (q_code 43) 1 = .ok (.iload_n 1, 1) := by decide +kernel
theorem x_43_2 : decode (q_code 43) 2 = .ok (.putfield 86, 3) := by decide +kernel
theorem x_43_5 : decode (q_code 43) 5 = .ok (.aload_n 0, 1) := by decide +kernel
theorem x_43_6 : decode (q_code 43) 6 = .ok (.iload_n 2, 1) := by decide +kernel
theorem x_43_7 : decode (q_code 43) 7 = .ok (.putfield 93, 3) := by decide +kernel
theorem x_43_10 : decode (q_code 43) 10 = .ok (.iconst 0, 1) := by decide +kernel
theorem x_43_11 : decode (q_code 43) 11 = .ok (.ireturn, 1) := by decide +kernel
theorem x_44_0 : decode (q_code 44) 0 = .ok (.aload_n 0, 1) := by decide +kernel
theorem x_44_1 : decode (q_code 44) 1 = .ok (.dup, 1) := by decide +kernel
theorem x_44_2 : decode (q_code 44) 2 = .ok (.getfield 82, 3) := by decide +kernel
theorem x_44_5 : decode (q_code 44) 5 = .ok (.iload_n 1, 1) := by decide +kernel
theorem x_44_6 : decode (q_code 44) 6 = .ok (.iadd, 1) := by decide +kernel
theorem x_44_7 : decode (q_code 44) 7 = .ok (.putfield 82, 3) := by decide +kernel
theorem x_44_10 : decode (q_code 44) 10 = .ok (.aload_n 0, 1) := by decide +kernel
theorem x_44_11 : decode (q_code 44) 11 = .ok (.getfield 82, 3) := by decide +kernel
theorem x_44_14 : decode (q_code 44) 14 = .ok (.bipush 100, 2) := by decide +kernel
theorem x_44_16 : decode (q_code 44) 16 = .ok (.if_icmp .le 12, 3) := by decide +kernel
theorem x_44_19 : decode (q_code 44) 19 = .ok (.aload_n 0, 1) := by decide +kernel
theorem x_44_20 : decode (q_code 44) 20 = .ok (.iconst 5, 1) := by decide +kernel
theorem x_44_21 : decode (q_code 44) 21 = .ok (.iload_n 2, 1) := by decide +kernel
theorem x_44_22 : decode (q_code 44) 22 = .ok (.invokevirtual 96, 3) := by decide +kernel
theorem x_44_25 : decode (q_code 44) 25 = .ok (.ifCond .eq 7, 3) := by decide +kernel
theorem x_44_28 : decode (q_code 44) 28 = .ok (.iconst 1, 1) := by decide +kernel
theorem x_44_29 : decode (q_code 44) 29 = .ok (.goto 4, 3) := by decide +kernel
theorem x_44_32 : decode (q_code 44) 32 = .ok (.iconst 0, 1) := by decide +kernel
theorem x_44_33 : decode (q_code 44) 33 = .ok (.ireturn, 1) := by decide +kernel
theorem x_45_0 : decode (q_code 45) 0 = .ok (.aload_n 0, 1) := by decide +kernel
theorem x_45_1 : decode (q_code 45) 1 = .ok (.getfield 21, 3) := by decide +kernel
theorem x_45_4 : decode (q_code 45) 4 = .ok (.iload_n 1, 1) := by decide +kernel
theorem x_45_5 : decode (q_code 45) 5 = .ok (.invokestatic 73, 3) := by decide +kernel
theorem x_45_8 : decode (q_code 45) 8 = .ok (.istore_n 3, 1) := by decide +kernel
theorem x_45_9 : decode (q_code 45) 9 = .ok (.iconst 0, 1) := by decide +kernel
theorem x_45_10 : decode (q_code 45) 10 = .ok (.istore 4, 2) := by decide +kernel
theorem x_45_12 : decode (q_code 45) 12 = .ok (.iload 4, 2) := by decide +kernel
theorem x_45_14 : decode (q_code 45) 14 = .ok (.sipush 2000, 3) := by decide +kernel
theorem x_45_17 : decode (q_code 45) 17 = .ok (.if_icmp .ge 48, 3) := by decide +kernel
theorem x_45_20 : decode (q_code 45) 20 = .ok (.aload_n 0, 1) := by decide +kernel
theorem x_45_21 : decode (q_code 45) 21 = .ok (.getfield 21, 3) := by decide +kernel
theorem x_45_24 : decode (q_code 45) 24 = .ok (.iload_n 3, 1) := by decide +kernel
theorem x_45_25 : decode (q_code 45) 25 = .ok (.invokestatic 69, 3) := by decide +kernel
theorem x_45_28 : decode (q_code 45) 28 = .ok (.ifCond .eq 37, 3) := by decide +kernel
theorem x_45_31 : decode (q_code 45) 31 = .ok (.iload_n 2, 1) := by decide +kernel
theorem x_45_32 : decode (q_code 45) 32 = .ok (.bipush 60, 2) := by decide +kernel
theorem x_45_34 : decode (q_code 45) 34 = .ok (.if_icmp .gt 14, 3) := by decide +kernel
theorem x_45_37 : decode (q_code 45) 37 = .ok (.aload_n 0, 1) := by decide +kernel
theorem x_45_38 : decode (q_code 45) 38 = .ok (.iload_n 3, 1) := by decide +kernel
theorem x_45_39 : decode (q_code 45) 39 = .ok (.iload_n 2, 1) := by decide +kernel
theorem x_45_40 : decode (q_code 45) 40 = .ok (.iconst 1, 1) := by decide +kernel
theorem x_45_41 : decode (q_code 45) 41 = .ok (.iadd, 1) := by decide +kernel
theorem x_45_42 : decode (q_code 45) 42 = .ok (.invokevirtual 99, 3) := by decide +kernel
theorem x_45_45 : decode (q_code 45) 45 = .ok (.ifCond .ne 5, 3) := by decide +kernel
theorem x_45_48 : decode (q_code 45) 48 = .ok (.iconst 0, 1) := by decide +kernel
theorem x_45_49 : decode (q_code 45) 49 = .ok (.ireturn, 1) := by decide +kernel
theorem x_45_50 : decode (q_code 45) 50 = .ok (.aload_n 0, 1) := by decide +kernel
theorem x_45_51 : decode (q_code 45) 51 = .ok (.getfield 21, 3) := by decide +kernel
theorem x_45_54 : decode (q_code 45) 54 = .ok (.iload_n 3, 1) := by decide +kernel
theorem x_45_55 : decode (q_code 45) 55 = .ok (.invokestatic 102, 3) := by decide +kernel
theorem x_45_58 : decode (q_code 45) 58 = .ok (.istore_n 3, 1) := by decide +kernel
theorem x_45_59 : decode (q_code 45) 59 = .ok (.iinc 4 1, 3) := by decide +kernel
theorem x_45_62 : decode (q_code 45) 62 = .ok (.goto (-50), 3) := by decide +kernel
theorem x_45_65 : decode (q_code 45) 65 = .ok (.iconst 1, 1) := by decide +kernel
theorem x_45_66 : decode (q_code 45) 66 = .ok (.ireturn, 1) := by decide +kernel
theorem x_46_0 : decode (q_code 46) 0 = .ok (.aload_n 0, 1) := by decide +kernel
theorem x_46_1 : decode (q_code 46) 1 = .ok (.getfield 21, 3) := by decide +kernel
theorem x_46_4 : decode (q_code 46) 4 = .ok (.iload_n 1, 1) := by decide +kernel
theorem x_46_5 : decode (q_code 46) 5 = .ok (.invokestatic 31, 3) := by decide +kernel
theorem x_46_8 : decode (q_code 46) 8 = .ok (.ifCond .eq 10, 3) := by decide +kernel
theorem x_46_11 : decode (q_code 46) 11 = .ok (.aload_n 0, 1) := by decide +kernel
theorem x_46_12 : decode (q_code 46) 12 = .ok (.iload_n 1, 1) := by decide +kernel
theorem x_46_13 : decode (q_code 46) 13 = .ok (.iload_n 2, 1) := by decide +kernel
theorem x_46_14 : decode (q_code 46) 14 = .ok (.invokevirtual 105, 3) := by decide +kernel
theorem x_46_17 : decode (q_code 46) 17 = .ok (.ireturn, 1) := by decide +kernel
theorem x_46_18 : decode (q_code 46) 18 = .ok (.aload_n 0, 1) := by decide +kernel
theorem x_46_19 : decode (q_code 46) 19 = .ok (.getfield 27, 3) := by decide +kernel
theorem x_46_22 : decode (q_code 46) 22 = .ok (.aload_n 0, 1) := by decide +kernel
theorem x_46_23 : decode (q_code 46) 23 = .ok (.getfield 21, 3) := by decide +kernel
theorem x_46_26 : decode (q_code 46) 26 = .ok (.iload_n 1, 1) := by decide +kernel
theorem x_46_27 : decode (q_code 46) 27 = .ok (.invokevirtual 108, 3) := by decide +kernel
theorem x_46_30 : decode (q_code 46) 30 = .ok (.ifCond .eq 13, 3) := by decide +kernel
theorem x_46_33 : decode (q_code 46) 33 = .ok (.aload_n 0, 1) := by decide +kernel
theorem x_46_34 : decode (q_code 46) 34 = .ok (.getfield 27, 3) := by decide +kernel
theorem x_46_37 : decode (q_code 46) 37 = .ok (.getfield 111, 3) := by decide +kernel
theorem x_46_40 : decode (q_code 46) 40 = .ok (.ifCond .eq 10, 3) := by decide +kernel
theorem x_46_43 : decode (q_code 46) 43 = .ok (.aload_n 0, 1) := by decide +kernel
theorem x_46_44 : decode (q_code 46) 44 = .ok (.iconst 3, 1) := by decide +kernel
theorem x_46_45 : decode (q_code 46) 45 = .ok (.iload_n 1, 1) := by decide +kernel
theorem x_46_46 : decode (q_code 46) 46 = .ok (.invokevirtual 96, 3) := by decide +kernel
theorem x_46_49 : decode (q_code 46) 49 = .ok (.ireturn, 1) := by decide +kernel
theorem x_46_50 : decode (q_code 46) 50 = .ok (.aload_n 0, 1) := by decide +kernel
theorem x_46_51 : decode (q_code 46) 51 = .ok (.getfield 21, 3) := by decide +kernel
theorem x_46_54 : decode (q_code 46) 54 = .ok (.iload_n 1, 1) := by decide +kernel
theorem x_46_55 : decode (q_code 46) 55 = .ok (.invokestatic 76, 3) := by decide +kernel
theorem x_46_58 : decode (q_code 46) 58 = .ok (.ifCond .eq 27, 3) := by decide +kernel
theorem x_46_61 : decode (q_code 46) 61 = .ok (.aload_n 0, 1) := by decide +kernel
theorem x_46_62 : decode (q_code 46) 62 = .ok (.iconst 1, 1) := by decide +kernel
theorem x_46_63 : decode (q_code 46) 63 = .ok (.iload_n 1, 1) := by decide +kernel
theorem x_46_64 : decode (q_code 46) 64 = .ok (.invokevirtual 115, 3) := by decide +kernel
theorem x_46_67 : decode (q_code 46) 67 = .ok (.ifCond .eq 16, 3) := by decide +kernel
theorem x_46_70 : decode (q_code 46) 70 = .ok (.aload_n 0, 1) := by decide +kernel
theorem x_46_71 : decode (q_code 46) 71 = .ok (.iload_n 1, 1) := by decide +kernel
theorem x_46_72 : decode (q_code 46) 72 = .ok (.iload_n 2, 1) := by decide +kernel
theorem x_46_73 : decode (q_code 46) 73 = .ok (.invokevirtual 118, 3) := by decide +kernel
theorem x_46_76 : decode (q_code 46) 76 = .ok (.ifCond .eq 7, 3) := by decide +kernel
theorem x_46_79 : decode (q_code 46) 79 = .ok (.iconst 1, 1) := by decide +kernel
theorem x_46_80 : decode (q_code 46) 80 = .ok (.goto 4, 3) := by decide +kernel
theorem x_46_83 : decode (q_code 46) 83 = .ok (.iconst 0, 1) := by decide +kernel
theorem x_46_84 : decode (q_code 46) 84 = .ok (.ireturn, 1) := by decide +kernel
theorem x_46_85 : decode (q_code 46) 85 = .ok (.aload_n 0, 1) := by decide +kernel
theorem x_46_86 : decode (q_code 46) 86 = .ok (.iconst 2, 1) := by decide +kernel
theorem x_46_87 : decode (q_code 46) 87 = .ok (.iload_n 1, 1) := by decide +kernel
theorem x_46_88 : decode (q_code 46) 88 = .ok (.invokevirtual 115, 3) := by decide +kernel
theorem x_46_91 : decode (q_code 46) 91 = .ok (.ireturn, 1) := by decide +kernel
theorem x_47_0 : decode (q_code 47) 0 = .ok (.aload_n 0, 1) := by decide +kernel
theorem x_47_1 : decode (q_code 47) 1 = .ok (.getfield 21, 3) := by decide +kernel
theorem x_47_4 : decode (q_code 47) 4 = .ok (.iload_n 1, 1) := by decide +kernel
theorem x_47_5 : decode (q_code 47) 5 = .ok (.invokestatic 79, 3) := by decide +kernel
theorem x_47_8 : decode (q_code 47) 8 = .ok (.ifCond .ne 10, 3) := by decide +kernel
theorem x_47_11 : decode (q_code 47) 11 = .ok (.aload_n 0, 1) := by decide +kernel
theorem x_47_12 : decode (q_code 47) 12 = .ok (.iconst 1, 1) := by decide +kernel
theorem x_47_13 : decode (q_code 47) 13 = .ok (.iload_n 1, 1) := by decide +kernel
theorem x_47_14 : decode (q_code 47) 14 = .ok (.invokevirtual 96, 3) := by decide +kernel
theorem x_47_17 : decode (q_code 47) 17 = .ok (.ireturn, 1) := by decide +kernel
theorem x_47_18 : decode (q_code 47) 18 = .ok (.aload_n 0, 1) := by decide +kernel
theorem x_47_19 : decode (q_code 47) 19 = .ok (.getfield 21, 3) := by decide +kernel
theorem x_47_22 : decode (q_code 47) 22 = .ok (.iload_n 1, 1) := by decide +kernel
theorem x_47_23 : decode (q_code 47) 23 = .ok (.invokestatic 73, 3) := by decide +kernel
theorem x_47_26 : decode (q_code 47) 26 = .ok (.istore_n 3, 1) := by decide +kernel
theorem x_47_27 : decode (q_code 47) 27 = .ok (.aload_n 0, 1) := by decide +kernel
theorem x_47_28 : decode (q_code 47) 28 = .ok (.getfield 21, 3) := by decide +kernel
theorem x_47_31 : decode (q_code 47) 31 = .ok (.iload_n 1, 1) := by decide +kernel
theorem x_47_32 : decode (q_code 47) 32 = .ok (.invokestatic 69, 3) := by decide +kernel
theorem x_47_35 : decode (q_code 47) 35 = .ok (.iconst 4, 1) := by decide +kernel
theorem x_47_36 : decode (q_code 47) 36 = .ok (.if_icmp .ne 14, 3) := by decide +kernel
theorem x_47_39 : decode (q_code 47) 39 = .ok (.aload_n 0, 1) := by decide +kernel
theorem x_47_40 : decode (q_code 47) 40 = .ok (.getfield 21, 3) := by decide +kernel
theorem x_47_43 : decode (q_code 47) 43 = .ok (.iload_n 3, 1) := by decide +kernel
theorem x_47_44 : decode (q_code 47) 44 = .ok (.invokestatic 69, 3) := by decide +kernel
theorem x_47_47 : decode (q_code 47) 47 = .ok (.ifCond .ne 10, 3) := by decide +kernel
theorem x_47_50 : decode (q_code 47) 50 = .ok (.aload_n 0, 1) := by decide +kernel
theorem x_47_51 : decode (q_code 47) 51 = .ok (.iconst 2, 1) := by decide +kernel
theorem x_47_52 : decode (q_code 47) 52 = .ok (.iload_n 1, 1) := by decide +kernel
theorem x_47_53 : decode (q_code 47) 53 = .ok (.invokevirtual 96, 3) := by decide +kernel
theorem x_47_56 : decode (q_code 47) 56 = .ok (.ireturn, 1) := by decide +kernel
theorem x_47_57 : decode (q_code 47) 57 = .ok (.aload_n 0, 1) := by decide +kernel
theorem x_47_58 : decode (q_code 47) 58 = .ok (.iconst 1, 1) := by decide +kernel
theorem x_47_59 : decode (q_code 47) 59 = .ok (.iload_n 1, 1) := by decide +kernel
theorem x_47_60 : decode (q_code 47) 60 = .ok (.invokevirtual 115, 3) := by decide +kernel
theorem x_47_63 : decode (q_code 47) 63 = .ok (.ifCond .ne 5, 3) := by decide +kernel
theorem x_47_66 : decode (q_code 47) 66 = .ok (.iconst 0, 1) := by decide +kernel
theorem x_47_67 : decode (q_code 47) 67 = .ok (.ireturn, 1) := by decide +kernel
theorem x_47_68 : decode (q_code 47) 68 = .ok (.iconst 0, 1) := by decide +kernel
theorem x_47_69 : decode (q_code 47) 69 = .ok (.istore 4, 2) := by decide +kernel
theorem x_47_71 : decode (q_code 47) 71 = .ok (.iload 4, 2) := by decide +kernel
theorem x_47_73 : decode (q_code 47) 73 = .ok (.sipush 2000, 3) := by decide +kernel
theorem x_47_76 : decode (q_code 47) 76 = .ok (.if_icmp .ge 61, 3) := by decide +kernel
theorem x_47_79 : decode (q_code 47) 79 = .ok (.aload_n 0, 1) := by decide +kernel
theorem x_47_80 : decode (q_code 47) 80 = .ok (.getfield 21, 3) := by decide +kernel
theorem x_47_83 : decode (q_code 47) 83 = .ok (.iload_n 3, 1) := by decide +kernel
theorem x_47_84 : decode (q_code 47) 84 = .ok (.invokestatic 69, 3) := by decide +kernel
theorem x_47_87 : decode (q_code 47) 87 = .ok (.ifCond .eq 50, 3) := by decide +kernel
theorem x_47_90 : decode (q_code 47) 90 = .ok (.aload_n 0, 1) := by decide +kernel
theorem x_47_91 : decode (q_code 47) 91 = .ok (.getfield 21, 3) := by decide +kernel
theorem x_47_94 : decode (q_code 47) 94 = .ok (.iload_n 3, 1) := by decide +kernel
theorem x_47_95 : decode (q_code 47) 95 = .ok (.invokestatic 69, 3) := by decide +kernel
theorem x_47_98 : decode (q_code 47) 98 = .ok (.iconst 3, 1) := by decide +kernel
theorem x_47_99 : decode (q_code 47) 99 = .ok (.if_icmp .eq 10, 3) := by decide +kernel
theorem x_47_102 : decode (q_code 47) 102 = .ok (.aload_n 0, 1) := by decide +kernel
theorem x_47_103 : decode (q_code 47) 103 = .ok (.iconst 2, 1) := by decide +kernel
theorem x_47_104 : decode (q_code 47) 104 = .ok (.iload_n 3, 1) := by decide +kernel
theorem x_47_105 : decode (q_code 47) 105 = .ok (.invokevirtual 96, 3) := by decide +kernel
theorem x_47_108 : decode (q_code 47) 108 = .ok (.ireturn, 1) := by decide +kernel
theorem x_47_109 : decode (q_code 47) 109 = .ok (.aload_n 0, 1) := by decide +kernel
theorem x_47_110 : decode (q_code 47) 110 = .ok (.iload_n 3, 1) := by decide +kernel
theorem x_47_111 : decode (q_code 47) 111 = .ok (.iload_n 2, 1) := by decide +kernel
theorem x_47_112 : decode (q_code 47) 112 = .ok (.iconst 1, 1) := by decide +kernel
theorem x_47_113 : decode (q_code 47) 113 = .ok (.iadd, 1) := by decide +kernel
theorem x_47_114 : decode (q_code 47) 114 = .ok (.invokevirtual 89, 3) := by decide +kernel
theorem x_47_117 : decode (q_code 47) 117 = .ok (.ifCond .ne 5, 3) := by decide +kernel
theorem x_47_120 : decode (q_code 47) 120 = .ok (.iconst 0, 1) := by decide +kernel
theorem x_47_121 : decode (q_code 47) 121 = .ok (.ireturn, 1) := by decide +kernel
theorem x_47_122 : decode (q_code 47) 122 = .ok (.aload_n 0, 1) := by decide +kernel
theorem x_47_123 : decode (q_code 47) 123 = .ok (.getfield 21, 3) := by decide +kernel
theorem x_47_126 : decode (q_code 47) 126 = .ok (.iload_n 3, 1) := by decide +kernel
theorem x_47_127 : decode (q_code 47) 127 = .ok (.invokestatic 102, 3) := by decide +kernel
theorem x_47_130 : decode (q_code 47) 130 = .ok (.istore_n 3, 1) := by decide +kernel
theorem x_47_131 : decode (q_code 47) 131 = .ok (.iinc 4 1, 3) := by decide +kernel
theorem x_47_134 : decode (q_code 47) 134 = .ok (.goto (-63), 3) := by decide +kernel
theorem x_47_137 : decode (q_code 47) 137 = .ok (.iconst 1, 1) := by decide +kernel
theorem x_47_138 : decode (q_code 47) 138 = .ok (.ireturn, 1) := by decide +kernel
theorem x_48_0 : decode (q_code 48) 0 = .ok (.aload_n 0, 1) := by decide +kernel
theorem x_48_1 : decode (q_code 48) 1 = .ok (.getfield 21, 3) := by decide +kernel
theorem x_48_4 : decode (q_code 48) 4 = .ok (.iload_n 1, 1) := by decide +kernel
theorem x_48_5 : decode (q_code 48) 5 = .ok (.invokestatic 73, 3) := by decide +kernel
theorem x_48_8 : decode (q_code 48) 8 = .ok (.istore_n 3, 1) := by decide +kernel
theorem x_48_9 : decode (q_code 48) 9 = .ok (.iconst 0, 1) := by decide +kernel
theorem x_48_10 : decode (q_code 48) 10 = .ok (.istore 4, 2) := by decide +kernel
theorem x_48_12 : decode (q_code 48) 12 = .ok (.iload 4, 2) := by decide +kernel
theorem x_48_14 : decode (q_code 48) 14 = .ok (.sipush 2000, 3) := by decide +kernel
theorem x_48_17 : decode (q_code 48) 17 = .ok (.if_icmp .ge 48, 3) := by decide +kernel
theorem x_48_20 : decode (q_code 48) 20 = .ok (.aload_n 0, 1) := by decide +kernel
theorem x_48_21 : decode (q_code 48) 21 = .ok (.getfield 21, 3) := by decide +kernel
theorem x_48_24 : decode (q_code 48) 24 = .ok (.iload_n 3, 1) := by decide +kernel
theorem x_48_25 : decode (q_code 48) 25 = .ok (.invokestatic 69, 3) := by decide +kernel
theorem x_48_28 : decode (q_code 48) 28 = .ok (.ifCond .eq 37, 3) := by decide +kernel
theorem x_48_31 : decode (q_code 48) 31 = .ok (.iload_n 2, 1) := by decide +kernel
theorem x_48_32 : decode (q_code 48) 32 = .ok (.bipush 60, 2) := by decide +kernel
theorem x_48_34 : decode (q_code 48) 34 = .ok (.if_icmp .gt 14, 3) := by decide +kernel
theorem x_48_37 : decode (q_code 48) 37 = .ok (.aload_n 0, 1) := by decide +kernel
theorem x_48_38 : decode (q_code 48) 38 = .ok (.iload_n 3, 1) := by decide +kernel
theorem x_48_39 : decode (q_code 48) 39 = .ok (.iload_n 2, 1) := by decide +kernel
theorem x_48_40 : decode (q_code 48) 40 = .ok (.iconst 1, 1) := by decide +kernel
theorem x_48_41 : decode (q_code 48) 41 = .ok (.iadd, 1) := by decide +kernel
theorem x_48_42 : decode (q_code 48) 42 = .ok (.invokevirtual 121, 3) := by decide +kernel
theorem x_48_45 : decode (q_code 48) 45 = .ok (.ifCond .ne 5, 3) := by decide +kernel
theorem x_48_48 : decode (q_code 48) 48 = .ok (.iconst 0, 1) := by decide +kernel
theorem x_48_49 : decode (q_code 48) 49 = .ok (.ireturn, 1) := by decide +kernel
theorem x_48_50 : decode (q_code 48) 50 = .ok (.aload_n 0, 1) := by decide +kernel
theorem x_48_51 : decode (q_code 48) 51 = .ok (.getfield 21, 3) := by decide +kernel
theorem x_48_54 : decode (q_code 48) 54 = .ok (.iload_n 3, 1) := by decide +kernel
theorem x_48_55 : decode (q_code 48) 55 = .ok (.invokestatic 102, 3) := by decide +kernel
theorem x_48_58 : decode (q_code 48) 58 = .ok (.istore_n 3, 1) := by decide +kernel
theorem x_48_59 : decode (q_code 48) 59 = .ok (.iinc 4 1, 3) := by decide +kernel
theorem x_48_62 : decode (q_code 48) 62 = .ok (.goto (-50), 3) := by decide +kernel
theorem x_48_65 : decode (q_code 48) 65 = .ok (.iconst 1, 1) := by decide +kernel
theorem x_48_66 : decode (q_code 48) 66 = .ok (.ireturn, 1) := by decide +kernel
theorem x_49_0 : decode (q_code 49) 0 = .ok (.aload_n 0, 1) := by decide +kernel
theorem x_49_1 : decode (q_code 49) 1 = .ok (.getfield 21, 3) := by decide +kernel
theorem x_49_4 : decode (q_code 49) 4 = .ok (.iload_n 1, 1) := by decide +kernel
theorem x_49_5 : decode (q_code 49) 5 = .ok (.invokestatic 124, 3) := by decide +kernel
theorem x_49_8 : decode (q_code 49) 8 = .ok (.istore_n 3, 1) := by decide +kernel
theorem x_49_9 : decode (q_code 49) 9 = .ok (.iload_n 3, 1) := by decide +kernel
theorem x_49_10 : decode (q_code 49) 10 = .ok (.ifCond .ne 10, 3) := by decide +kernel
theorem x_49_13 : decode (q_code 49) 13 = .ok (.aload_n 0, 1) := by decide +kernel
theorem x_49_14 : decode (q_code 49) 14 = .ok (.iconst 1, 1) := by decide +kernel
theorem x_49_15 : decode (q_code 49) 15 = .ok (.iload_n 1, 1) := by decide +kernel
theorem x_49_16 : decode (q_code 49) 16 = .ok (.invokevirtual 96, 3) := by decide +kernel
theorem x_49_19 : decode (q_code 49) 19 = .ok (.ireturn, 1) := by decide +kernel
theorem x_49_20 : decode (q_code 49) 20 = .ok (.aload_n 0, 1) := by decide +kernel
theorem x_49_21 : decode (q_code 49) 21 = .ok (.iload_n 3, 1) := by decide +kernel
theorem x_49_22 : decode (q_code 49) 22 = .ok (.iload_n 1, 1) := by decide +kernel
theorem x_49_23 : decode (q_code 49) 23 = .ok (.invokevirtual 127, 3) := by decide +kernel
theorem x_49_26 : decode (q_code 49) 26 = .ok (.ifCond .ne 10, 3) := by decide +kernel
theorem x_49_29 : decode (q_code 49) 29 = .ok (.aload_n 0, 1) := by decide +kernel
theorem x_49_30 : decode (q_code 49) 30 = .ok (.iconst 4, 1) := by decide +kernel
theorem x_49_31 : decode (q_code 49) 31 = .ok (.iload_n 1, 1) := by decide +kernel
theorem x_49_32 : decode (q_code 49) 32 = .ok (.invokevirtual 96, 3) := by decide +kernel
theorem x_49_35 : decode (q_code 49) 35 = .ok (.ireturn, 1) := by decide +kernel
theorem x_49_36 : decode (q_code 49) 36 = .ok (.aload_n 0, 1) := by decide +kernel
theorem x_49_37 : decode (q_code 49) 37 = .ok (.iconst 1, 1) := by decide +kernel
theorem x_49_38 : decode (q_code 49) 38 = .ok (.iload_n 1, 1) := by decide +kernel
theorem x_49_39 : decode (q_code 49) 39 = .ok (.invokevirtual 115, 3) := by decide +kernel
theorem x_49_42 : decode (q_code 49) 42 = .ok (.ifCond .ne 5, 3) := by decide +kernel
theorem x_49_45 : decode (q_code 49) 45 = .ok (.iconst 0, 1) := by decide +kernel
theorem x_49_46 : decode (q_code 49) 46 = .ok (.ireturn, 1) := by decide +kernel
theorem x_49_47 : decode (q_code 49) 47 = .ok (.iload_n 3, 1) := by decide +kernel
theorem x_49_48 : decode (q_code 49) 48 = .ok (.bipush 12, 2) := by decide +kernel
theorem x_49_50 : decode (q_code 49) 50 = .ok (.if_icmp .eq 20, 3) := by decide +kernel
theorem x_49_53 : decode (q_code 49) 53 = .ok (.iload_n 3, 1) := by decide +kernel
theorem x_49_54 : decode (q_code 49) 54 = .ok (.bipush 11, 2) := by decide +kernel
theorem x_49_56 : decode (q_code 49) 56 = .ok (.if_icmp .ne 21, 3) := by decide +kernel
theorem x_49_59 : decode (q_code 49) 59 = .ok (.aload_n 0, 1) := by decide +kernel
theorem x_49_60 : decode (q_code 49) 60 = .ok (.getfield 21, 3) := by decide +kernel
theorem x_49_63 : decode (q_code 49) 63 = .ok (.iload_n 1, 1) := by decide +kernel
theorem x_49_64 : decode (q_code 49) 64 = .ok (.invokestatic 130, 3) := by decide +kernel
theorem x_49_67 : decode (q_code 49) 67 = .ok (.ifCond .eq 10, 3) := by decide +kernel
theorem x_49_70 : decode (q_code 49) 70 = .ok (.aload_n 0, 1) := by decide +kernel
theorem x_49_71 : decode (q_code 49) 71 = .ok (.iload_n 1, 1) := by decide +kernel
theorem x_49_72 : decode (q_code 49) 72 = .ok (.iload_n 2, 1) := by decide +kernel
theorem x_49_73 : decode (q_code 49) 73 = .ok (.invokevirtual 118, 3) := by decide +kernel
theorem x_49_76 : decode (q_code 49) 76 = .ok (.ireturn, 1) := by decide +kernel
theorem x_49_77 : decode (q_code 49) 77 = .ok (.iload_n 3, 1) := by decide +kernel
theorem x_49_78 : decode (q_code 49) 78 = .ok (.bipush 11, 2) := by decide +kernel
theorem x_49_80 : decode (q_code 49) 80 = .ok (.if_icmp .ne 12, 3) := by decide +kernel
theorem x_49_83 : decode (q_code 49) 83 = .ok (.aload_n 0, 1) := by decide +kernel
theorem x_49_84 : decode (q_code 49) 84 = .ok (.iload_n 1, 1) := by decide +kernel
theorem x_49_85 : decode (q_code 49) 85 = .ok (.iload_n 2, 1) := by decide +kernel
theorem x_49_86 : decode (q_code 49) 86 = .ok (.invokevirtual 89, 3) := by decide +kernel
theorem x_49_89 : decode (q_code 49) 89 = .ok (.ifCond .eq 7, 3) := by decide +kernel
theorem x_49_92 : decode (q_code 49) 92 = .ok (.iconst 1, 1) := by decide +kernel
theorem x_49_93 : decode (q_code 49) 93 = .ok (.goto 4, 3) := by decide +kernel
theorem x_49_96 : decode (q_code 49) 96 = .ok (.iconst 0, 1) := by decide +kernel
theorem x_49_97 : decode (q_code 49) 97 = .ok (.ireturn, 1) := by decide +kernel
theorem x_50_0 : decode (q_code 50) 0 = .ok (.aload_n 0, 1) := by decide +kernel
theorem x_50_1 : decode (q_code 50) 1 = .ok (.getfield 21, 3) := by decide +kernel
theorem x_50_4 : decode (q_code 50) 4 = .ok (.iload_n 2, 1) := by decide +kernel
theorem x_50_5 : decode (q_code 50) 5 = .ok (.invokestatic 69, 3) := by decide +kernel
theorem x_50_8 : decode (q_code 50) 8 = .ok (.istore_n 3, 1) := by decide +kernel
theorem x_50_9 : decode (q_code 50) 9 = .ok (.iload_n 1, 1) := by decide +kernel
theorem x_50_10 : decode (q_code 50) 10 = .ok (.tableswitch 127 3 12 #[54, 54, 127, 127, 127, 127, 65, 77, 107, 118], 54) := by decide +kernel
theorem x_50_64 : decode (q_code 50) 64 = .ok (.iload_n 3, 1) := by decide +kernel
theorem x_50_65 : decode (q_code 50) 65 = .ok (.iconst 4, 1) := by decide +kernel
theorem x_50_66 : decode (q_code 50) 66 = .ok (.if_icmp .ne 7, 3) := by decide +kernel
theorem x_50_69 : decode (q_code 50) 69 = .ok (.iconst 1, 1) := by decide +kernel
theorem x_50_70 : decode (q_code 50) 70 = .ok (.goto 4, 3) := by decide +kernel
theorem x_50_73 : decode (q_code 50) 73 = .ok (.iconst 0, 1) := by decide +kernel
theorem x_50_74 : decode (q_code 50) 74 = .ok (.ireturn, 1) := by decide +kernel
theorem x_50_75 : decode (q_code 50) 75 = .ok (.iload_n 3, 1) := by decide +kernel
theorem x_50_76 : decode (q_code 50) 76 = .ok (.bipush 8, 2) := by decide +kernel
theorem x_50_78 : decode (q_code 50) 78 = .ok (.if_icmp .ne 7, 3) := by decide +kernel
theorem x_50_81 : decode (q_code 50) 81 = .ok (.iconst 1, 1) := by decide +kernel
theorem x_50_82 : decode (q_code 50) 82 = .ok (.goto 4, 3) := by decide +kernel
theorem x_50_85 : decode (q_code 50) 85 = .ok (.iconst 0, 1) := by decide +kernel
theorem x_50_86 : decode (q_code 50) 86 = .ok (.ireturn, 1) := by decide +kernel
theorem x_50_87 : decode (q_code 50) 87 = .ok (.aload_n 0, 1) := by decide +kernel
theorem x_50_88 : decode (q_code 50) 88 = .ok (.getfield 21, 3) := by decide +kernel
theorem x_50_91 : decode (q_code 50) 91 = .ok (.iload_n 2, 1) := by decide +kernel
theorem x_50_92 : decode (q_code 50) 92 = .ok (.invokestatic 133, 3) := by decide +kernel
theorem x_50_95 : decode (q_code 50) 95 = .ok (.ifCond .eq 20, 3) := by decide +kernel
theorem x_50_98 : decode (q_code 50) 98 = .ok (.aload_n 0, 1) := by decide +kernel
theorem x_50_99 : decode (q_code 50) 99 = .ok (.getfield 21, 3) := by decide +kernel
theorem x_50_102 : decode (q_code 50) 102 = .ok (.iload_n 2, 1) := by decide +kernel
theorem x_50_103 : decode (q_code 50) 103 = .ok (.invokestatic 136, 3) := by decide +kernel
theorem x_50_106 : decode (q_code 50) 106 = .ok (.lconst 0, 1) := by decide +kernel
theorem x_50_107 : decode (q_code 50) 107 = .ok (.lcmp, 1) := by decide +kernel
theorem x_50_108 : decode (q_code 50) 108 = .ok (.ifCond .lt 7, 3) := by decide +kernel
theorem x_50_111 : decode (q_code 50) 111 = .ok (.iconst 1, 1) := by decide +kernel
theorem x_50_112 : decode (q_code 50) 112 = .ok (.goto 4, 3) := by decide +kernel
theorem x_50_115 : decode (q_code 50) 115 = .ok (.iconst 0, 1) := by decide +kernel
theorem x_50_116 : decode (q_code 50) 116 = .ok (.ireturn, 1) := by decide +kernel
theorem x_50_117 : decode (q_code 50) 117 = .ok (.iload_n 3, 1) := by decide +kernel
theorem x_50_118 : decode (q_code 50) 118 = .ok (.iconst 3, 1) := by decide +kernel
theorem x_50_119 : decode (q_code 50) 119 = .ok (.if_icmp .ne 7, 3) := by decide +kernel
theorem x_50_122 : decode (q_code 50) 122 = .ok (.iconst 1, 1) := by decide +kernel
theorem x_50_123 : decode (q_code 50) 123 = .ok (.goto 4, 3) := by decide +kernel
theorem x_50_126 : decode (q_code 50) 126 = .ok (.iconst 0, 1) := by decide +kernel
theorem x_50_127 : decode (q_code 50) 127 = .ok (.ireturn, 1) := by decide +kernel
theorem x_50_128 : decode (q_code 50) 128 = .ok (.aload_n 0, 1) := by decide +kernel
theorem x_50_129 : decode (q_code 50) 129 = .ok (.getfield 21, 3) := by decide +kernel
theorem x_50_132 : decode (q_code 50) 132 = .ok (.iload_n 2, 1) := by decide +kernel
theorem x_50_133 : decode (q_code 50) 133 = .ok (.invokestatic 76, 3) := by decide +kernel
theorem x_50_136 : decode (q_code 50) 136 = .ok (.ireturn, 1) := by decide +kernel
theorem x_50_137 : decode (q_code 50) 137 = .ok (.iconst 1, 1) := by decide +kernel
theorem x_50_138 : decode (q_code 50) 138 = .ok (.ireturn, 1) := by decide +kernel
theorem x_51_0 : decode (q_code 51) 0 = .ok (.aload_n 0, 1) := by decide +kernel
theorem x_51_1 : decode (q_code 51) 1 = .ok (.getfield 21, 3) := by decide +kernel
theorem x_51_4 : decode (q_code 51) 4 = .ok (.iload_n 1, 1) := by decide +kernel
theorem x_51_5 : decode (q_code 51) 5 = .ok (.invokestatic 73, 3) := by decide +kernel
theorem x_51_8 : decode (q_code 51) 8 = .ok (.istore 4, 2) := by decide +kernel
theorem x_51_10 : decode (q_code 51) 10 = .ok (.iconst 0, 1) := by decide +kernel
theorem x_51_11 : decode (q_code 51) 11 = .ok (.istore 5, 2) := by decide +kernel
theorem x_51_13 : decode (q_code 51) 13 = .ok (.iload 5, 2) := by decide +kernel
theorem x_51_15 : decode (q_code 51) 15 = .ok (.sipush 2000, 3) := by decide +kernel
theorem x_51_18 : decode (q_code 51) 18 = .ok (.if_icmp .ge 53, 3) := by decide +kernel
theorem x_51_21 : decode (q_code 51) 21 = .ok (.aload_n 0, 1) := by decide +kernel
theorem x_51_22 : decode (q_code 51) 22 = .ok (.getfield 21, 3) := by decide +kernel
theorem x_51_25 : decode (q_code 51) 25 = .ok (.iload 4, 2) := by decide +kernel
theorem x_51_27 : decode (q_code 51) 27 = .ok (.invokestatic 69, 3) := by decide +kernel
theorem x_51_30 : decode (q_code 51) 30 = .ok (.ifCond .eq 41, 3) := by decide +kernel
theorem x_51_33 : decode (q_code 51) 33 = .ok (.iload_n 3, 1) := by decide +kernel
theorem x_51_34 : decode (q_code 51) 34 = .ok (.bipush 60, 2) := by decide +kernel
theorem x_51_36 : decode (q_code 51) 36 = .ok (.if_icmp .gt 16, 3) := by decide +kernel
theorem x_51_39 : decode (q_code 51) 39 = .ok (.aload_n 0, 1) := by decide +kernel
theorem x_51_40 : decode (q_code 51) 40 = .ok (.iload 4, 2) := by decide +kernel
theorem x_51_42 : decode (q_code 51) 42 = .ok (.iload_n 2, 1) := by decide +kernel
theorem x_51_43 : decode (q_code 51) 43 = .ok (.iload_n 3, 1) := by decide +kernel
theorem x_51_44 : decode (q_code 51) 44 = .ok (.iconst 1, 1) := by decide +kernel
theorem x_51_45 : decode (q_code 51) 45 = .ok (.iadd, 1) := by decide +kernel
theorem x_51_46 : decode (q_code 51) 46 = .ok (.invokevirtual 140, 3) := by decide +kernel
theorem x_51_49 : decode (q_code 51) 49 = .ok (.ifCond .ne 5, 3) := by decide +kernel
theorem x_51_52 : decode (q_code 51) 52 = .ok (.iconst 0, 1) := by decide +kernel
theorem x_51_53 : decode (q_code 51) 53 = .ok (.ireturn, 1) := by decide +kernel
theorem x_51_54 : decode (q_code 51) 54 = .ok (.aload_n 0, 1) := by decide +kernel
theorem x_51_55 : decode (q_code 51) 55 = .ok (.getfield 21, 3) := by decide +kernel
theorem x_51_58 : decode (q_code 51) 58 = .ok (.iload 4, 2) := by decide +kernel
theorem x_51_60 : decode (q_code 51) 60 = .ok (.invokestatic 102, 3) := by decide +kernel
theorem x_51_63 : decode (q_code 51) 63 = .ok (.istore 4, 2) := by decide +kernel
theorem x_51_65 : decode (q_code 51) 65 = .ok (.iinc 5 1, 3) := by decide +kernel
theorem x_51_68 : decode (q_code 51) 68 = .ok (.goto (-55), 3) := by decide +kernel
theorem x_51_71 : decode (q_code 51) 71 = .ok (.iconst 1, 1) := by decide +kernel
theorem x_51_72 : decode (q_code 51) 72 = .ok (.ireturn, 1) := by decide +kernel
theorem x_52_0 : decode (q_code 52) 0 = .ok (.aload_n 0, 1) := by decide +kernel
theorem x_52_1 : decode (q_code 52) 1 = .ok (.getfield 21, 3) := by decide +kernel
theorem x_52_4 : decode (q_code 52) 4 = .ok (.iload_n 1, 1) := by decide +kernel
theorem x_52_5 : decode (q_code 52) 5 = .ok (.invokestatic 31, 3) := by decide +kernel
theorem x_52_8 : decode (q_code 52) 8 = .ok (.ifCond .eq 11, 3) := by decide +kernel
theorem x_52_11 : decode (q_code 52) 11 = .ok (.aload_n 0, 1) := by decide +kernel
theorem x_52_12 : decode (q_code 52) 12 = .ok (.iload_n 1, 1) := by decide +kernel
theorem x_52_13 : decode (q_code 52) 13 = .ok (.iload_n 2, 1) := by decide +kernel
theorem x_52_14 : decode (q_code 52) 14 = .ok (.iload_n 3, 1) := by decide +kernel
theorem x_52_15 : decode (q_code 52) 15 = .ok (.invokevirtual 144, 3) := by decide +kernel
theorem x_52_18 : decode (q_code 52) 18 = .ok (.ireturn, 1) := by decide +kernel
theorem x_52_19 : decode (q_code 52) 19 = .ok (.aload_n 0, 1) := by decide +kernel
theorem x_52_20 : decode (q_code 52) 20 = .ok (.getfield 9, 3) := by decide +kernel
theorem x_52_23 : decode (q_code 52) 23 = .ok (.getfield 147, 3) := by decide +kernel
theorem x_52_26 : decode (q_code 52) 26 = .ok (.istore 4, 2) := by decide +kernel
theorem x_52_28 : decode (q_code 52) 28 = .ok (.aload_n 0, 1) := by decide +kernel
theorem x_52_29 : decode (q_code 52) 29 = .ok (.getfield 27, 3) := by decide +kernel
theorem x_52_32 : decode (q_code 52) 32 = .ok (.aload_n 0, 1) := by decide +kernel
theorem x_52_33 : decode (q_code 52) 33 = .ok (.getfield 21, 3) := by decide +kernel
theorem x_52_36 : decode (q_code 52) 36 = .ok (.iload_n 1, 1) := by decide +kernel
theorem x_52_37 : decode (q_code 52) 37 = .ok (.invokevirtual 108, 3) := by decide +kernel
theorem x_52_40 : decode (q_code 52) 40 = .ok (.pop, 1) := by decide +kernel
theorem x_52_41 : decode (q_code 52) 41 = .ok (.aload_n 0, 1) := by decide +kernel
theorem x_52_42 : decode (q_code 52) 42 = .ok (.getfield 27, 3) := by decide +kernel
theorem x_52_45 : decode (q_code 52) 45 = .ok (.aload_n 0, 1) := by decide +kernel
theorem x_52_46 : decode (q_code 52) 46 = .ok (.getfield 9, 3) := by decide +kernel
theorem x_52_49 : decode (q_code 52) 49 = .ok (.iload_n 2, 1) := by decide +kernel
theorem x_52_50 : decode (q_code 52) 50 = .ok (.iconst 0, 1) := by decide +kernel
theorem x_52_51 : decode (q_code 52) 51 = .ok (.iconst 0, 1) := by decide +kernel
theorem x_52_52 : decode (q_code 52) 52 = .ok (.invokevirtual 150, 3) := by decide +kernel
theorem x_52_55 : decode (q_code 52) 55 = .ok (.aload_n 0, 1) := by decide +kernel
theorem x_52_56 : decode (q_code 52) 56 = .ok (.getfield 9, 3) := by decide +kernel
theorem x_52_59 : decode (q_code 52) 59 = .ok (.getfield 147, 3) := by decide +kernel
theorem x_52_62 : decode (q_code 52) 62 = .ok (.iload 4, 2) := by decide +kernel
theorem x_52_64 : decode (q_code 52) 64 = .ok (.if_icmp .ne 11, 3) := by decide +kernel
theorem x_52_67 : decode (q_code 52) 67 = .ok (.aload_n 0, 1) := by decide +kernel
theorem x_52_68 : decode (q_code 52) 68 = .ok (.getfield 9, 3) := by decide +kernel
theorem x_52_71 : decode (q_code 52) 71 = .ok (.iconst (-1), 1) := by decide +kernel
theorem x_52_72 : decode (q_code 52) 72 = .ok (.invokevirtual 154, 3) := by decide +kernel
theorem x_52_75 : decode (q_code 52) 75 = .ok (.aload_n 0, 1) := by decide +kernel
theorem x_52_76 : decode (q_code 52) 76 = .ok (.getfield 21, 3) := by decide +kernel
theorem x_52_79 : decode (q_code 52) 79 = .ok (.iload_n 1, 1) := by decide +kernel
theorem x_52_80 : decode (q_code 52) 80 = .ok (.invokestatic 76, 3) := by decide +kernel
theorem x_52_83 : decode (q_code 52) 83 = .ok (.ifCond .eq 21, 3) := by decide +kernel
theorem x_52_86 : decode (q_code 52) 86 = .ok (.aload_n 0, 1) := by decide +kernel
theorem x_52_87 : decode (q_code 52) 87 = .ok (.iload_n 1, 1) := by decide +kernel
theorem x_52_88 : decode (q_code 52) 88 = .ok (.iload 4, 2) := by decide +kernel
theorem x_52_90 : decode (q_code 52) 90 = .ok (.aload_n 0, 1) := by decide +kernel
theorem x_52_91 : decode (q_code 52) 91 = .ok (.getfield 9, 3) := by decide +kernel
theorem x_52_94 : decode (q_code 52) 94 = .ok (.getfield 147, 3) := by decide +kernel
theorem x_52_97 : decode (q_code 52) 97 = .ok (.iload_n 3, 1) := by decide +kernel
theorem x_52_98 : decode (q_code 52) 98 = .ok (.invokevirtual 158, 3) := by decide +kernel
theorem x_52_101 : decode (q_code 52) 101 = .ok (.goto 17, 3) := by decide +kernel
theorem x_52_104 : decode (q_code 52) 104 = .ok (.aload_n 0, 1) := by decide +kernel
theorem x_52_105 : decode (q_code 52) 105 = .ok (.iload_n 1, 1) := by decide +kernel
theorem x_52_106 : decode (q_code 52) 106 = .ok (.iload 4, 2) := by decide +kernel
theorem x_52_108 : decode (q_code 52) 108 = .ok (.aload_n 0, 1) := by decide +kernel
theorem x_52_109 : decode (q_code 52) 109 = .ok (.getfield 9, 3) := by decide +kernel
theorem x_52_112 : decode (q_code 52) 112 = .ok (.getfield 147, 3) := by decide +kernel
theorem x_52_115 : decode (q_code 52) 115 = .ok (.invokevirtual 162, 3) := by decide +kernel
theorem x_52_118 : decode (q_code 52) 118 = .ok (.istore 5, 2) := by decide +kernel
theorem x_52_120 : decode (q_code 52) 120 = .ok (.aload_n 0, 1) := by decide +kernel
theorem x_52_121 : decode (q_code 52) 121 = .ok (.getfield 9, 3) := by decide +kernel
theorem x_52_124 : decode (q_code 52) 124 = .ok (.iload 4, 2) := by decide +kernel
theorem x_52_126 : decode (q_code 52) 126 = .ok (.putfield 147, 3) := by decide +kernel
theorem x_52_129 : decode (q_code 52) 129 = .ok (.iload 5, 2) := by decide +kernel
theorem x_52_131 : decode (q_code 52) 131 = .ok (.ireturn, 1) := by decide +kernel
theorem x_53_0 : decode (q_code 53) 0 = .ok (.aload_n 0, 1) := by decide +kernel
theorem x_53_1 : decode (q_code 53) 1 = .ok (.getfield 21, 3) := by decide +kernel
theorem x_53_4 : decode (q_code 53) 4 = .ok (.iload_n 1, 1) := by decide +kernel
theorem x_53_5 : decode (q_code 53) 5 = .ok (.ldc 63, 2) := by decide +kernel
theorem x_53_7 : decode (q_code 53) 7 = .ok (.invokestatic 37, 3) := by decide +kernel
theorem x_53_10 : decode (q_code 53) 10 = .ok (.istore 4, 2) := by decide +kernel
theorem x_53_12 : decode (q_code 53) 12 = .ok (.aload_n 0, 1) := by decide +kernel
theorem x_53_13 : decode (q_code 53) 13 = .ok (.getfield 21, 3) := by decide +kernel
theorem x_53_16 : decode (q_code 53) 16 = .ok (.iload_n 1, 1) := by decide +kernel
theorem x_53_17 : decode (q_code 53) 17 = .ok (.ldc 65, 2) := by decide +kernel
theorem x_53_19 : decode (q_code 53) 19 = .ok (.invokestatic 37, 3) := by decide +kernel
theorem x_53_22 : decode (q_code 53) 22 = .ok (.istore 5, 2) := by decide +kernel
theorem x_53_24 : decode (q_code 53) 24 = .ok (.aload_n 0, 1) := by decide +kernel
theorem x_53_25 : decode (q_code 53) 25 = .ok (.getfield 21, 3) := by decide +kernel
theorem x_53_28 : decode (q_code 53) 28 = .ok (.iload_n 1, 1) := by decide +kernel
theorem x_53_29 : decode (q_code 53) 29 = .ok (.invokestatic 73, 3) := by decide +kernel
theorem x_53_32 : decode (q_code 53) 32 = .ok (.istore 6, 2) := by decide +kernel
theorem x_53_34 : decode (q_code 53) 34 = .ok (.iconst 0, 1) := by decide +kernel
theorem x_53_35 : decode (q_code 53) 35 = .ok (.istore 7, 2) := by decide +kernel
theorem x_53_37 : decode (q_code 53) 37 = .ok (.iload 7, 2) := by decide +kernel
theorem x_53_39 : decode (q_code 53) 39 = .ok (.sipush 2000, 3) := by decide +kernel
theorem x_53_42 : decode (q_code 53) 42 = .ok (.if_icmp .ge 54, 3) := by decide +kernel
theorem x_53_45 : decode (q_code 53) 45 = .ok (.aload_n 0, 1) := by decide +kernel
theorem x_53_46 : decode (q_code 53) 46 = .ok (.getfield 21, 3) := by decide +kernel
theorem x_53_49 : decode (q_code 53) 49 = .ok (.iload 6, 2) := by decide +kernel
theorem x_53_51 : decode (q_code 53) 51 = .ok (.invokestatic 69, 3) := by decide +kernel
theorem x_53_54 : decode (q_code 53) 54 = .ok (.ifCond .eq 42, 3) := by decide +kernel
theorem x_53_57 : decode (q_code 53) 57 = .ok (.aload_n 0, 1) := by decide +kernel
theorem x_53_58 : decode (q_code 53) 58 = .ok (.iload 6, 2) := by decide +kernel
theorem x_53_60 : decode (q_code 53) 60 = .ok (.iload_n 2, 1) := by decide +kernel
theorem x_53_61 : decode (q_code 53) 61 = .ok (.iload_n 3, 1) := by decide +kernel
theorem x_53_62 : decode (q_code 53) 62 = .ok (.iconst 1, 1) := by decide +kernel
theorem x_53_63 : decode (q_code 53) 63 = .ok (.iadd, 1) := by decide +kernel
theorem x_53_64 : decode (q_code 53) 64 = .ok (.invokevirtual 165, 3) := by decide +kernel
theorem x_53_67 : decode (q_code 53) 67 = .ok (.istore 8, 2) := by decide +kernel
theorem x_53_69 : decode (q_code 53) 69 = .ok (.iload 8, 2) := by decide +kernel
theorem x_53_71 : decode (q_code 53) 71 = .ok (.iload 4, 2) := by decide +kernel
theorem x_53_73 : decode (q_code 53) 73 = .ok (.if_icmp .eq 6, 3) := by decide +kernel
theorem x_53_76 : decode (q_code 53) 76 = .ok (.iload 5, 2) := by decide +kernel
theorem x_53_78 : decode (q_code 53) 78 = .ok (.ireturn, 1) := by decide +kernel
theorem x_53_79 : decode (q_code 53) 79 = .ok (.aload_n 0, 1) := by decide +kernel
theorem x_53_80 : decode (q_code 53) 80 = .ok (.getfield 21, 3) := by decide +kernel
theorem x_53_83 : decode (q_code 53) 83 = .ok (.iload 6, 2) := by decide +kernel
theorem x_53_85 : decode (q_code 53) 85 = .ok (.invokestatic 102, 3) := by decide +kernel
theorem x_53_88 : decode (q_code 53) 88 = .ok (.istore 6, 2) := by decide +kernel
theorem x_53_90 : decode (q_code 53) 90 = .ok (.iinc 7 1, 3) := by decide +kernel
theorem x_53_93 : decode (q_code 53) 93 = .ok (.goto (-56), 3) := by decide +kernel
theorem x_53_96 : decode (q_code 53) 96 = .ok (.iload 5, 2) := by decide +kernel
theorem x_53_98 : decode (q_code 53) 98 = .ok (.ifCond .ne 7, 3) := by decide +kernel
theorem x_53_101 : decode (q_code 53) 101 = .ok (.iconst 1, 1) := by decide +kernel
theorem x_53_102 : decode (q_code 53) 102 = .ok (.goto 4, 3) := by decide +kernel
theorem x_53_105 : decode (q_code 53) 105 = .ok (.iconst 0, 1) := by decide +kernel
theorem x_53_106 : decode (q_code 53) 106 = .ok (.ireturn, 1) := by decide +kernel
theorem x_54_0 : decode (q_code 54) 0 = .ok (.aload_n 0, 1) := by decide +kernel
theorem x_54_1 : decode (q_code 54) 1 = .ok (.getfield 21, 3) := by decide +kernel
theorem x_54_4 : decode (q_code 54) 4 = .ok (.iload_n 1, 1) := by decide +kernel
theorem x_54_5 : decode (q_code 54) 5 = .ok (.invokestatic 73, 3) := by decide +kernel
theorem x_54_8 : decode (q_code 54) 8 = .ok (.istore 5, 2) := by decide +kernel
theorem x_54_10 : decode (q_code 54) 10 = .ok (.iconst 0, 1) := by decide +kernel
theorem x_54_11 : decode (q_code 54) 11 = .ok (.istore 6, 2) := by decide +kernel
theorem x_54_13 : decode (q_code 54) 13 = .ok (.iload 6, 2) := by decide +kernel
theorem x_54_15 : decode (q_code 54) 15 = .ok (.sipush 2000, 3) := by decide +kernel
theorem x_54_18 : decode (q_code 54) 18 = .ok (.if_icmp .ge 56, 3) := by decide +kernel
theorem x_54_21 : decode (q_code 54) 21 = .ok (.aload_n 0, 1) := by decide +kernel
theorem x_54_22 : decode (q_code 54) 22 = .ok (.getfield 21, 3) := by decide +kernel
theorem x_54_25 : decode (q_code 54) 25 = .ok (.iload 5, 2) := by decide +kernel
theorem x_54_27 : decode (q_code 54) 27 = .ok (.invokestatic 69, 3) := by decide +kernel
theorem x_54_30 : decode (q_code 54) 30 = .ok (.ifCond .eq 44, 3) := by decide +kernel
theorem x_54_33 : decode (q_code 54) 33 = .ok (.iload 4, 2) := by decide +kernel
theorem x_54_35 : decode (q_code 54) 35 = .ok (.bipush 60, 2) := by decide +kernel
theorem x_54_37 : decode (q_code 54) 37 = .ok (.if_icmp .gt 18, 3) := by decide +kernel
theorem x_54_40 : decode (q_code 54) 40 = .ok (.aload_n 0, 1) := by decide +kernel
theorem x_54_41 : decode (q_code 54) 41 = .ok (.iload 5, 2) := by decide +kernel
theorem x_54_43 : decode (q_code 54) 43 = .ok (.iload_n 2, 1) := by decide +kernel
theorem x_54_44 : decode (q_code 54) 44 = .ok (.iload_n 3, 1) := by decide +kernel
theorem x_54_45 : decode (q_code 54) 45 = .ok (.iload 4, 2) := by decide +kernel
theorem x_54_47 : decode (q_code 54) 47 = .ok (.iconst 1, 1) := by decide +kernel
theorem x_54_48 : decode (q_code 54) 48 = .ok (.iadd, 1) := by decide +kernel
theorem x_54_49 : decode (q_code 54) 49 = .ok (.invokevirtual 168, 3) := by decide +kernel
theorem x_54_52 : decode (q_code 54) 52 = .ok (.ifCond .ne 5, 3) := by decide +kernel
theorem x_54_55 : decode (q_code 54) 55 = .ok (.iconst 0, 1) := by decide +kernel
theorem x_54_56 : decode (q_code 54) 56 = .ok (.ireturn, 1) := by decide +kernel
theorem x_54_57 : decode (q_code 54) 57 = .ok (.aload_n 0, 1) := by decide +kernel
theorem x_54_58 : decode (q_code 54) 58 = .ok (.getfield 21, 3) := by decide +kernel
theorem x_54_61 : decode (q_code 54) 61 = .ok (.iload 5, 2) := by decide +kernel
theorem x_54_63 : decode (q_code 54) 63 = .ok (.invokestatic 102, 3) := by decide +kernel
theorem x_54_66 : decode (q_code 54) 66 = .ok (.istore 5, 2) := by decide +kernel
theorem x_54_68 : decode (q_code 54) 68 = .ok (.iinc 6 1, 3) := by decide +kernel
theorem x_54_71 : decode (q_code 54) 71 = .ok (.goto (-58), 3) := by decide +kernel
theorem x_54_74 : decode (q_code 54) 74 = .ok (.iconst 1, 1) := by decide +kernel
theorem x_54_75 : decode (q_code 54) 75 = .ok (.ireturn, 1) := by decide +kernel
theorem x_55_0 : decode (q_code 55) 0 = .ok (.aload_n 0, 1) := by decide +kernel
theorem x_55_1 : decode (q_code 55) 1 = .ok (.getfield 21, 3) := by decide +kernel
theorem x_55_4 : decode (q_code 55) 4 = .ok (.iload_n 1, 1) := by decide +kernel
theorem x_55_5 : decode (q_code 55) 5 = .ok (.invokestatic 124, 3) := by decide +kernel
theorem x_55_8 : decode (q_code 55) 8 = .ok (.istore 5, 2) := by decide +kernel
theorem x_55_10 : decode (q_code 55) 10 = .ok (.iload 5, 2) := by decide +kernel
theorem x_55_12 : decode (q_code 55) 12 = .ok (.tableswitch 179 1 12 #[64, 72, 88, 96, 179, 179, 179, 179, 112, 136, 151, 161], 64) := by decide +kernel
theorem x_55_76 : decode (q_code 55) 76 = .ok (.aload_n 0, 1) := by decide +kernel
theorem x_55_77 : decode (q_code 55) 77 = .ok (.iload_n 1, 1) := by decide +kernel
theorem x_55_78 : decode (q_code 55) 78 = .ok (.iload_n 2, 1) := by decide +kernel
theorem x_55_79 : decode (q_code 55) 79 = .ok (.iload_n 3, 1) := by decide +kernel
theorem x_55_80 : decode (q_code 55) 80 = .ok (.invokevirtual 162, 3) := by decide +kernel
theorem x_55_83 : decode (q_code 55) 83 = .ok (.ireturn, 1) := by decide +kernel
theorem x_55_84 : decode (q_code 55) 84 = .ok (.aload_n 0, 1) := by decide +kernel
theorem x_55_85 : decode (q_code 55) 85 = .ok (.iload_n 1, 1) := by decide +kernel
theorem x_55_86 : decode (q_code 55) 86 = .ok (.iload_n 2, 1) := by decide +kernel
theorem x_55_87 : decode (q_code 55) 87 = .ok (.iload_n 3, 1) := by decide +kernel
theorem x_55_88 : decode (q_code 55) 88 = .ok (.invokevirtual 162, 3) := by decide +kernel
theorem x_55_91 : decode (q_code 55) 91 = .ok (.ifCond .ne 7, 3) := by decide +kernel
theorem x_55_94 : decode (q_code 55) 94 = .ok (.iconst 1, 1) := by decide +kernel
theorem x_55_95 : decode (q_code 55) 95 = .ok (.goto 4, 3) := by decide +kernel
theorem x_55_98 : decode (q_code 55) 98 = .ok (.iconst 0, 1) := by decide +kernel
theorem x_55_99 : decode (q_code 55) 99 = .ok (.ireturn, 1) := by decide +kernel
theorem x_55_100 : decode (q_code 55) 100 = .ok (.aload_n 0, 1) := by decide +kernel
theorem x_55_101 : decode (q_code 55) 101 = .ok (.iload_n 1, 1) := by decide +kernel
theorem x_55_102 : decode (q_code 55) 102 = .ok (.iload_n 2, 1) := by decide +kernel
theorem x_55_103 : decode (q_code 55) 103 = .ok (.iload_n 3, 1) := by decide +kernel
theorem x_55_104 : decode (q_code 55) 104 = .ok (.invokevirtual 171, 3) := by decide +kernel
theorem x_55_107 : decode (q_code 55) 107 = .ok (.ireturn, 1) := by decide +kernel
theorem x_55_108 : decode (q_code 55) 108 = .ok (.aload_n 0, 1) := by decide +kernel
theorem x_55_109 : decode (q_code 55) 109 = .ok (.iload_n 1, 1) := by decide +kernel
theorem x_55_110 : decode (q_code 55) 110 = .ok (.iload_n 2, 1) := by decide +kernel
theorem x_55_111 : decode (q_code 55) 111 = .ok (.iload_n 3, 1) := by decide +kernel
theorem x_55_112 : decode (q_code 55) 112 = .ok (.invokevirtual 171, 3) := by decide +kernel
theorem x_55_115 : decode (q_code 55) 115 = .ok (.ifCond .ne 7, 3) := by decide +kernel
theorem x_55_118 : decode (q_code 55) 118 = .ok (.iconst 1, 1) := by decide +kernel
theorem x_55_119 : decode (q_code 55) 119 = .ok (.goto 4, 3) := by decide +kernel
theorem x_55_122 : decode (q_code 55) 122 = .ok (.iconst 0, 1) := by decide +kernel
theorem x_55_123 : decode (q_code 55) 123 = .ok (.ireturn, 1) := by decide +kernel
theorem x_55_124 : decode (q_code 55) 124 = .ok (.aload_n 0, 1) := by decide +kernel
theorem x_55_125 : decode (q_code 55) 125 = .ok (.iload_n 2, 1) := by decide +kernel
theorem x_55_126 : decode (q_code 55) 126 = .ok (.iload_n 3, 1) := by decide +kernel
theorem x_55_127 : decode (q_code 55) 127 = .ok (.invokevirtual 174, 3) := by decide +kernel
theorem x_55_130 : decode (q_code 55) 130 = .ok (.aload_n 0, 1) := by decide +kernel
theorem x_55_131 : decode (q_code 55) 131 = .ok (.getfield 21, 3) := by decide +kernel
theorem x_55_134 : decode (q_code 55) 134 = .ok (.iload_n 1, 1) := by decide +kernel
theorem x_55_135 : decode (q_code 55) 135 = .ok (.iconst 1, 1) := by decide +kernel
theorem x_55_136 : decode (q_code 55) 136 = .ok (.invokestatic 177, 3) := by decide +kernel
theorem x_55_139 : decode (q_code 55) 139 = .ok (.if_icmp .ne 7, 3) := by decide +kernel
theorem x_55_142 : decode (q_code 55) 142 = .ok (.iconst 1, 1) := by decide +kernel
theorem x_55_143 : decode (q_code 55) 143 = .ok (.goto 4, 3) := by decide +kernel
theorem x_55_146 : decode (q_code 55) 146 = .ok (.iconst 0, 1) := by decide +kernel
theorem x_55_147 : decode (q_code 55) 147 = .ok (.ireturn, 1) := by decide +kernel
theorem x_55_148 : decode (q_code 55) 148 = .ok (.aload_n 0, 1) := by decide +kernel
theorem x_55_149 : decode (q_code 55) 149 = .ok (.aload_n 0, 1) := by decide +kernel
theorem x_55_150 : decode (q_code 55) 150 = .ok (.getfield 21, 3) := by decide +kernel
theorem x_55_153 : decode (q_code 55) 153 = .ok (.iload_n 1, 1) := by decide +kernel
theorem x_55_154 : decode (q_code 55) 154 = .ok (.invokestatic 136, 3) := by decide +kernel
theorem x_55_157 : decode (q_code 55) 157 = .ok (.iload_n 2, 1) := by decide +kernel
theorem x_55_158 : decode (q_code 55) 158 = .ok (.iload_n 3, 1) := by decide +kernel
theorem x_55_159 : decode (q_code 55) 159 = .ok (.invokevirtual 181, 3) := by decide +kernel
theorem x_55_162 : decode (q_code 55) 162 = .ok (.ireturn, 1) := by decide +kernel
theorem x_55_163 : decode (q_code 55) 163 = .ok (.aload_n 0, 1) := by decide +kernel
theorem x_55_164 : decode (q_code 55) 164 = .ok (.iload_n 1, 1) := by decide +kernel
theorem x_55_165 : decode (q_code 55) 165 = .ok (.iload_n 2, 1) := by decide +kernel
theorem x_55_166 : decode (q_code 55) 166 = .ok (.iload_n 3, 1) := by decide +kernel
theorem x_55_167 : decode (q_code 55) 167 = .ok (.iload 4, 2) := by decide +kernel
theorem x_55_169 : decode (q_code 55) 169 = .ok (.invokevirtual 185, 3) := by decide +kernel
theorem x_55_172 : decode (q_code 55) 172 = .ok (.ireturn, 1) := by decide +kernel
theorem x_55_173 : decode (q_code 55) 173 = .ok (.aload_n 0, 1) := by decide +kernel
theorem x_55_174 : decode (q_code 55) 174 = .ok (.iload_n 1, 1) := by decide +kernel
theorem x_55_175 : decode (q_code 55) 175 = .ok (.iload_n 2, 1) := by decide +kernel
theorem x_55_176 : decode (q_code 55) 176 = .ok (.iload_n 3, 1) := by decide +kernel
theorem x_55_177 : decode (q_code 55) 177 = .ok (.iload 4, 2) := by decide +kernel
theorem x_55_179 : decode (q_code 55) 179 = .ok (.invokevirtual 158, 3) := by decide +kernel
theorem x_55_182 : decode (q_code 55) 182 = .ok (.ifCond .ne 7, 3) := by decide +kernel
theorem x_55_185 : decode (q_code 55) 185 = .ok (.iconst 1, 1) := by decide +kernel
theorem x_55_186 : decode (q_code 55) 186 = .ok (.goto 4, 3) := by decide +kernel
theorem x_55_189 : decode (q_code 55) 189 = .ok (.iconst 0, 1) := by decide +kernel
theorem x_55_190 : decode (q_code 55) 190 = .ok (.ireturn, 1) := by decide +kernel
theorem x_55_191 : decode (q_code 55) 191 = .ok (.aload_n 0, 1) := by decide +kernel
theorem x_55_192 : decode (q_code 55) 192 = .ok (.iload 5, 2) := by decide +kernel
theorem x_55_194 : decode (q_code 55) 194 = .ok (.iload_n 1, 1) := by decide +kernel
theorem x_55_195 : decode (q_code 55) 195 = .ok (.iload_n 2, 1) := by decide +kernel
theorem x_55_196 : decode (q_code 55) 196 = .ok (.iload_n 3, 1) := by decide +kernel
theorem x_55_197 : decode (q_code 55) 197 = .ok (.invokevirtual 188, 3) := by decide +kernel
theorem x_55_200 : decode (q_code 55) 200 = .ok (.ireturn, 1) := by decide +kernel
theorem x_56_0 : decode (q_code 56) 0 = .ok (.aload_n 0, 1) := by decide +kernel
theorem x_56_1 : decode (q_code 56) 1 = .ok (.getfield 21, 3) := by decide +kernel
theorem x_56_4 : decode (q_code 56) 4 = .ok (.iload_n 1, 1) := by decide +kernel
theorem x_56_5 : decode (q_code 56) 5 = .ok (.invokestatic 69, 3) := by decide +kernel
theorem x_56_8 : decode (q_code 56) 8 = .ok (.bipush 10, 2) := by decide +kernel
theorem x_56_10 : decode (q_code 56) 10 = .ok (.if_icmp .ne 7, 3) := by decide +kernel
theorem x_56_13 : decode (q_code 56) 13 = .ok (.iconst 1, 1) := by decide +kernel
theorem x_56_14 : decode (q_code 56) 14 = .ok (.goto 4, 3) := by decide +kernel
theorem x_56_17 : decode (q_code 56) 17 = .ok (.iconst 0, 1) := by decide +kernel
theorem x_56_18 : decode (q_code 56) 18 = .ok (.istore 4, 2) := by decide +kernel
theorem x_56_20 : decode (q_code 56) 20 = .ok (.iload_n 2, 1) := by decide +kernel
theorem x_56_21 : decode (q_code 56) 21 = .ok (.istore 5, 2) := by decide +kernel
theorem x_56_23 : decode (q_code 56) 23 = .ok (.iload 5, 2) := by decide +kernel
theorem x_56_25 : decode (q_code 56) 25 = .ok (.iload_n 3, 1) := by decide +kernel
theorem x_56_26 : decode (q_code 56) 26 = .ok (.if_icmp .ge 139, 3) := by decide +kernel
theorem x_56_29 : decode (q_code 56) 29 = .ok (.aload_n 0, 1) := by decide +kernel
theorem x_56_30 : decode (q_code 56) 30 = .ok (.getfield 9, 3) := by decide +kernel
theorem x_56_33 : decode (q_code 56) 33 = .ok (.iload 5, 2) := by decide +kernel
theorem x_56_35 : decode (q_code 56) 35 = .ok (.invokevirtual 191, 3) := by decide +kernel
theorem x_56_38 : decode (q_code 56) 38 = .ok (.istore 6, 2) := by decide +kernel
theorem x_56_40 : decode (q_code 56) 40 = .ok (.iload 6, 2) := by decide +kernel
theorem x_56_42 : decode (q_code 56) 42 = .ok (.ifCond .ge 11, 3) := by decide +kernel
theorem x_56_45 : decode (q_code 56) 45 = .ok (.iload 4, 2) := by decide +kernel
theorem x_56_47 : decode (q_code 56) 47 = .ok (.ifCond .eq 26, 3) := by decide +kernel
theorem x_56_50 : decode (q_code 56) 50 = .ok (.goto 21, 3) := by decide +kernel
theorem x_56_53 : decode (q_code 56) 53 = .ok (.aload_n 0, 1) := by decide +kernel
theorem x_56_54 : decode (q_code 56) 54 = .ok (.getfield 21, 3) := by decide +kernel
theorem x_56_57 : decode (q_code 56) 57 = .ok (.iload 6, 2) := by decide +kernel
theorem x_56_59 : decode (q_code 56) 59 = .ok (.aload_n 0, 1) := by decide +kernel
theorem x_56_60 : decode (q_code 56) 60 = .ok (.getfield 21, 3) := by decide +kernel
theorem x_56_63 : decode (q_code 56) 63 = .ok (.iload_n 1, 1) := by decide +kernel
theorem x_56_64 : decode (q_code 56) 64 = .ok (.iconst 0, 1) := by decide +kernel
theorem x_56_65 : decode (q_code 56) 65 = .ok (.invokestatic 195, 3) := by decide +kernel
theorem x_56_68 : decode (q_code 56) 68 = .ok (.ifCond .ne 5, 3) := by decide +kernel
theorem x_56_71 : decode (q_code 56) 71 = .ok (.iconst 1, 1) := by decide +kernel
theorem x_56_72 : decode (q_code 56) 72 = .ok (.ireturn, 1) := by decide +kernel
theorem x_56_73 : decode (q_code 56) 73 = .ok (.aload_n 0, 1) := by decide +kernel
theorem x_56_74 : decode (q_code 56) 74 = .ok (.getfield 21, 3) := by decide +kernel
theorem x_56_77 : decode (q_code 56) 77 = .ok (.iload 6, 2) := by decide +kernel
theorem x_56_79 : decode (q_code 56) 79 = .ok (.invokestatic 69, 3) := by decide +kernel
theorem x_56_82 : decode (q_code 56) 82 = .ok (.iconst 4, 1) := by decide +kernel
theorem x_56_83 : decode (q_code 56) 83 = .ok (.if_icmp .eq 6, 3) := by decide +kernel
theorem x_56_86 : decode (q_code 56) 86 = .ok (.goto 73, 3) := by decide +kernel
theorem x_56_89 : decode (q_code 56) 89 = .ok (.aload_n 0, 1) := by decide +kernel
theorem x_56_90 : decode (q_code 56) 90 = .ok (.getfield 21, 3) := by decide +kernel
theorem x_56_93 : decode (q_code 56) 93 = .ok (.iload 6, 2) := by decide +kernel
theorem x_56_95 : decode (q_code 56) 95 = .ok (.invokestatic 73, 3) := by decide +kernel
theorem x_56_98 : decode (q_code 56) 98 = .ok (.istore 7, 2) := by decide +kernel
theorem x_56_100 : decode (q_code 56) 100 = .ok (.iconst 0, 1) := by decide +kernel
theorem x_56_101 : decode (q_code 56) 101 = .ok (.istore 8, 2) := by decide +kernel
theorem x_56_103 : decode (q_code 56) 103 = .ok (.iload 8, 2) := by decide +kernel
theorem x_56_105 : decode (q_code 56) 105 = .ok (.ldc 199, 2) := by decide +kernel
theorem x_56_107 : decode (q_code 56) 107 = .ok (.if_icmp .ge 52, 3) := by decide +kernel
theorem x_56_110 : decode (q_code 56) 110 = .ok (.aload_n 0, 1) := by decide +kernel
theorem x_56_111 : decode (q_code 56) 111 = .ok (.getfield 21, 3) := by decide +kernel
theorem x_56_114 : decode (q_code 56) 114 = .ok (.iload 7, 2) := by decide +kernel
theorem x_56_116 : decode (q_code 56) 116 = .ok (.invokestatic 69, 3) := by decide +kernel
theorem x_56_119 : decode (q_code 56) 119 = .ok (.ifCond .eq 40, 3) := by decide +kernel
theorem x_56_122 : decode (q_code 56) 122 = .ok (.aload_n 0, 1) := by decide +kernel
theorem x_56_123 : decode (q_code 56) 123 = .ok (.getfield 21, 3) := by decide +kernel
theorem x_56_126 : decode (q_code 56) 126 = .ok (.iload 7, 2) := by decide +kernel
theorem x_56_128 : decode (q_code 56) 128 = .ok (.aload_n 0, 1) := by decide +kernel
theorem x_56_129 : decode (q_code 56) 129 = .ok (.getfield 21, 3) := by decide +kernel
theorem x_56_132 : decode (q_code 56) 132 = .ok (.iload_n 1, 1) := by decide +kernel
theorem x_56_133 : decode (q_code 56) 133 = .ok (.iconst 0, 1) := by decide +kernel
theorem x_56_134 : decode (q_code 56) 134 = .ok (.invokestatic 195, 3) := by decide +kernel
theorem x_56_137 : decode (q_code 56) 137 = .ok (.ifCond .ne 5, 3) := by decide +kernel
theorem x_56_140 : decode (q_code 56) 140 = .ok (.iconst 1, 1) := by decide +kernel
theorem x_56_141 : decode (q_code 56) 141 = .ok (.ireturn, 1) := by decide +kernel
theorem x_56_142 : decode (q_code 56) 142 = .ok (.aload_n 0, 1) := by decide +kernel
theorem x_56_143 : decode (q_code 56) 143 = .ok (.getfield 21, 3) := by decide +kernel
theorem x_56_146 : decode (q_code 56) 146 = .ok (.iload 7, 2) := by decide +kernel
theorem x_56_148 : decode (q_code 56) 148 = .ok (.invokestatic 102, 3) := by decide +kernel
theorem x_56_151 : decode (q_code 56) 151 = .ok (.istore 7, 2) := by decide +kernel
theorem x_56_153 : decode (q_code 56) 153 = .ok (.iinc 8 1, 3) := by decide +kernel
theorem x_56_156 : decode (q_code 56) 156 = .ok (.goto (-53), 3) := by decide +kernel
theorem x_56_159 : decode (q_code 56) 159 = .ok (.iinc 5 1, 3) := by decide +kernel
theorem x_56_162 : decode (q_code 56) 162 = .ok (.goto (-139), 3) := by decide +kernel
theorem x_56_165 : decode (q_code 56) 165 = .ok (.iconst 0, 1) := by decide +kernel
theorem x_56_166 : decode (q_code 56) 166 = .ok (.ireturn, 1) := by decide +kernel
theorem x_57_0 : decode (q_code 57) 0 = .ok (.aload_n 0, 1) := by decide +kernel
theorem x_57_1 : decode (q_code 57) 1 = .ok (.getfield 21, 3) := by decide +kernel
theorem x_57_4 : decode (q_code 57) 4 = .ok (.iload_n 1, 1) := by decide +kernel
theorem x_57_5 : decode (q_code 57) 5 = .ok (.invokestatic 73, 3) := by decide +kernel
theorem x_57_8 : decode (q_code 57) 8 = .ok (.istore 4, 2) := by decide +kernel
theorem x_57_10 : decode (q_code 57) 10 = .ok (.iconst 0, 1) := by decide +kernel
theorem x_57_11 : decode (q_code 57) 11 = .ok (.istore 5, 2) := by decide +kernel
theorem x_57_13 : decode (q_code 57) 13 = .ok (.iload 5, 2) := by decide +kernel
theorem x_57_15 : decode (q_code 57) 15 = .ok (.sipush 2000, 3) := by decide +kernel
theorem x_57_18 : decode (q_code 57) 18 = .ok (.if_icmp .ge 45, 3) := by decide +kernel
theorem x_57_21 : decode (q_code 57) 21 = .ok (.aload_n 0, 1) := by decide +kernel
theorem x_57_22 : decode (q_code 57) 22 = .ok (.getfield 21, 3) := by decide +kernel
theorem x_57_25 : decode (q_code 57) 25 = .ok (.iload 4, 2) := by decide +kernel
theorem x_57_27 : decode (q_code 57) 27 = .ok (.invokestatic 69, 3) := by decide +kernel
theorem x_57_30 : decode (q_code 57) 30 = .ok (.ifCond .eq 33, 3) := by decide +kernel
theorem x_57_33 : decode (q_code 57) 33 = .ok (.aload_n 0, 1) := by decide +kernel
theorem x_57_34 : decode (q_code 57) 34 = .ok (.iload 4, 2) := by decide +kernel
theorem x_57_36 : decode (q_code 57) 36 = .ok (.iload_n 2, 1) := by decide +kernel
theorem x_57_37 : decode (q_code 57) 37 = .ok (.iload_n 3, 1) := by decide +kernel
theorem x_57_38 : decode (q_code 57) 38 = .ok (.invokevirtual 162, 3) := by decide +kernel
theorem x_57_41 : decode (q_code 57) 41 = .ok (.ifCond .eq 5, 3) := by decide +kernel
theorem x_57_44 : decode (q_code 57) 44 = .ok (.iconst 1, 1) := by decide +kernel
theorem x_57_45 : decode (q_code 57) 45 = .ok (.ireturn, 1) := by decide +kernel
theorem x_57_46 : decode (q_code 57) 46 = .ok (.aload_n 0, 1) := by decide +kernel
theorem x_57_47 : decode (q_code 57) 47 = .ok (.getfield 21, 3) := by decide +kernel
theorem x_57_50 : decode (q_code 57) 50 = .ok (.iload 4, 2) := by decide +kernel
theorem x_57_52 : decode (q_code 57) 52 = .ok (.invokestatic 102, 3) := by decide +kernel
theorem x_57_55 : decode (q_code 57) 55 = .ok (.istore 4, 2) := by decide +kernel
theorem x_57_57 : decode (q_code 57) 57 = .ok (.iinc 5 1, 3) := by decide +kernel
theorem x_57_60 : decode (q_code 57) 60 = .ok (.goto (-47), 3) := by decide +kernel
theorem x_57_63 : decode (q_code 57) 63 = .ok (.iconst 0, 1) := by decide +kernel
theorem x_57_64 : decode (q_code 57) 64 = .ok (.ireturn, 1) := by decide +kernel
theorem x_58_0 : decode (q_code 58) 0 = .ok (.aload_n 0, 1) := by decide +kernel
theorem x_58_1 : decode (q_code 58) 1 = .ok (.getfield 21, 3) := by decide +kernel
theorem x_58_4 : decode (q_code 58) 4 = .ok (.iload_n 2, 1) := by decide +kernel
theorem x_58_5 : decode (q_code 58) 5 = .ok (.invokestatic 69, 3) := by decide +kernel
theorem x_58_8 : decode (q_code 58) 8 = .ok (.bipush 10, 2) := by decide +kernel
theorem x_58_10 : decode (q_code 58) 10 = .ok (.if_icmp .ne 32, 3) := by decide +kernel
theorem x_58_13 : decode (q_code 58) 13 = .ok (.iload_n 1, 1) := by decide +kernel
theorem x_58_14 : decode (q_code 58) 14 = .ok (.bipush 6, 2) := by decide +kernel
theorem x_58_16 : decode (q_code 58) 16 = .ok (.if_icmp .eq 9, 3) := by decide +kernel
theorem x_58_19 : decode (q_code 58) 19 = .ok (.iload_n 1, 1) := by decide +kernel
theorem x_58_20 : decode (q_code 58) 20 = .ok (.bipush 8, 2) := by decide +kernel
theorem x_58_22 : decode (q_code 58) 22 = .ok (.if_icmp .ne 18, 3) := by decide +kernel
theorem x_58_25 : decode (q_code 58) 25 = .ok (.aload_n 0, 1) := by decide +kernel
theorem x_58_26 : decode (q_code 58) 26 = .ok (.iload_n 2, 1) := by decide +kernel
theorem x_58_27 : decode (q_code 58) 27 = .ok (.iload_n 3, 1) := by decide +kernel
theorem x_58_28 : decode (q_code 58) 28 = .ok (.iload 4, 2) := by decide +kernel
theorem x_58_30 : decode (q_code 58) 30 = .ok (.invokevirtual 162, 3) := by decide +kernel
theorem x_58_33 : decode (q_code 58) 33 = .ok (.ifCond .eq 7, 3) := by decide +kernel
theorem x_58_36 : decode (q_code 58) 36 = .ok (.iconst 1, 1) := by decide +kernel
theorem x_58_37 : decode (q_code 58) 37 = .ok (.goto 4, 3) := by decide +kernel
theorem x_58_40 : decode (q_code 58) 40 = .ok (.iconst 0, 1) := by decide +kernel
theorem x_58_41 : decode (q_code 58) 41 = .ok (.ireturn, 1) := by decide +kernel
theorem x_58_42 : decode (q_code 58) 42 = .ok (.iload_n 3, 1) := by decide +kernel
theorem x_58_43 : decode (q_code 58) 43 = .ok (.istore 5, 2) := by decide +kernel
theorem x_58_45 : decode (q_code 58) 45 = .ok (.iload 5, 2) := by decide +kernel
theorem x_58_47 : decode (q_code 58) 47 = .ok (.iload 4, 2) := by decide +kernel
theorem x_58_49 : decode (q_code 58) 49 = .ok (.if_icmp .ge 112, 3) := by decide +kernel
theorem x_58_52 : decode (q_code 58) 52 = .ok (.aload_n 0, 1) := by decide +kernel
theorem x_58_53 : decode (q_code 58) 53 = .ok (.getfield 9, 3) := by decide +kernel
theorem x_58_56 : decode (q_code 58) 56 = .ok (.iload 5, 2) := by decide +kernel
theorem x_58_58 : decode (q_code 58) 58 = .ok (.invokevirtual 191, 3) := by decide +kernel
theorem x_58_61 : decode (q_code 58) 61 = .ok (.istore 6, 2) := by decide +kernel
theorem x_58_63 : decode (q_code 58) 63 = .ok (.aload_n 0, 1) := by decide +kernel
theorem x_58_64 : decode (q_code 58) 64 = .ok (.iload_n 1, 1) := by decide +kernel
theorem x_58_65 : decode (q_code 58) 65 = .ok (.iload 6, 2) := by decide +kernel
theorem x_58_67 : decode (q_code 58) 67 = .ok (.iload_n 2, 1) := by decide +kernel
theorem x_58_68 : decode (q_code 58) 68 = .ok (.invokevirtual 200, 3) := by decide +kernel
theorem x_58_71 : decode (q_code 58) 71 = .ok (.ifCond .eq 5, 3) := by decide +kernel
theorem x_58_74 : decode (q_code 58) 74 = .ok (.iconst 1, 1) := by decide +kernel
theorem x_58_75 : decode (q_code 58) 75 = .ok (.ireturn, 1) := by decide +kernel
theorem x_58_76 : decode (q_code 58) 76 = .ok (.aload_n 0, 1) := by decide +kernel
theorem x_58_77 : decode (q_code 58) 77 = .ok (.getfield 21, 3) := by decide +kernel
theorem x_58_80 : decode (q_code 58) 80 = .ok (.iload 6, 2) := by decide +kernel
theorem x_58_82 : decode (q_code 58) 82 = .ok (.invokestatic 69, 3) := by decide +kernel
theorem x_58_85 : decode (q_code 58) 85 = .ok (.iconst 4, 1) := by decide +kernel
theorem x_58_86 : decode (q_code 58) 86 = .ok (.if_icmp .eq 6, 3) := by decide +kernel
theorem x_58_89 : decode (q_code 58) 89 = .ok (.goto 66, 3) := by decide +kernel
theorem x_58_92 : decode (q_code 58) 92 = .ok (.aload_n 0, 1) := by decide +kernel
theorem x_58_93 : decode (q_code 58) 93 = .ok (.getfield 21, 3) := by decide +kernel
theorem x_58_96 : decode (q_code 58) 96 = .ok (.iload 6, 2) := by decide +kernel
theorem x_58_98 : decode (q_code 58) 98 = .ok (.invokestatic 73, 3) := by decide +kernel
theorem x_58_101 : decode (q_code 58) 101 = .ok (.istore 7, 2) := by decide +kernel
theorem x_58_103 : decode (q_code 58) 103 = .ok (.iconst 0, 1) := by decide +kernel
theorem x_58_104 : decode (q_code 58) 104 = .ok (.istore 8, 2) := by decide +kernel
theorem x_58_106 : decode (q_code 58) 106 = .ok (.iload 8, 2) := by decide +kernel
theorem x_58_108 : decode (q_code 58) 108 = .ok (.ldc 199, 2) := by decide +kernel
theorem x_58_110 : decode (q_code 58) 110 = .ok (.if_icmp .ge 45, 3) := by decide +kernel
theorem x_58_113 : decode (q_code 58) 113 = .ok (.aload_n 0, 1) := by decide +kernel
theorem x_58_114 : decode (q_code 58) 114 = .ok (.getfield 21, 3) := by decide +kernel
theorem x_58_117 : decode (q_code 58) 117 = .ok (.iload 7, 2) := by decide +kernel
theorem x_58_119 : decode (q_code 58) 119 = .ok (.invokestatic 69, 3) := by decide +kernel
theorem x_58_122 : decode (q_code 58) 122 = .ok (.ifCond .eq 33, 3) := by decide +kernel
theorem x_58_125 : decode (q_code 58) 125 = .ok (.aload_n 0, 1) := by decide +kernel
theorem x_58_126 : decode (q_code 58) 126 = .ok (.iload_n 1, 1) := by decide +kernel
theorem x_58_127 : decode (q_code 58) 127 = .ok (.iload 7, 2) := by decide +kernel
theorem x_58_129 : decode (q_code 58) 129 = .ok (.iload_n 2, 1) := by decide +kernel
theorem x_58_130 : decode (q_code 58) 130 = .ok (.invokevirtual 200, 3) := by decide +kernel
theorem x_58_133 : decode (q_code 58) 133 = .ok (.ifCond .eq 5, 3) := by decide +kernel
theorem x_58_136 : decode (q_code 58) 136 = .ok (.iconst 1, 1) := by decide +kernel
theorem x_58_137 : decode (q_code 58) 137 = .ok (.ireturn, 1) := by decide +kernel
theorem x_58_138 : decode (q_code 58) 138 = .ok (.aload_n 0, 1) := by decide +kernel
theorem x_58_139 : decode (q_code 58) 139 = .ok (.getfield 21, 3) := by decide +kernel
theorem x_58_142 : decode (q_code 58) 142 = .ok (.iload 7, 2) := by decide +kernel
theorem x_58_144 : decode (q_code 58) 144 = .ok (.invokestatic 102, 3) := by decide +kernel
theorem x_58_147 : decode (q_code 58) 147 = .ok (.istore 7, 2) := by decide +kernel
theorem x_58_149 : decode (q_code 58) 149 = .ok (.iinc 8 1, 3) := by decide +kernel
theorem x_58_152 : decode (q_code 58) 152 = .ok (.goto (-46), 3) := by decide +kernel
theorem x_58_155 : decode (q_code 58) 155 = .ok (.iinc 5 1, 3) := by decide +kernel
theorem x_58_158 : decode (q_code 58) 158 = .ok (.goto (-113), 3) := by decide +kernel
theorem x_58_161 : decode (q_code 58) 161 = .ok (.iconst 0, 1) := by decide +kernel
theorem x_58_162 : decode (q_code 58) 162 = .ok (.ireturn, 1) := by decide +kernel
theorem x_59_0 : decode (q_code 59) 0 = .ok (.aload_n 0, 1) := by decide +kernel
theorem x_59_1 : decode (q_code 59) 1 = .ok (.getfield 21, 3) := by decide +kernel
theorem x_59_4 : decode (q_code 59) 4 = .ok (.iload_n 2, 1) := by decide +kernel
theorem x_59_5 : decode (q_code 59) 5 = .ok (.invokestatic 203, 3) := by decide +kernel
theorem x_59_8 : decode (q_code 59) 8 = .ok (.aload_n 0, 1) := by decide +kernel
theorem x_59_9 : decode (q_code 59) 9 = .ok (.getfield 21, 3) := by decide +kernel
theorem x_59_12 : decode (q_code 59) 12 = .ok (.iload_n 3, 1) := by decide +kernel
theorem x_59_13 : decode (q_code 59) 13 = .ok (.invokestatic 203, 3) := by decide +kernel
theorem x_59_16 : decode (q_code 59) 16 = .ok (.if_icmp .eq 5, 3) := by decide +kernel
theorem x_59_19 : decode (q_code 59) 19 = .ok (.iconst 0, 1) := by decide +kernel
theorem x_59_20 : decode (q_code 59) 20 = .ok (.ireturn, 1) := by decide +kernel
theorem x_59_21 : decode (q_code 59) 21 = .ok (.aload_n 0, 1) := by decide +kernel
theorem x_59_22 : decode (q_code 59) 22 = .ok (.getfield 21, 3) := by decide +kernel
theorem x_59_25 : decode (q_code 59) 25 = .ok (.iload_n 2, 1) := by decide +kernel
theorem x_59_26 : decode (q_code 59) 26 = .ok (.aload_n 0, 1) := by decide +kernel
theorem x_59_27 : decode (q_code 59) 27 = .ok (.getfield 21, 3) := by decide +kernel
theorem x_59_30 : decode (q_code 59) 30 = .ok (.iload_n 3, 1) := by decide +kernel
theorem x_59_31 : decode (q_code 59) 31 = .ok (.iconst 0, 1) := by decide +kernel
theorem x_59_32 : decode (q_code 59) 32 = .ok (.invokestatic 195, 3) := by decide +kernel
theorem x_59_35 : decode (q_code 59) 35 = .ok (.istore 4, 2) := by decide +kernel
theorem x_59_37 : decode (q_code 59) 37 = .ok (.iload_n 1, 1) := by decide +kernel
theorem x_59_38 : decode (q_code 59) 38 = .ok (.tableswitch 59 5 7 #[26, 37, 48], 26) := by decide +kernel
theorem x_59_64 : decode (q_code 59) 64 = .ok (.iload 4, 2) := by decide +kernel
theorem x_59_66 : decode (q_code 59) 66 = .ok (.ifCond .ge 7, 3) := by decide +kernel
theorem x_59_69 : decode (q_code 59) 69 = .ok (.iconst 1, 1) := by decide +kernel
theorem x_59_70 : decode (q_code 59) 70 = .ok (.goto 4, 3) := by decide +kernel
theorem x_59_73 : decode (q_code 59) 73 = .ok (.iconst 0, 1) := by decide +kernel
theorem x_59_74 : decode (q_code 59) 74 = .ok (.ireturn, 1) := by decide +kernel
theorem x_59_75 : decode (q_code 59) 75 = .ok (.iload 4, 2) := by decide +kernel
theorem x_59_77 : decode (q_code 59) 77 = .ok (.ifCond .gt 7, 3) := by decide +kernel
theorem x_59_80 : decode (q_code 59) 80 = .ok (.iconst 1, 1) := by decide +kernel
theorem x_59_81 : decode (q_code 59) 81 = .ok (.goto 4, 3) := by decide +kernel
theorem x_59_84 : decode (q_code 59) 84 = .ok (.iconst 0, 1) := by decide +kernel
theorem x_59_85 : decode (q_code 59) 85 = .ok (.ireturn, 1) := by decide +kernel
theorem x_59_86 : decode (q_code 59) 86 = .ok (.iload 4, 2) := by decide +kernel
theorem x_59_88 : decode (q_code 59) 88 = .ok (.ifCond .le 7, 3) := by decide +kernel
theorem x_59_91 : decode (q_code 59) 91 = .ok (.iconst 1, 1) := by decide +kernel
theorem x_59_92 : decode (q_code 59) 92 = .ok (.goto 4, 3) := by decide +kernel
theorem x_59_95 : decode (q_code 59) 95 = .ok (.iconst 0, 1) := by decide +kernel
theorem x_59_96 : decode (q_code 59) 96 = .ok (.ireturn, 1) := by decide +kernel
theorem x_59_97 : decode (q_code 59) 97 = .ok (.iload 4, 2) := by decide +kernel
theorem x_59_99 : decode (q_code 59) 99 = .ok (.ifCond .lt 7, 3) := by decide +kernel
theorem x_59_102 : decode (q_code 59) 102 = .ok (.iconst 1, 1) := by decide +kernel
theorem x_59_103 : decode (q_code 59) 103 = .ok (.goto 4, 3) := by decide +kernel
theorem x_59_106 : decode (q_code 59) 106 = .ok (.iconst 0, 1) := by decide +kernel
theorem x_59_107 : decode (q_code 59) 107 = .ok (.ireturn, 1) := by decide +kernel
theorem x_60_0 : decode (q_code 60) 0 = .ok (.iload_n 1, 1) := by decide +kernel
theorem x_60_1 : decode (q_code 60) 1 = .ok (.istore_n 3, 1) := by decide +kernel
theorem x_60_2 : decode (q_code 60) 2 = .ok (.iload_n 3, 1) := by decide +kernel
theorem x_60_3 : decode (q_code 60) 3 = .ok (.iload_n 2, 1) := by decide +kernel
theorem x_60_4 : decode (q_code 60) 4 = .ok (.if_icmp .ge 22, 3) := by decide +kernel
theorem x_60_7 : decode (q_code 60) 7 = .ok (.aload_n 0, 1) := by decide +kernel
theorem x_60_8 : decode (q_code 60) 8 = .ok (.getfield 9, 3) := by decide +kernel
theorem x_60_11 : decode (q_code 60) 11 = .ok (.iload_n 3, 1) := by decide +kernel
theorem x_60_12 : decode (q_code 60) 12 = .ok (.invokevirtual 191, 3) := by decide +kernel
theorem x_60_15 : decode (q_code 60) 15 = .ok (.ifCond .lt 5, 3) := by decide +kernel
theorem x_60_18 : decode (q_code 60) 18 = .ok (.iconst 1, 1) := by decide +kernel
theorem x_60_19 : decode (q_code 60) 19 = .ok (.ireturn, 1) := by decide +kernel
theorem x_60_20 : decode (q_code 60) 20 = .ok (.iinc 3 1, 3) := by decide +kernel
theorem x_60_23 : decode (q_code 60) 23 = .ok (.goto (-21), 3) := by decide +kernel
theorem x_60_26 : decode (q_code 60) 26 = .ok (.iconst 0, 1) := by decide +kernel
theorem x_60_27 : decode (q_code 60) 27 = .ok (.ireturn, 1) := by decide +kernel
theorem x_61_0 : decode (q_code 61) 0 = .ok (.iload_n 3, 1) := by decide +kernel
theorem x_61_1 : decode (q_code 61) 1 = .ok (.istore 5, 2) := by decide +kernel
theorem x_61_3 : decode (q_code 61) 3 = .ok (.iload 5, 2) := by decide +kernel
theorem x_61_5 : decode (q_code 61) 5 = .ok (.iload 4, 2) := by decide +kernel
theorem x_61_7 : decode (q_code 61) 7 = .ok (.if_icmp .ge 50, 3) := by decide +kernel
theorem x_61_10 : decode (q_code 61) 10 = .ok (.aload_n 0, 1) := by decide +kernel
theorem x_61_11 : decode (q_code 61) 11 = .ok (.getfield 9, 3) := by decide +kernel
theorem x_61_14 : decode (q_code 61) 14 = .ok (.iload 5, 2) := by decide +kernel
theorem x_61_16 : decode (q_code 61) 16 = .ok (.invokevirtual 191, 3) := by decide +kernel
theorem x_61_19 : decode (q_code 61) 19 = .ok (.istore 6, 2) := by decide +kernel
theorem x_61_21 : decode (q_code 61) 21 = .ok (.aload_n 0, 1) := by decide +kernel
theorem x_61_22 : decode (q_code 61) 22 = .ok (.getfield 21, 3) := by decide +kernel
theorem x_61_25 : decode (q_code 61) 25 = .ok (.iload 6, 2) := by decide +kernel
theorem x_61_27 : decode (q_code 61) 27 = .ok (.invokestatic 69, 3) := by decide +kernel
theorem x_61_30 : decode (q_code 61) 30 = .ok (.iconst 4, 1) := by decide +kernel
theorem x_61_31 : decode (q_code 61) 31 = .ok (.if_icmp .ne 20, 3) := by decide +kernel
theorem x_61_34 : decode (q_code 61) 34 = .ok (.aload_n 0, 1) := by decide +kernel
theorem x_61_35 : decode (q_code 61) 35 = .ok (.getfield 21, 3) := by decide +kernel
theorem x_61_38 : decode (q_code 61) 38 = .ok (.iload 6, 2) := by decide +kernel
theorem x_61_40 : decode (q_code 61) 40 = .ok (.invokestatic 206, 3) := by decide +kernel
theorem x_61_43 : decode (q_code 61) 43 = .ok (.i2l, 1) := by decide +kernel
theorem x_61_44 : decode (q_code 61) 44 = .ok (.lload_n 1, 1) := by decide +kernel
theorem x_61_45 : decode (q_code 61) 45 = .ok (.lcmp, 1) := by decide +kernel
theorem x_61_46 : decode (q_code 61) 46 = .ok (.ifCond .ne 5, 3) := by decide +kernel
theorem x_61_49 : decode (q_code 61) 49 = .ok (.iconst 1, 1) := by decide +kernel
theorem x_61_50 : decode (q_code 61) 50 = .ok (.ireturn, 1) := by decide +kernel
theorem x_61_51 : decode (q_code 61) 51 = .ok (.iinc 5 1, 3) := by decide +kernel
theorem x_61_54 : decode (q_code 61) 54 = .ok (.goto (-51), 3) := by decide +kernel
theorem x_61_57 : decode (q_code 61) 57 = .ok (.iconst 0, 1) := by decide +kernel
theorem x_61_58 : decode (q_code 61) 58 = .ok (.ireturn, 1) := by decide +kernel
theorem x_62_0 : decode (q_code 62) 0 = .ok (.aload_n 0, 1) := by decide +kernel
theorem x_62_1 : decode (q_code 62) 1 = .ok (.getfield 21, 3) := by decide +kernel
theorem x_62_4 : decode (q_code 62) 4 = .ok (.iload_n 1, 1) := by decide +kernel
theorem x_62_5 : decode (q_code 62) 5 = .ok (.invokestatic 130, 3) := by decide +kernel
theorem x_62_8 : decode (q_code 62) 8 = .ok (.istore 5, 2) := by decide +kernel
theorem x_62_10 : decode (q_code 62) 10 = .ok (.iload_n 2, 1) := by decide +kernel
theorem x_62_11 : decode (q_code 62) 11 = .ok (.istore 6, 2) := by decide +kernel
theorem x_62_13 : decode (q_code 62) 13 = .ok (.iload 6, 2) := by decide +kernel
theorem x_62_15 : decode (q_code 62) 15 = .ok (.iload_n 3, 1) := by decide +kernel
theorem x_62_16 : decode (q_code 62) 16 = .ok (.if_icmp .ge 133, 3) := by decide +kernel
theorem x_62_19 : decode (q_code 62) 19 = .ok (.aload_n 0, 1) := by decide +kernel
theorem x_62_20 : decode (q_code 62) 20 = .ok (.getfield 9, 3) := by decide +kernel
theorem x_62_23 : decode (q_code 62) 23 = .ok (.iload 6, 2) := by decide +kernel
theorem x_62_25 : decode (q_code 62) 25 = .ok (.invokevirtual 191, 3) := by decide +kernel
theorem x_62_28 : decode (q_code 62) 28 = .ok (.istore 7, 2) := by decide +kernel
theorem x_62_30 : decode (q_code 62) 30 = .ok (.aload_n 0, 1) := by decide +kernel
theorem x_62_31 : decode (q_code 62) 31 = .ok (.getfield 21, 3) := by decide +kernel
theorem x_62_34 : decode (q_code 62) 34 = .ok (.iload 7, 2) := by decide +kernel
theorem x_62_36 : decode (q_code 62) 36 = .ok (.invokestatic 69, 3) := by decide +kernel
theorem x_62_39 : decode (q_code 62) 39 = .ok (.iconst 4, 1) := by decide +kernel
theorem x_62_40 : decode (q_code 62) 40 = .ok (.if_icmp .eq 6, 3) := by decide +kernel
theorem x_62_43 : decode (q_code 62) 43 = .ok (.goto 100, 3) := by decide +kernel
theorem x_62_46 : decode (q_code 62) 46 = .ok (.aload_n 0, 1) := by decide +kernel
theorem x_62_47 : decode (q_code 62) 47 = .ok (.getfield 21, 3) := by decide +kernel
theorem x_62_50 : decode (q_code 62) 50 = .ok (.iload 7, 2) := by decide +kernel
theorem x_62_52 : decode (q_code 62) 52 = .ok (.invokestatic 73, 3) := by decide +kernel
theorem x_62_55 : decode (q_code 62) 55 = .ok (.istore 8, 2) := by decide +kernel
theorem x_62_57 : decode (q_code 62) 57 = .ok (.iconst 0, 1) := by decide +kernel
theorem x_62_58 : decode (q_code 62) 58 = .ok (.istore 9, 2) := by decide +kernel
theorem x_62_60 : decode (q_code 62) 60 = .ok (.iload 9, 2) := by decide +kernel
theorem x_62_62 : decode (q_code 62) 62 = .ok (.ldc 199, 2) := by decide +kernel
theorem x_62_64 : decode (q_code 62) 64 = .ok (.if_icmp .ge 79, 3) := by decide +kernel
theorem x_62_67 : decode (q_code 62) 67 = .ok (.aload_n 0, 1) := by decide +kernel
theorem x_62_68 : decode (q_code 62) 68 = .ok (.getfield 21, 3) := by decide +kernel
theorem x_62_71 : decode (q_code 62) 71 = .ok (.iload 8, 2) := by decide +kernel
theorem x_62_73 : decode (q_code 62) 73 = .ok (.invokestatic 69, 3) := by decide +kernel
theorem x_62_76 : decode (q_code 62) 76 = .ok (.ifCond .eq 67, 3) := by decide +kernel
theorem x_62_79 : decode (q_code 62) 79 = .ok (.iload 5, 2) := by decide +kernel
theorem x_62_81 : decode (q_code 62) 81 = .ok (.ifCond .eq 18, 3) := by decide +kernel
theorem x_62_84 : decode (q_code 62) 84 = .ok (.aload_n 0, 1) := by decide +kernel
theorem x_62_85 : decode (q_code 62) 85 = .ok (.iload_n 1, 1) := by decide +kernel
theorem x_62_86 : decode (q_code 62) 86 = .ok (.iload 8, 2) := by decide +kernel
theorem x_62_88 : decode (q_code 62) 88 = .ok (.iload 4, 2) := by decide +kernel
theorem x_62_90 : decode (q_code 62) 90 = .ok (.invokevirtual 209, 3) := by decide +kernel
theorem x_62_93 : decode (q_code 62) 93 = .ok (.ifCond .eq 33, 3) := by decide +kernel
theorem x_62_96 : decode (q_code 62) 96 = .ok (.goto 28, 3) := by decide +kernel
theorem x_62_99 : decode (q_code 62) 99 = .ok (.aload_n 0, 1) := by decide +kernel
theorem x_62_100 : decode (q_code 62) 100 = .ok (.getfield 21, 3) := by decide +kernel
theorem x_62_103 : decode (q_code 62) 103 = .ok (.iload 8, 2) := by decide +kernel
theorem x_62_105 : decode (q_code 62) 105 = .ok (.invokestatic 69, 3) := by decide +kernel
theorem x_62_108 : decode (q_code 62) 108 = .ok (.iconst 3, 1) := by decide +kernel
theorem x_62_109 : decode (q_code 62) 109 = .ok (.if_icmp .ne 17, 3) := by decide +kernel
theorem x_62_112 : decode (q_code 62) 112 = .ok (.aload_n 0, 1) := by decide +kernel
theorem x_62_113 : decode (q_code 62) 113 = .ok (.iload_n 1, 1) := by decide +kernel
theorem x_62_114 : decode (q_code 62) 114 = .ok (.iload 8, 2) := by decide +kernel
theorem x_62_116 : decode (q_code 62) 116 = .ok (.iload 4, 2) := by decide +kernel
theorem x_62_118 : decode (q_code 62) 118 = .ok (.invokevirtual 165, 3) := by decide +kernel
theorem x_62_121 : decode (q_code 62) 121 = .ok (.ifCond .eq 5, 3) := by decide +kernel
theorem x_62_124 : decode (q_code 62) 124 = .ok (.iconst 1, 1) := by decide +kernel
theorem x_62_125 : decode (q_code 62) 125 = .ok (.ireturn, 1) := by decide +kernel
theorem x_62_126 : decode (q_code 62) 126 = .ok (.aload_n 0, 1) := by decide +kernel
theorem x_62_127 : decode (q_code 62) 127 = .ok (.getfield 21, 3) := by decide +kernel
theorem x_62_130 : decode (q_code 62) 130 = .ok (.iload 8, 2) := by decide +kernel
theorem x_62_132 : decode (q_code 62) 132 = .ok (.invokestatic 102, 3) := by decide +kernel
theorem x_62_135 : decode (q_code 62) 135 = .ok (.istore 8, 2) := by decide +kernel
theorem x_62_137 : decode (q_code 62) 137 = .ok (.iinc 9 1, 3) := by decide +kernel
theorem x_62_140 : decode (q_code 62) 140 = .ok (.goto (-80), 3) := by decide +kernel
theorem x_62_143 : decode (q_code 62) 143 = .ok (.iinc 6 1, 3) := by decide +kernel
theorem x_62_146 : decode (q_code 62) 146 = .ok (.goto (-133), 3) := by decide +kernel
theorem x_62_149 : decode (q_code 62) 149 = .ok (.iconst 0, 1) := by decide +kernel
theorem x_62_150 : decode (q_code 62) 150 = .ok (.ireturn, 1) := by decide +kernel
theorem x_63_0 : decode (q_code 63) 0 = .ok (.aload_n 0, 1) := by decide +kernel
theorem x_63_1 : decode (q_code 63) 1 = .ok (.getfield 9, 3) := by decide +kernel
theorem x_63_4 : decode (q_code 63) 4 = .ok (.getfield 147, 3) := by decide +kernel
theorem x_63_7 : decode (q_code 63) 7 = .ok (.istore 4, 2) := by decide +kernel
theorem x_63_9 : decode (q_code 63) 9 = .ok (.aload_n 0, 1) := by decide +kernel
theorem x_63_10 : decode (q_code 63) 10 = .ok (.getfield 9, 3) := by decide +kernel
theorem x_63_13 : decode (q_code 63) 13 = .ok (.iload_n 2, 1) := by decide +kernel
theorem x_63_14 : decode (q_code 63) 14 = .ok (.invokevirtual 154, 3) := by decide +kernel
theorem x_63_17 : decode (q_code 63) 17 = .ok (.aload_n 0, 1) := by decide +kernel
theorem x_63_18 : decode (q_code 63) 18 = .ok (.iload_n 1, 1) := by decide +kernel
theorem x_63_19 : decode (q_code 63) 19 = .ok (.iload 4, 2) := by decide +kernel
theorem x_63_21 : decode (q_code 63) 21 = .ok (.iload 4, 2) := by decide +kernel
theorem x_63_23 : decode (q_code 63) 23 = .ok (.iconst 1, 1) := by decide +kernel
theorem x_63_24 : decode (q_code 63) 24 = .ok (.iadd, 1) := by decide +kernel
theorem x_63_25 : decode (q_code 63) 25 = .ok (.iload_n 3, 1) := by decide +kernel
theorem x_63_26 : decode (q_code 63) 26 = .ok (.invokevirtual 158, 3) := by decide +kernel
theorem x_63_29 : decode (q_code 63) 29 = .ok (.istore 5, 2) := by decide +kernel
theorem x_63_31 : decode (q_code 63) 31 = .ok (.aload_n 0, 1) := by decide +kernel
theorem x_63_32 : decode (q_code 63) 32 = .ok (.getfield 9, 3) := by decide +kernel
theorem x_63_35 : decode (q_code 63) 35 = .ok (.iload 4, 2) := by decide +kernel
theorem x_63_37 : decode (q_code 63) 37 = .ok (.putfield 147, 3) := by decide +kernel
theorem x_63_40 : decode (q_code 63) 40 = .ok (.iload 5, 2) := by decide +kernel
theorem x_63_42 : decode (q_code 63) 42 = .ok (.ireturn, 1) := by decide +kernel
theorem m_X2_conditionOf {d : Nat} {M : g_M} {Q : Int → g_M → Prop} {a0 : Nat} {v1 : Int} (hv1 : g_InR v1) (h : g_ok M → g_Call d 116 [.ref a0, g_n v1] M (g_qI fun r4 M1 => g_ext M M1 → g_ok M1 → g_InR r4 → ((r4 = 0 → Q 0 M1) ∧ (¬ r4 = 0 → g_Call d 115 [.ref a0, g_n v1, .ref (4 * 17 + 1)] M1 (g_qI fun r9 M6 => g_ext M1 M6 → g_ok M6 → g_InR r9 → ((r9 = 0 → g_Call d 115 [.ref a0, g_n v1, .ref (4 * 18 + 1)] M6 (g_qI fun r14 M11 => g_ext M6 M11 → g_ok M11 → g_InR r14 → ((r14 = 0 → g_Call d 115 [.ref a0, g_n v1, .ref (4 * 19 + 1)] M11 (g_qI fun r19 M16 => g_ext M11 M16 → g_ok M16 → g_InR r19 → ((r19 = 0 → g_Call d 115 [.ref a0, g_n v1, .ref (4 * 20 + 1)] M16 (g_qI fun r24 M21 => g_ext M16 M21 → g_ok M21 → g_InR r24 → ((r24 = 0 → g_Call d 115 [.ref a0, g_n v1, .ref (4 * 21 + 1)] M21 (g_qI fun r29 M26 => g_ext M21 M26 → g_ok M26 → g_InR r29 → ((r29 = 0 → g_Call d 115 [.ref a0, g_n v1, .ref (4 * 22 + 1)] M26 (g_qI fun r34 M31 => g_ext M26 M31 → g_ok M31 → g_InR r34 → ((r34 = 0 → g_Call d 115 [.ref a0, g_n v1, .ref (4 * 23 + 1)] M31 (g_qI fun r39 M36 => g_ext M31 M36 → g_ok M36 → g_InR r39 → ((r39 = 0 → g_Call d 115 [.ref a0, g_n v1, .ref (4 * 24 + 1)] M36 (g_qI fun r44 M41 => g_ext M36 M41 → g_ok M41 → g_InR r44 → ((r44 = 0 → g_Call d 115 [.ref a0, g_n v1, .ref (4 * 25 + 1)] M41 (g_qI fun r49 M46 => g_ext M41 M46 → g_ok M46 → g_InR r49 → ((r49 = 0 → g_Call d 115 [.ref a0, g_n v1, .ref (4 * 26 + 1)] M46 (g_qI fun r54 M51 => g_ext M46 M51 → g_ok M51 → g_InR r54 → ((r54 = 0 → g_Call d 115 [.ref a0, g_n v1, .ref (4 * 27 + 1)] M51 (g_qI fun r59 M56 => g_ext M51 M56 → g_ok M56 → g_InR r59 → ((r59 = 0 → g_Call d 115 [.ref a0, g_n v1, .ref (4 * 28 + 1)] M56 (g_qI fun r64 M61 => g_ext M56 M61 → g_ok M61 → g_InR r64 → ((r64 = 0 → Q 0 M61) ∧ (¬ r64 = 0 → Q 12 M61)))) ∧ (¬ r59 = 0 → Q 11 M56)))) ∧ (¬ r54 = 0 → Q 10 M51)))) ∧ (¬ r49 = 0 → Q 9 M46)))) ∧ (¬ r44 = 0 → Q 8 M41)))) ∧ (¬ r39 = 0 → Q 7 M36)))) ∧ (¬ r34 = 0 → Q 6 M31)))) ∧ (¬ r29 = 0 → Q 5 M26)))) ∧ (¬ r24 = 0 → Q 4 M21)))) ∧ (¬ r19 = 0 → Q 3 M16)))) ∧ (¬ r14 = 0 → Q 2 M11)))) ∧ (¬ r9 = 0 → Q 1 M6))))))) : g_Call (d + 1) 38 [.ref a0, g_n v1] M (g_qI Q) := by
  refine g_Call.ok fun hok0 => ?_
  replace h := h hok0
  refine r_body rfl (lv := [(0, .ref a0), (1, g_n v1)]) rfl ?_
  refine g_Run.ok fun hok => ?_
  refine r_aload_n x_38_0 rfl ?_
  refine r_iload_n x_38_1 rfl ?_
  refine r_invS x_38_2 (z := 116) (ns := 1) (by decide +kernel) (as := [.ref a0, g_n v1]) (r := []) rfl rfl rfl ?_
  refine r_callI h fun r4 M1 hx2 hok3 hr5 h => ?_
  replace h := h hx2 hok3 hr5
  refine r_if_ne x_38_5 (t := 12) (by decide +kernel) hr5 (fun hc => ?_) (fun hc => ?_)
  · replace h := h.2 hc
    refine r_aload_n x_38_12 rfl ?_
    refine r_iload_n x_38_13 rfl ?_
    refine r_ldc x_38_14 (v := .ref (4 * 17 + 1)) rfl ?_
    refine r_invS x_38_16 (z := 115) (ns := 1) (by decide +kernel) (as := [.ref a0, g_n v1, .ref (4 * 17 + 1)]) (r := []) rfl rfl rfl ?_
    refine r_callI h fun r9 M6 hx7 hok8 hr10 h => ?_
    replace h := h hx7 hok8 hr10
    refine r_if_eq x_38_19 (t := 26) (by decide +kernel) hr10 (fun hc => ?_) (fun hc => ?_)
    · replace h := h.1 hc
      refine r_aload_n x_38_26 rfl ?_
      refine r_iload_n x_38_27 rfl ?_
      refine r_ldc x_38_28 (v := .ref (4 * 18 + 1)) rfl ?_
      refine r_invS x_38_30 (z := 115) (ns := 1) (by decide +kernel) (as := [.ref a0, g_n v1, .ref (4 * 18 + 1)]) (r := []) rfl rfl rfl ?_
      refine r_callI h fun r14 M11 hx12 hok13 hr15 h => ?_
      replace h := h hx12 hok13 hr15
      refine r_if_eq x_38_33 (t := 40) (by decide +kernel) hr15 (fun hc => ?_) (fun hc => ?_)
      · replace h := h.1 hc
        refine r_aload_n x_38_40 rfl ?_
        refine r_iload_n x_38_41 rfl ?_
        refine r_ldc x_38_42 (v := .ref (4 * 19 + 1)) rfl ?_
        refine r_invS x_38_44 (z := 115) (ns := 1) (by decide +kernel) (as := [.ref a0, g_n v1, .ref (4 * 19 + 1)]) (r := []) rfl rfl rfl ?_
        refine r_callI h fun r19 M16 hx17 hok18 hr20 h => ?_
        replace h := h hx17 hok18 hr20
        refine r_if_eq x_38_47 (t := 54) (by decide +kernel) hr20 (fun hc => ?_) (fun hc => ?_)
        · replace h := h.1 hc
          refine r_aload_n x_38_54 rfl ?_
          refine r_iload_n x_38_55 rfl ?_
          refine r_ldc x_38_56 (v := .ref (4 * 20 + 1)) rfl ?_
          refine r_invS x_38_58 (z := 115) (ns := 1) (by decide +kernel) (as := [.ref a0, g_n v1, .ref (4 * 20 + 1)]) (r := []) rfl rfl rfl ?_
          refine r_callI h fun r24 M21 hx22 hok23 hr25 h => ?_
          replace h := h hx22 hok23 hr25
          refine r_if_eq x_38_61 (t := 68) (by decide +kernel) hr25 (fun hc => ?_) (fun hc => ?_)
          · replace h := h.1 hc
            refine r_aload_n x_38_68 rfl ?_
            refine r_iload_n x_38_69 rfl ?_
            refine r_ldc x_38_70 (v := .ref (4 * 21 + 1)) rfl ?_
            refine r_invS x_38_72 (z := 115) (ns := 1) (by decide +kernel) (as := [.ref a0, g_n v1, .ref (4 * 21 + 1)]) (r := []) rfl rfl rfl ?_
            refine r_callI h fun r29 M26 hx27 hok28 hr30 h => ?_
            replace h := h hx27 hok28 hr30
            refine r_if_eq x_38_75 (t := 82) (by decide +kernel) hr30 (fun hc => ?_) (fun hc => ?_)
            · replace h := h.1 hc
              refine r_aload_n x_38_82 rfl ?_
              refine r_iload_n x_38_83 rfl ?_
              refine r_ldc x_38_84 (v := .ref (4 * 22 + 1)) rfl ?_
              refine r_invS x_38_86 (z := 115) (ns := 1) (by decide +kernel) (as := [.ref a0, g_n v1, .ref (4 * 22 + 1)]) (r := []) rfl rfl rfl ?_
              refine r_callI h fun r34 M31 hx32 hok33 hr35 h => ?_
              replace h := h hx32 hok33 hr35
              refine r_if_eq x_38_89 (t := 97) (by decide +kernel) hr35 (fun hc => ?_) (fun hc => ?_)
              · replace h := h.1 hc
                refine r_aload_n x_38_97 rfl ?_
                refine r_iload_n x_38_98 rfl ?_
                refine r_ldc x_38_99 (v := .ref (4 * 23 + 1)) rfl ?_
                refine r_invS x_38_101 (z := 115) (ns := 1) (by decide +kernel) (as := [.ref a0, g_n v1, .ref (4 * 23 + 1)]) (r := []) rfl rfl rfl ?_
                refine r_callI h fun r39 M36 hx37 hok38 hr40 h => ?_
                replace h := h hx37 hok38 hr40
                refine r_if_eq x_38_104 (t := 112) (by decide +kernel) hr40 (fun hc => ?_) (fun hc => ?_)
                · replace h := h.1 hc
                  refine r_aload_n x_38_112 rfl ?_
                  refine r_iload_n x_38_113 rfl ?_
                  refine r_ldc x_38_114 (v := .ref (4 * 24 + 1)) rfl ?_
                  refine r_invS x_38_116 (z := 115) (ns := 1) (by decide +kernel) (as := [.ref a0, g_n v1, .ref (4 * 24 + 1)]) (r := []) rfl rfl rfl ?_
                  refine r_callI h fun r44 M41 hx42 hok43 hr45 h => ?_
                  replace h := h hx42 hok43 hr45
                  refine r_if_eq x_38_119 (t := 127) (by decide +kernel) hr45 (fun hc => ?_) (fun hc => ?_)
                  · replace h := h.1 hc
                    refine r_aload_n x_38_127 rfl ?_
                    refine r_iload_n x_38_128 rfl ?_
                    refine r_ldc x_38_129 (v := .ref (4 * 25 + 1)) rfl ?_
                    refine r_invS x_38_131 (z := 115) (ns := 1) (by decide +kernel) (as := [.ref a0, g_n v1, .ref (4 * 25 + 1)]) (r := []) rfl rfl rfl ?_
                    refine r_callI h fun r49 M46 hx47 hok48 hr50 h => ?_
                    replace h := h hx47 hok48 hr50
                    refine r_if_eq x_38_134 (t := 142) (by decide +kernel) hr50 (fun hc => ?_) (fun hc => ?_)
                    · replace h := h.1 hc
                      refine r_aload_n x_38_142 rfl ?_
                      refine r_iload_n x_38_143 rfl ?_
                      refine r_ldc x_38_144 (v := .ref (4 * 26 + 1)) rfl ?_
                      refine r_invS x_38_146 (z := 115) (ns := 1) (by decide +kernel) (as := [.ref a0, g_n v1, .ref (4 * 26 + 1)]) (r := []) rfl rfl rfl ?_
                      refine r_callI h fun r54 M51 hx52 hok53 hr55 h => ?_
                      replace h := h hx52 hok53 hr55
                      refine r_if_eq x_38_149 (t := 157) (by decide +kernel) hr55 (fun hc => ?_) (fun hc => ?_)
                      · replace h := h.1 hc
                        refine r_aload_n x_38_157 rfl ?_
                        refine r_iload_n x_38_158 rfl ?_
                        refine r_ldc x_38_159 (v := .ref (4 * 27 + 1)) rfl ?_
                        refine r_invS x_38_161 (z := 115) (ns := 1) (by decide +kernel) (as := [.ref a0, g_n v1, .ref (4 * 27 + 1)]) (r := []) rfl rfl rfl ?_
                        refine r_callI h fun r59 M56 hx57 hok58 hr60 h => ?_
                        replace h := h hx57 hok58 hr60
                        refine r_if_eq x_38_164 (t := 172) (by decide +kernel) hr60 (fun hc => ?_) (fun hc => ?_)
                        · replace h := h.1 hc
                          refine r_aload_n x_38_172 rfl ?_
                          refine r_iload_n x_38_173 rfl ?_
                          refine r_ldc x_38_174 (v := .ref (4 * 28 + 1)) rfl ?_
                          refine r_invS x_38_176 (z := 115) (ns := 1) (by decide +kernel) (as := [.ref a0, g_n v1, .ref (4 * 28 + 1)]) (r := []) rfl rfl rfl ?_
                          refine r_callI h fun r64 M61 hx62 hok63 hr65 h => ?_
                          replace h := h hx62 hok63 hr65
                          refine r_if_eq x_38_179 (t := 187) (by decide +kernel) hr65 (fun hc => ?_) (fun hc => ?_)
                          · replace h := h.1 hc
                            refine r_iconst x_38_187 ?_
                            exact r_retI x_38_188 rfl (g_Rk rfl) h
                          · replace h := h.2 hc
                            refine r_bipush x_38_182 (x := 12) rfl ?_
                            refine r_goto x_38_184 (t := 188) (by decide +kernel) ?_
                            exact r_retI x_38_188 rfl (g_Rk rfl) h
                        · replace h := h.2 hc
                          refine r_bipush x_38_167 (x := 11) rfl ?_
                          refine r_goto x_38_169 (t := 188) (by decide +kernel) ?_
                          exact r_retI x_38_188 rfl (g_Rk rfl) h
                      · replace h := h.2 hc
                        refine r_bipush x_38_152 (x := 10) rfl ?_
                        refine r_goto x_38_154 (t := 188) (by decide +kernel) ?_
                        exact r_retI x_38_188 rfl (g_Rk rfl) h
                    · replace h := h.2 hc
                      refine r_bipush x_38_137 (x := 9) rfl ?_
                      refine r_goto x_38_139 (t := 188) (by decide +kernel) ?_
                      exact r_retI x_38_188 rfl (g_Rk rfl) h
                  · replace h := h.2 hc
                    refine r_bipush x_38_122 (x := 8) rfl ?_
                    refine r_goto x_38_124 (t := 188) (by decide +kernel) ?_
                    exact r_retI x_38_188 rfl (g_Rk rfl) h
                · replace h := h.2 hc
                  refine r_bipush x_38_107 (x := 7) rfl ?_
                  refine r_goto x_38_109 (t := 188) (by decide +kernel) ?_
                  exact r_retI x_38_188 rfl (g_Rk rfl) h
              · replace h := h.2 hc
                refine r_bipush x_38_92 (x := 6) rfl ?_
                refine r_goto x_38_94 (t := 188) (by decide +kernel) ?_
                exact r_retI x_38_188 rfl (g_Rk rfl) h
            · replace h := h.2 hc
              refine r_iconst x_38_78 ?_
              refine r_goto x_38_79 (t := 188) (by decide +kernel) ?_
              exact r_retI x_38_188 rfl (g_Rk rfl) h
          · replace h := h.2 hc
            refine r_iconst x_38_64 ?_
            refine r_goto x_38_65 (t := 188) (by decide +kernel) ?_
            exact r_retI x_38_188 rfl (g_Rk rfl) h
        · replace h := h.2 hc
          refine r_iconst x_38_50 ?_
          refine r_goto x_38_51 (t := 188) (by decide +kernel) ?_
          exact r_retI x_38_188 rfl (g_Rk rfl) h
      · replace h := h.2 hc
        refine r_iconst x_38_36 ?_
        refine r_goto x_38_37 (t := 188) (by decide +kernel) ?_
        exact r_retI x_38_188 rfl (g_Rk rfl) h
    · replace h := h.2 hc
      refine r_iconst x_38_22 ?_
      refine r_goto x_38_23 (t := 188) (by decide +kernel) ?_
      exact r_retI x_38_188 rfl (g_Rk rfl) h
  · replace h := h.1 hc
    refine r_iconst x_38_8 ?_
    refine r_goto x_38_9 (t := 188) (by decide +kernel) ?_
    exact r_retI x_38_188 rfl (g_Rk rfl) h
theorem m_X2_isLogic {d : Nat} {M : g_M} {Q : Int → g_M → Prop} {a0 : Nat} {v1 : Int} (hv1 : g_InR v1) (h : g_ok M → g_Call d 115 [.ref a0, g_n v1, .ref (4 * 14 + 1)] M (g_qI fun r4 M1 => g_ext M M1 → g_ok M1 → g_InR r4 → ((r4 = 0 → g_Call d 115 [.ref a0, g_n v1, .ref (4 * 15 + 1)] M1 (g_qI fun r9 M6 => g_ext M1 M6 → g_ok M6 → g_InR r9 → ((r9 = 0 → g_Call d 115 [.ref a0, g_n v1, .ref (4 * 16 + 1)] M6 (g_qI fun r14 M11 => g_ext M6 M11 → g_ok M11 → g_InR r14 → ((r14 = 0 → Q 0 M11) ∧ (¬ r14 = 0 → Q 1 M11)))) ∧ (¬ r9 = 0 → Q 1 M6)))) ∧ (¬ r4 = 0 → Q 1 M1)))) : g_Call (d + 1) 39 [.ref a0, g_n v1] M (g_qI Q) := by
  refine g_Call.ok fun hok0 => ?_
  replace h := h hok0
  refine r_body rfl (lv := [(0, .ref a0), (1, g_n v1)]) rfl ?_
  refine g_Run.ok fun hok => ?_
  refine r_aload_n x_39_0 rfl ?_
  refine r_iload_n x_39_1 rfl ?_
  refine r_ldc x_39_2 (v := .ref (4 * 14 + 1)) rfl ?_
  refine r_invS x_39_4 (z := 115) (ns := 1) (by decide +kernel) (as := [.ref a0, g_n v1, .ref (4 * 14 + 1)]) (r := []) rfl rfl rfl ?_
  refine r_callI h fun r4 M1 hx2 hok3 hr5 h => ?_
  replace h := h hx2 hok3 hr5
  refine r_if_ne x_39_7 (t := 30) (by decide +kernel) hr5 (fun hc => ?_) (fun hc => ?_)
  · replace h := h.2 hc
    refine r_iconst x_39_30 ?_
    refine r_goto x_39_31 (t := 35) (by decide +kernel) ?_
    exact r_retZ x_39_35 rfl (Or.inr rfl) h
  · replace h := h.1 hc
    refine r_aload_n x_39_10 rfl ?_
    refine r_iload_n x_39_11 rfl ?_
    refine r_ldc x_39_12 (v := .ref (4 * 15 + 1)) rfl ?_
    refine r_invS x_39_14 (z := 115) (ns := 1) (by decide +kernel) (as := [.ref a0, g_n v1, .ref (4 * 15 + 1)]) (r := []) rfl rfl rfl ?_
    refine r_callI h fun r9 M6 hx7 hok8 hr10 h => ?_
    replace h := h hx7 hok8 hr10
    refine r_if_ne x_39_17 (t := 30) (by decide +kernel) hr10 (fun hc => ?_) (fun hc => ?_)
    · replace h := h.2 hc
      refine r_iconst x_39_30 ?_
      refine r_goto x_39_31 (t := 35) (by decide +kernel) ?_
      exact r_retZ x_39_35 rfl (Or.inr rfl) h
    · replace h := h.1 hc
      refine r_aload_n x_39_20 rfl ?_
      refine r_iload_n x_39_21 rfl ?_
      refine r_ldc x_39_22 (v := .ref (4 * 16 + 1)) rfl ?_
      refine r_invS x_39_24 (z := 115) (ns := 1) (by decide +kernel) (as := [.ref a0, g_n v1, .ref (4 * 16 + 1)]) (r := []) rfl rfl rfl ?_
      refine r_callI h fun r14 M11 hx12 hok13 hr15 h => ?_
      replace h := h hx12 hok13 hr15
      refine r_if_eq x_39_27 (t := 34) (by decide +kernel) hr15 (fun hc => ?_) (fun hc => ?_)
      · replace h := h.1 hc
        refine r_iconst x_39_34 ?_
        exact r_retZ x_39_35 rfl (Or.inl rfl) h
      · replace h := h.2 hc
        refine r_iconst x_39_30 ?_
        refine r_goto x_39_31 (t := 35) (by decide +kernel) ?_
        exact r_retZ x_39_35 rfl (Or.inr rfl) h
theorem m_X2_isConditions {d : Nat} {M : g_M} {Q : Int → g_M → Prop} {a0 : Nat} {v1 : Int} (hv1 : g_InR v1) (h : g_ok M → g_Call d 108 [.ref a0, g_n v1] M (g_qI fun r4 M1 => g_ext M M1 → g_ok M1 → g_InR r4 → ((r4 = 3 → g_Call d 112 [.ref a0, g_n v1] M1 (g_qI fun r9 M6 => g_ext M1 M6 → g_ok M6 → g_InR r9 → g_Call d 108 [.ref a0, g_n r9] M6 (g_qI fun r14 M11 => g_ext M6 M11 → g_ok M11 → g_InR r14 → ((r14 = 0 → Q 0 M11) ∧ (¬ r14 = 0 → g_Call d 116 [.ref a0, g_n r9] M11 (g_qI fun r19 M16 => g_ext M11 M16 → g_ok M16 → g_InR r19 → ((r19 = 0 → Q 0 M16) ∧ (¬ r19 = 0 → Q 1 M16)))))))) ∧ (¬ r4 = 3 → Q 0 M1)))) : g_Call (d + 1) 40 [.ref a0, g_n v1] M (g_qI Q) := by
  refine g_Call.ok fun hok0 => ?_
  replace h := h hok0
  refine r_body rfl (lv := [(0, .ref a0), (1, g_n v1)]) rfl ?_
  refine g_Run.ok fun hok => ?_
  refine r_aload_n x_40_0 rfl ?_
  refine r_iload_n x_40_1 rfl ?_
  refine r_invS x_40_2 (z := 108) (ns := 1) (by decide +kernel) (as := [.ref a0, g_n v1]) (r := []) rfl rfl rfl ?_
  refine r_callI h fun r4 M1 hx2 hok3 hr5 h => ?_
  replace h := h hx2 hok3 hr5
  refine r_iconst x_40_5 ?_
  refine r_ic_eq x_40_6 (t := 11) (by decide +kernel) hr5 (g_Rk rfl) (fun hc => ?_) (fun hc => ?_)
  · replace h := h.1 hc
    refine r_aload_n x_40_11 rfl ?_
    refine r_iload_n x_40_12 rfl ?_
    refine r_invS x_40_13 (z := 112) (ns := 1) (by decide +kernel) (as := [.ref a0, g_n v1]) (r := []) rfl rfl rfl ?_
    refine r_callI h fun r9 M6 hx7 hok8 hr10 h => ?_
    replace h := h hx7 hok8 hr10
    refine r_istore_n x_40_16 (by decide +kernel) rfl (lv1 := [(0, .ref a0), (1, g_n v1), (2, g_n r9)]) rfl ?_
    refine r_aload_n x_40_17 rfl ?_
    refine r_iload_n x_40_18 rfl ?_
    refine r_invS x_40_19 (z := 108) (ns := 1) (by decide +kernel) (as := [.ref a0, g_n r9]) (r := []) rfl rfl rfl ?_
    refine r_callI h fun r14 M11 hx12 hok13 hr15 h => ?_
    replace h := h hx12 hok13 hr15
    refine r_if_eq x_40_22 (t := 37) (by decide +kernel) hr15 (fun hc => ?_) (fun hc => ?_)
    · replace h := h.1 hc
      refine r_iconst x_40_37 ?_
      exact r_retZ x_40_38 rfl (Or.inl rfl) h
    · replace h := h.2 hc
      refine r_aload_n x_40_25 rfl ?_
      refine r_iload_n x_40_26 rfl ?_
      refine r_invS x_40_27 (z := 116) (ns := 1) (by decide +kernel) (as := [.ref a0, g_n r9]) (r := []) rfl rfl rfl ?_
      refine r_callI h fun r19 M16 hx17 hok18 hr20 h => ?_
      replace h := h hx17 hok18 hr20
      refine r_if_eq x_40_30 (t := 37) (by decide +kernel) hr20 (fun hc => ?_) (fun hc => ?_)
      · replace h := h.1 hc
        refine r_iconst x_40_37 ?_
        exact r_retZ x_40_38 rfl (Or.inl rfl) h
      · replace h := h.2 hc
        refine r_iconst x_40_33 ?_
        refine r_goto x_40_34 (t := 38) (by decide +kernel) ?_
        exact r_retZ x_40_38 rfl (Or.inr rfl) h
  · replace h := h.2 hc
    refine r_iconst x_40_9 ?_
    exact r_retZ x_40_10 rfl (Or.inl rfl) h
theorem m_X2_isConditionsOfItem {d : Nat} {M : g_M} {Q : Int → g_M → Prop} {a0 : Nat} {v1 : Int} (hv1 : g_InR v1) (h : g_ok M → g_Call d 40 [.ref a0, g_n v1] M (g_qI fun r4 M1 => g_ext M M1 → g_ok M1 → g_InR r4 → ((r4 = 0 → Q 0 M1) ∧ (¬ r4 = 0 → g_Call d 112 [.ref a0, g_n v1] M1 (g_qI fun r9 M6 => g_ext M1 M6 → g_ok M6 → g_InR r9 → g_Call d 39 [.ref a0, g_n r9] M6 (g_qI fun r14 M11 => g_ext M6 M11 → g_ok M11 → g_InR r14 → ((r14 = 0 → Q 1 M11) ∧ (¬ r14 = 0 → Q 0 M11)))))))) : g_Call (d + 1) 41 [.ref a0, g_n v1] M (g_qI Q) := by
  refine g_Call.ok fun hok0 => ?_
  replace h := h hok0
  refine r_body rfl (lv := [(0, .ref a0), (1, g_n v1)]) rfl ?_
  refine g_Run.ok fun hok => ?_
  refine r_aload_n x_41_0 rfl ?_
  refine r_iload_n x_41_1 rfl ?_
  refine r_invS x_41_2 (z := 40) (ns := 0) (by decide +kernel) (as := [.ref a0, g_n v1]) (r := []) rfl rfl rfl ?_
  refine r_callI h fun r4 M1 hx2 hok3 hr5 h => ?_
  replace h := h hx2 hok3 hr5
  refine r_if_eq x_41_5 (t := 24) (by decide +kernel) hr5 (fun hc => ?_) (fun hc => ?_)
  · replace h := h.1 hc
    refine r_iconst x_41_24 ?_
    exact r_retZ x_41_25 rfl (Or.inl rfl) h
  · replace h := h.2 hc
    refine r_aload_n x_41_8 rfl ?_
    refine r_aload_n x_41_9 rfl ?_
    refine r_iload_n x_41_10 rfl ?_
    refine r_invS x_41_11 (z := 112) (ns := 1) (by decide +kernel) (as := [.ref a0, g_n v1]) (r := [.ref a0]) rfl rfl rfl ?_
    refine r_callI h fun r9 M6 hx7 hok8 hr10 h => ?_
    replace h := h hx7 hok8 hr10
    refine r_invS x_41_14 (z := 39) (ns := 0) (by decide +kernel) (as := [.ref a0, g_n r9]) (r := []) rfl rfl rfl ?_
    refine r_callI h fun r14 M11 hx12 hok13 hr15 h => ?_
    replace h := h hx12 hok13 hr15
    refine r_if_ne x_41_17 (t := 24) (by decide +kernel) hr15 (fun hc => ?_) (fun hc => ?_)
    · replace h := h.2 hc
      refine r_iconst x_41_24 ?_
      exact r_retZ x_41_25 rfl (Or.inl rfl) h
    · replace h := h.1 hc
      refine r_iconst x_41_20 ?_
      refine r_goto x_41_21 (t := 25) (by decide +kernel) ?_
      exact r_retZ x_41_25 rfl (Or.inr rfl) h
theorem m_X2_isRight {d : Nat} {M : g_M} {Q : Int → g_M → Prop} {a0 : Nat} {v1 : Int} (hv1 : g_InR v1) (h : g_ok M → g_O M a0 2 ∧ (∀ M2, M2 = g_wi M a0 3 0 → g_ok M2 → (∀ M6, M6 = g_wi M2 a0 4 0 → g_ok M6 → g_Call d 45 [.ref a0, g_n v1, g_n 0] M6 (g_qI fun r13 M10 => g_ext M6 M10 → g_ok M10 → g_InR r13 → (r13 = 0 ∨ r13 = 1) ∧ Q r13 M10)))) : g_Call (d + 1) 42 [.ref a0, g_n v1] M (g_qI Q) := by
  refine g_Call.ok fun hok0 => ?_
  replace h := h hok0
  refine r_body rfl (lv := [(0, .ref a0), (1, g_n v1)]) rfl ?_
  refine g_Run.ok fun hok => ?_
  refine r_aload_n x_42_0 rfl ?_
  refine r_iconst x_42_1 ?_
  obtain ⟨hO1, h⟩ := h
  refine r_putI x_42_2 (ci := 2) (k := 3) (ns := 0) (by decide +kernel) (by decide) (g_f0 (by decide +kernel)) rfl (g_Rk rfl) trivial (kz := 3) rfl hO1 ?_
  obtain ⟨M2, hM3⟩ : ∃ Mz, Mz = g_wi M a0 3 0 := ⟨_, rfl⟩
  rw [← hM3]
  refine g_Run.ok fun hok4 => ?_
  replace h := h M2 hM3 hok4
  have hx5 := g_extW hM3
  replace hO1 := hO1.up hx5
  refine r_aload_n x_42_5 rfl ?_
  refine r_iconst x_42_6 ?_
  refine r_putI x_42_7 (ci := 2) (k := 4) (ns := 0) (by decide +kernel) (by decide) (g_f0 (by decide +kernel)) rfl (g_Rk rfl) trivial (kz := 4) rfl hO1 ?_
  obtain ⟨M6, hM7⟩ : ∃ Mz, Mz = g_wi M2 a0 4 0 := ⟨_, rfl⟩
  rw [← hM7]
  refine g_Run.ok fun hok8 => ?_
  replace h := h M6 hM7 hok8
  have hx9 := g_extW hM7
  replace hO1 := hO1.up hx9
  refine r_aload_n x_42_10 rfl ?_
  refine r_iload_n x_42_11 rfl ?_
  refine r_iconst x_42_12 ?_
  refine r_invV x_42_13 (z := 45) (ns := 0) (by decide +kernel) (as := [g_n v1, g_n 0]) (r := []) rfl rfl rfl hO1 rfl rfl ?_
  refine r_callI h fun r13 M10 hx11 hok12 hr14 h => ?_
  replace h := h hx11 hok12 hr14
  replace hO1 := hO1.up hx11
  obtain ⟨hz, h⟩ := h
  exact r_retZ x_42_16 rfl hz h
theorem m_X2_fails {d : Nat} {M : g_M} {Q : Int → g_M → Prop} {a0 : Nat} {v1 : Int} (hv1 : g_InR v1) {v2 : Int} (hv2 : g_InR v2) (h : g_ok M → g_O M a0 2 ∧ (∀ M2, M2 = g_wi M a0 4 v1 → g_ok M2 → (∀ M6, M6 = g_wi M2 a0 5 v2 → g_ok M6 → Q 0 M6))) : g_Call (d + 1) 43 [.ref a0, g_n v1, g_n v2] M (g_qI Q) := by
  refine g_Call.ok fun hok0 => ?_
  replace h := h hok0
  refine r_body rfl (lv := [(0, .ref a0), (1, g_n v1), (2, g_n v2)]) rfl ?_
  refine g_Run.ok fun hok => ?_
  refine r_aload_n x_43_0 rfl ?_
  refine r_iload_n x_43_1 rfl ?_
  obtain ⟨hO1, h⟩ := h
  refine r_putI x_43_2 (ci := 2) (k := 4) (ns := 0) (by decide +kernel) (by decide) (g_f0 (by decide +kernel)) rfl hv1 trivial (kz := 4) rfl hO1 ?_
  obtain ⟨M2, hM3⟩ : ∃ Mz, Mz = g_wi M a0 4 v1 := ⟨_, rfl⟩
  rw [← hM3]
  refine g_Run.ok fun hok4 => ?_
  replace h := h M2 hM3 hok4
  have hx5 := g_extW hM3
  replace hO1 := hO1.up hx5
  refine r_aload_n x_43_5 rfl ?_
  refine r_iload_n x_43_6 rfl ?_
  refine r_putI x_43_7 (ci := 2) (k := 5) (ns := 0) (by decide +kernel) (by decide) (g_f0 (by decide +kernel)) rfl hv2 trivial (kz := 5) rfl hO1 ?_
  obtain ⟨M6, hM7⟩ : ∃ Mz, Mz = g_wi M2 a0 5 v2 := ⟨_, rfl⟩
  rw [← hM7]
  refine g_Run.ok fun hok8 => ?_
  replace h := h M6 hM7 hok8
  have hx9 := g_extW hM7
  replace hO1 := hO1.up hx9
  refine r_iconst x_43_10 ?_
  exact r_retZ x_43_11 rfl (Or.inl rfl) h
theorem m_X2_counts {d : Nat} {M : g_M} {Q : Int → g_M → Prop} {a0 : Nat} {v1 : Int} (hv1 : g_InR v1) {v2 : Int} (hv2 : g_InR v2) (h : g_ok M → g_O M a0 2 ∧ g_InR ((g_i M a0 3) + v1) ∧ (∀ M3, M3 = g_wi M a0 3 ((g_i M a0 3) + v1) → g_ok M3 → ((100 < g_i M3 a0 3 → g_Call d 43 [.ref a0, g_n 5, g_n v2] M3 (g_qI fun r10 M7 => g_ext M3 M7 → g_ok M7 → g_InR r10 → ((r10 = 0 → Q 0 M7) ∧ (¬ r10 = 0 → Q 1 M7)))) ∧ (¬ 100 < g_i M3 a0 3 → Q 1 M3)))) : g_Call (d + 1) 44 [.ref a0, g_n v1, g_n v2] M (g_qI Q) := by
  refine g_Call.ok fun hok0 => ?_
  replace h := h hok0
  refine r_body rfl (lv := [(0, .ref a0), (1, g_n v1), (2, g_n v2)]) rfl ?_
  refine g_Run.ok fun hok => ?_
  refine r_aload_n x_44_0 rfl ?_
  refine r_dup x_44_1 rfl ?_
  obtain ⟨hO1, h⟩ := h
  refine r_getI x_44_2 rfl (ci := 2) (k := 3) (ns := 0) (by decide +kernel) (by decide) rfl (kz := 3) rfl hO1 ?_
  refine r_iload_n x_44_5 rfl ?_
  refine r_iadd x_44_6 ?_
  obtain ⟨h2, h⟩ := h
  refine r_putI x_44_7 (ci := 2) (k := 3) (ns := 0) (by decide +kernel) (by decide) (g_f0 (by decide +kernel)) rfl h2 trivial (kz := 3) rfl hO1 ?_
  obtain ⟨M3, hM4⟩ : ∃ Mz, Mz = g_wi M a0 3 ((g_i M a0 3) + v1) := ⟨_, rfl⟩
  rw [← hM4]
  refine g_Run.ok fun hok5 => ?_
  replace h := h M3 hM4 hok5
  have hx6 := g_extW hM4
  replace hO1 := hO1.up hx6
  refine r_aload_n x_44_10 rfl ?_
  refine r_getI x_44_11 rfl (ci := 2) (k := 3) (ns := 0) (by decide +kernel) (by decide) rfl (kz := 3) rfl hO1 ?_
  refine r_bipush x_44_14 (x := 100) rfl ?_
  refine r_ic_le x_44_16 (t := 28) (by decide +kernel) (hok5.1 _ _) (g_Rk rfl) (fun hc => ?_) (fun hc => ?_)
  · replace h := h.2 hc
    refine r_iconst x_44_28 ?_
    refine r_goto x_44_29 (t := 33) (by decide +kernel) ?_
    exact r_retZ x_44_33 rfl (Or.inr rfl) h
  · replace h := h.1 hc
    refine r_aload_n x_44_19 rfl ?_
    refine r_iconst x_44_20 ?_
    refine r_iload_n x_44_21 rfl ?_
    refine r_invV x_44_22 (z := 43) (ns := 0) (by decide +kernel) (as := [g_n 5, g_n v2]) (r := []) rfl rfl rfl hO1 rfl rfl ?_
    refine r_callI h fun r10 M7 hx8 hok9 hr11 h => ?_
    replace h := h hx8 hok9 hr11
    replace hO1 := hO1.up hx8
    refine r_if_eq x_44_25 (t := 32) (by decide +kernel) hr11 (fun hc => ?_) (fun hc => ?_)
    · replace h := h.1 hc
      refine r_iconst x_44_32 ?_
      exact r_retZ x_44_33 rfl (Or.inl rfl) h
    · replace h := h.2 hc
      refine r_iconst x_44_28 ?_
      refine r_goto x_44_29 (t := 33) (by decide +kernel) ?_
      exact r_retZ x_44_33 rfl (Or.inr rfl) h
theorem m_X2_filterIsRight {d : Nat} {M : g_M} {Q : Int → g_M → Prop} {a0 : Nat} {v1 : Int} (hv1 : g_InR v1) {v2 : Int} (hv2 : g_InR v2) (h : g_ok M → g_O M a0 2 ∧ ∃ b2, g_r M a0 1 = some b2 ∧ g_Call d 112 [.ref b2, g_n v1] M (g_qI fun r7 M4 => g_ext M M4 → g_ok M4 → g_InR r7 → g_Run d 45 12 [(0, .ref a0), (1, g_n v1), (2, g_n v2), (3, g_n r7), (4, g_n 0)] [] M4 (g_qI Q))) : g_Call (d + 1) 45 [.ref a0, g_n v1, g_n v2] M (g_qI Q) := by
  refine g_Call.ok fun hok0 => ?_
  replace h := h hok0
  refine r_body rfl (lv := [(0, .ref a0), (1, g_n v1), (2, g_n v2)]) rfl ?_
  refine g_Run.ok fun hok => ?_
  refine r_aload_n x_45_0 rfl ?_
  obtain ⟨hO1, h⟩ := h
  obtain ⟨b2, hb3, h⟩ := h
  refine r_getR x_45_1 rfl (ci := 2) (k := 1) (ns := 0) (by decide +kernel) (by decide) rfl (kz := 1) rfl hO1 hb3 ?_
  refine r_iload_n x_45_4 rfl ?_
  refine r_invS x_45_5 (z := 112) (ns := 1) (by decide +kernel) (as := [.ref b2, g_n v1]) (r := []) rfl rfl rfl ?_
  refine r_callI h fun r7 M4 hx5 hok6 hr8 h => ?_
  replace h := h hx5 hok6 hr8
  replace hO1 := hO1.up hx5
  refine r_istore_n x_45_8 (by decide +kernel) rfl (lv1 := [(0, .ref a0), (1, g_n v1), (2, g_n v2), (3, g_n r7)]) rfl ?_
  refine r_iconst x_45_9 ?_
  refine r_istore x_45_10 (by decide +kernel) rfl (lv1 := [(0, .ref a0), (1, g_n v1), (2, g_n v2), (3, g_n r7), (4, g_n 0)]) rfl ?_
  exact h
theorem s_X2_filterIsRight_12 {d : Nat} {M : g_M} {Q : Int → g_M → Prop} {a0 : Nat} {v1 : Int} (hv1 : g_InR v1) {v2 : Int} (hv2 : g_InR v2) {v3 : Int} (hv3 : g_InR v3) {v4 : Int} (hv4 : g_InR v4) (h : g_ok M → ((v4 < 2000 → g_O M a0 2 ∧ ∃ b2, g_r M a0 1 = some b2 ∧ g_Call d 108 [.ref b2, g_n v3] M (g_qI fun r7 M4 => g_ext M M4 → g_ok M4 → g_InR r7 → ((r7 = 0 → Q 1 M4) ∧ (¬ r7 = 0 → ((60 < v2 → Q 0 M4) ∧ (¬ 60 < v2 → g_InR (v2 + 1) ∧ g_Call d 46 [.ref a0, g_n v3, g_n (v2 + 1)] M4 (g_qI fun r13 M10 => g_ext M4 M10 → g_ok M10 → g_InR r13 → ((r13 = 0 → Q 0 M10) ∧ (¬ r13 = 0 → ∃ b15, g_r M10 a0 1 = some b15 ∧ g_Call d 111 [.ref b15, g_n v3] M10 (g_qI fun r20 M17 => g_ext M10 M17 → g_ok M17 → g_InR r20 → g_InR (v4 + 1) ∧ g_Run d 45 12 [(0, .ref a0), (1, g_n v1), (2, g_n v2), (3, g_n r20), (4, g_n (v4 + 1))] [] M17 (g_qI Q))))))))))) ∧ (¬ v4 < 2000 → Q 1 M))) : g_Run d 45 12 [(0, .ref a0), (1, g_n v1), (2, g_n v2), (3, g_n v3), (4, g_n v4)] [] M (g_qI Q) := by
  refine g_Run.ok fun hok => ?_
  replace h := h hok
  refine r_iload x_45_12 rfl ?_
  refine r_sipush x_45_14 (x := 2000) rfl ?_
  refine r_ic_ge x_45_17 (t := 65) (by decide +kernel) hv4 (g_Rk rfl) (fun hc => ?_) (fun hc => ?_)
  · replace h := h.2 hc
    refine r_iconst x_45_65 ?_
    exact r_retZ x_45_66 rfl (Or.inr rfl) h
  · replace h := h.1 hc
    refine r_aload_n x_45_20 rfl ?_
    obtain ⟨hO1, h⟩ := h
    obtain ⟨b2, hb3, h⟩ := h
    refine r_getR x_45_21 rfl (ci := 2) (k := 1) (ns := 0) (by decide +kernel) (by decide) rfl (kz := 1) rfl hO1 hb3 ?_
    refine r_iload_n x_45_24 rfl ?_
    refine r_invS x_45_25 (z := 108) (ns := 1) (by decide +kernel) (as := [.ref b2, g_n v3]) (r := []) rfl rfl rfl ?_
    refine r_callI h fun r7 M4 hx5 hok6 hr8 h => ?_
    replace h := h hx5 hok6 hr8
    replace hO1 := hO1.up hx5
    refine r_if_eq x_45_28 (t := 65) (by decide +kernel) hr8 (fun hc => ?_) (fun hc => ?_)
    · replace h := h.1 hc
      refine r_iconst x_45_65 ?_
      exact r_retZ x_45_66 rfl (Or.inr rfl) h
    · replace h := h.2 hc
      refine r_iload_n x_45_31 rfl ?_
      refine r_bipush x_45_32 (x := 60) rfl ?_
      refine r_ic_gt x_45_34 (t := 48) (by decide +kernel) hv2 (g_Rk rfl) (fun hc => ?_) (fun hc => ?_)
      · replace h := h.1 hc
        refine r_iconst x_45_48 ?_
        exact r_retZ x_45_49 rfl (Or.inl rfl) h
      · replace h := h.2 hc
        refine r_aload_n x_45_37 rfl ?_
        refine r_iload_n x_45_38 rfl ?_
        refine r_iload_n x_45_39 rfl ?_
        refine r_iconst x_45_40 ?_
        refine r_iadd x_45_41 ?_
        obtain ⟨h9, h⟩ := h
        refine r_invV x_45_42 (z := 46) (ns := 0) (by decide +kernel) (as := [g_n v3, g_n (v2 + 1)]) (r := []) rfl rfl rfl hO1 rfl rfl ?_
        refine r_callI h fun r13 M10 hx11 hok12 hr14 h => ?_
        replace h := h hx11 hok12 hr14
        replace hO1 := hO1.up hx11
        refine r_if_ne x_45_45 (t := 50) (by decide +kernel) hr14 (fun hc => ?_) (fun hc => ?_)
        · replace h := h.2 hc
          refine r_aload_n x_45_50 rfl ?_
          obtain ⟨b15, hb16, h⟩ := h
          refine r_getR x_45_51 rfl (ci := 2) (k := 1) (ns := 0) (by decide +kernel) (by decide) rfl (kz := 1) rfl hO1 hb16 ?_
          refine r_iload_n x_45_54 rfl ?_
          refine r_invS x_45_55 (z := 111) (ns := 1) (by decide +kernel) (as := [.ref b15, g_n v3]) (r := []) rfl rfl rfl ?_
          refine r_callI h fun r20 M17 hx18 hok19 hr21 h => ?_
          replace h := h hx18 hok19 hr21
          replace hO1 := hO1.up hx18
          refine r_istore_n x_45_58 (by decide +kernel) rfl (lv1 := [(0, .ref a0), (1, g_n v1), (2, g_n v2), (3, g_n r20), (4, g_n v4)]) rfl ?_
          obtain ⟨h22, h⟩ := h
          refine r_iinc x_45_59 (by decide +kernel) rfl rfl (lv1 := [(0, .ref a0), (1, g_n v1), (2, g_n v2), (3, g_n r20), (4, g_n (v4 + 1))]) rfl ?_
          refine r_goto x_45_62 (t := 12) (by decide +kernel) ?_
          exact h
        · replace h := h.1 hc
          refine r_iconst x_45_48 ?_
          exact r_retZ x_45_49 rfl (Or.inl rfl) h
theorem m_X2_elementIsRight {d : Nat} {M : g_M} {Q : Int → g_M → Prop} {a0 : Nat} {v1 : Int} (hv1 : g_InR v1) {v2 : Int} (hv2 : g_InR v2) (h : g_ok M → g_O M a0 2 ∧ ∃ b2, g_r M a0 1 = some b2 ∧ g_Call d 116 [.ref b2, g_n v1] M (g_qI fun r7 M4 => g_ext M M4 → g_ok M4 → g_InR r7 → ((r7 = 0 → ∃ b9, g_r M4 a0 2 = some b9 ∧ ∃ b11, g_r M4 a0 1 = some b11 ∧ g_O M4 b9 5 ∧ g_Call d 91 [.ref b9, .ref b11, g_n v1] M4 (g_qI fun r17 M14 => g_ext M4 M14 → g_ok M14 → g_InR r17 → ((r17 = 0 → g_Call d 43 [.ref a0, g_n 3, g_n v1] M14 (g_qI fun r22 M19 => g_ext M14 M19 → g_ok M19 → g_InR r22 → (r22 = 0 ∨ r22 = 1) ∧ Q r22 M19)) ∧ (¬ r17 = 0 → ∃ b24, g_r M14 a0 2 = some b24 ∧ g_O M14 b24 5 ∧ ((g_i M14 b24 4 = 0 → ∃ b27, g_r M14 a0 1 = some b27 ∧ g_Call d 40 [.ref b27, g_n v1] M14 (g_qI fun r32 M29 => g_ext M14 M29 → g_ok M29 → g_InR r32 → ((r32 = 0 → g_Call d 44 [.ref a0, g_n 2, g_n v1] M29 (g_qI fun r37 M34 => g_ext M29 M34 → g_ok M34 → g_InR r37 → (r37 = 0 ∨ r37 = 1) ∧ Q r37 M34)) ∧ (¬ r32 = 0 → g_Call d 44 [.ref a0, g_n 1, g_n v1] M29 (g_qI fun r42 M39 => g_ext M29 M39 → g_ok M39 → g_InR r42 → ((r42 = 0 → Q 0 M39) ∧ (¬ r42 = 0 → g_Call d 48 [.ref a0, g_n v1, g_n v2] M39 (g_qI fun r47 M44 => g_ext M39 M44 → g_ok M44 → g_InR r47 → ((r47 = 0 → Q 0 M44) ∧ (¬ r47 = 0 → Q 1 M44)))))))))) ∧ (¬ g_i M14 b24 4 = 0 → g_Call d 43 [.ref a0, g_n 3, g_n v1] M14 (g_qI fun r52 M49 => g_ext M14 M49 → g_ok M49 → g_InR r52 → (r52 = 0 ∨ r52 = 1) ∧ Q r52 M49))))))) ∧ (¬ r7 = 0 → g_Call d 47 [.ref a0, g_n v1, g_n v2] M4 (g_qI fun r57 M54 => g_ext M4 M54 → g_ok M54 → g_InR r57 → (r57 = 0 ∨ r57 = 1) ∧ Q r57 M54))))) : g_Call (d + 1) 46 [.ref a0, g_n v1, g_n v2] M (g_qI Q) := by
  refine g_Call.ok fun hok0 => ?_
  replace h := h hok0
  refine r_body rfl (lv := [(0, .ref a0), (1, g_n v1), (2, g_n v2)]) rfl ?_
  refine g_Run.ok fun hok => ?_
  refine r_aload_n x_46_0 rfl ?_
  obtain ⟨hO1, h⟩ := h
  obtain ⟨b2, hb3, h⟩ := h
  refine r_getR x_46_1 rfl (ci := 2) (k := 1) (ns := 0) (by decide +kernel) (by decide) rfl (kz := 1) rfl hO1 hb3 ?_
  refine r_iload_n x_46_4 rfl ?_
  refine r_invS x_46_5 (z := 116) (ns := 1) (by decide +kernel) (as := [.ref b2, g_n v1]) (r := []) rfl rfl rfl ?_
  refine r_callI h fun r7 M4 hx5 hok6 hr8 h => ?_
  replace h := h hx5 hok6 hr8
  replace hO1 := hO1.up hx5
  refine r_if_eq x_46_8 (t := 18) (by decide +kernel) hr8 (fun hc => ?_) (fun hc => ?_)
  · replace h := h.1 hc
    refine r_aload_n x_46_18 rfl ?_
    obtain ⟨b9, hb10, h⟩ := h
    refine r_getR x_46_19 rfl (ci := 2) (k := 2) (ns := 0) (by decide +kernel) (by decide) rfl (kz := 2) rfl hO1 hb10 ?_
    refine r_aload_n x_46_22 rfl ?_
    obtain ⟨b11, hb12, h⟩ := h
    refine r_getR x_46_23 rfl (ci := 2) (k := 1) (ns := 0) (by decide +kernel) (by decide) rfl (kz := 1) rfl hO1 hb12 ?_
    refine r_iload_n x_46_26 rfl ?_
    obtain ⟨hO13, h⟩ := h
    refine r_invV x_46_27 (z := 91) (ns := 1) (by decide +kernel) (as := [.ref b11, g_n v1]) (r := []) rfl rfl rfl hO13 rfl rfl ?_
    refine r_callI h fun r17 M14 hx15 hok16 hr18 h => ?_
    replace h := h hx15 hok16 hr18
    replace hO1 := hO1.up hx15
    replace hO13 := hO13.up hx15
    refine r_if_eq x_46_30 (t := 43) (by decide +kernel) hr18 (fun hc => ?_) (fun hc => ?_)
    · replace h := h.1 hc
      refine r_aload_n x_46_43 rfl ?_
      refine r_iconst x_46_44 ?_
      refine r_iload_n x_46_45 rfl ?_
      refine r_invV x_46_46 (z := 43) (ns := 0) (by decide +kernel) (as := [g_n 3, g_n v1]) (r := []) rfl rfl rfl hO1 rfl rfl ?_
      refine r_callI h fun r22 M19 hx20 hok21 hr23 h => ?_
      replace h := h hx20 hok21 hr23
      replace hO1 := hO1.up hx20
      replace hO13 := hO13.up hx20
      obtain ⟨hz, h⟩ := h
      exact r_retZ x_46_49 rfl hz h
    · replace h := h.2 hc
      refine r_aload_n x_46_33 rfl ?_
      obtain ⟨b24, hb25, h⟩ := h
      refine r_getR x_46_34 rfl (ci := 2) (k := 2) (ns := 0) (by decide +kernel) (by decide) rfl (kz := 2) rfl hO1 hb25 ?_
      obtain ⟨hO26, h⟩ := h
      refine r_getI x_46_37 rfl (ci := 5) (k := 4) (ns := 1) (by decide +kernel) (by decide) rfl (kz := 4) rfl hO26 ?_
      refine r_if_eq x_46_40 (t := 50) (by decide +kernel) (hok16.1 _ _) (fun hc => ?_) (fun hc => ?_)
      · replace h := h.1 hc
        refine r_aload_n x_46_50 rfl ?_
        obtain ⟨b27, hb28, h⟩ := h
        refine r_getR x_46_51 rfl (ci := 2) (k := 1) (ns := 0) (by decide +kernel) (by decide) rfl (kz := 1) rfl hO1 hb28 ?_
        refine r_iload_n x_46_54 rfl ?_
        refine r_invS x_46_55 (z := 40) (ns := 0) (by decide +kernel) (as := [.ref b27, g_n v1]) (r := []) rfl rfl rfl ?_
        refine r_callI h fun r32 M29 hx30 hok31 hr33 h => ?_
        replace h := h hx30 hok31 hr33
        replace hO1 := hO1.up hx30
        replace hO13 := hO13.up hx30
        replace hO26 := hO26.up hx30
        refine r_if_eq x_46_58 (t := 85) (by decide +kernel) hr33 (fun hc => ?_) (fun hc => ?_)
        · replace h := h.1 hc
          refine r_aload_n x_46_85 rfl ?_
          refine r_iconst x_46_86 ?_
          refine r_iload_n x_46_87 rfl ?_
          refine r_invV x_46_88 (z := 44) (ns := 0) (by decide +kernel) (as := [g_n 2, g_n v1]) (r := []) rfl rfl rfl hO1 rfl rfl ?_
          refine r_callI h fun r37 M34 hx35 hok36 hr38 h => ?_
          replace h := h hx35 hok36 hr38
          replace hO1 := hO1.up hx35
          replace hO13 := hO13.up hx35
          replace hO26 := hO26.up hx35
          obtain ⟨hz, h⟩ := h
          exact r_retZ x_46_91 rfl hz h
        · replace h := h.2 hc
          refine r_aload_n x_46_61 rfl ?_
          refine r_iconst x_46_62 ?_
          refine r_iload_n x_46_63 rfl ?_
          refine r_invV x_46_64 (z := 44) (ns := 0) (by decide +kernel) (as := [g_n 1, g_n v1]) (r := []) rfl rfl rfl hO1 rfl rfl ?_
          refine r_callI h fun r42 M39 hx40 hok41 hr43 h => ?_
          replace h := h hx40 hok41 hr43
          replace hO1 := hO1.up hx40
          replace hO13 := hO13.up hx40
          replace hO26 := hO26.up hx40
          refine r_if_eq x_46_67 (t := 83) (by decide +kernel) hr43 (fun hc => ?_) (fun hc => ?_)
          · replace h := h.1 hc
            refine r_iconst x_46_83 ?_
            exact r_retZ x_46_84 rfl (Or.inl rfl) h
          · replace h := h.2 hc
            refine r_aload_n x_46_70 rfl ?_
            refine r_iload_n x_46_71 rfl ?_
            refine r_iload_n x_46_72 rfl ?_
            refine r_invV x_46_73 (z := 48) (ns := 0) (by decide +kernel) (as := [g_n v1, g_n v2]) (r := []) rfl rfl rfl hO1 rfl rfl ?_
            refine r_callI h fun r47 M44 hx45 hok46 hr48 h => ?_
            replace h := h hx45 hok46 hr48
            replace hO1 := hO1.up hx45
            replace hO13 := hO13.up hx45
            replace hO26 := hO26.up hx45
            refine r_if_eq x_46_76 (t := 83) (by decide +kernel) hr48 (fun hc => ?_) (fun hc => ?_)
            · replace h := h.1 hc
              refine r_iconst x_46_83 ?_
              exact r_retZ x_46_84 rfl (Or.inl rfl) h
            · replace h := h.2 hc
              refine r_iconst x_46_79 ?_
              refine r_goto x_46_80 (t := 84) (by decide +kernel) ?_
              exact r_retZ x_46_84 rfl (Or.inr rfl) h
      · replace h := h.2 hc
        refine r_aload_n x_46_43 rfl ?_
        refine r_iconst x_46_44 ?_
        refine r_iload_n x_46_45 rfl ?_
        refine r_invV x_46_46 (z := 43) (ns := 0) (by decide +kernel) (as := [g_n 3, g_n v1]) (r := []) rfl rfl rfl hO1 rfl rfl ?_
        refine r_callI h fun r52 M49 hx50 hok51 hr53 h => ?_
        replace h := h hx50 hok51 hr53
        replace hO1 := hO1.up hx50
        replace hO13 := hO13.up hx50
        replace hO26 := hO26.up hx50
        obtain ⟨hz, h⟩ := h
        exact r_retZ x_46_49 rfl hz h
  · replace h := h.2 hc
    refine r_aload_n x_46_11 rfl ?_
    refine r_iload_n x_46_12 rfl ?_
    refine r_iload_n x_46_13 rfl ?_
    refine r_invV x_46_14 (z := 47) (ns := 0) (by decide +kernel) (as := [g_n v1, g_n v2]) (r := []) rfl rfl rfl hO1 rfl rfl ?_
    refine r_callI h fun r57 M54 hx55 hok56 hr58 h => ?_
    replace h := h hx55 hok56 hr58
    replace hO1 := hO1.up hx55
    obtain ⟨hz, h⟩ := h
    exact r_retZ x_46_17 rfl hz h
theorem m_X2_logicIsRight {d : Nat} {M : g_M} {Q : Int → g_M → Prop} {a0 : Nat} {v1 : Int} (hv1 : g_InR v1) {v2 : Int} (hv2 : g_InR v2) (h : g_ok M → g_O M a0 2 ∧ ∃ b2, g_r M a0 1 = some b2 ∧ g_Call d 39 [.ref b2, g_n v1] M (g_qI fun r7 M4 => g_ext M M4 → g_ok M4 → g_InR r7 → ((r7 = 0 → g_Call d 43 [.ref a0, g_n 1, g_n v1] M4 (g_qI fun r48 M45 => g_ext M4 M45 → g_ok M45 → g_InR r48 → (r48 = 0 ∨ r48 = 1) ∧ Q r48 M45)) ∧ (¬ r7 = 0 → ∃ b9, g_r M4 a0 1 = some b9 ∧ g_Call d 112 [.ref b9, g_n v1] M4 (g_qI fun r14 M11 => g_ext M4 M11 → g_ok M11 → g_InR r14 → ∃ b16, g_r M11 a0 1 = some b16 ∧ g_Call d 108 [.ref b16, g_n v1] M11 (g_qI fun r21 M18 => g_ext M11 M18 → g_ok M18 → g_InR r21 → ((r21 = 4 → ∃ b28, g_r M18 a0 1 = some b28 ∧ g_Call d 108 [.ref b28, g_n r14] M18 (g_qI fun r33 M30 => g_ext M18 M30 → g_ok M30 → g_InR r33 → ((r33 = 0 → g_Call d 43 [.ref a0, g_n 2, g_n v1] M30 (g_qI fun r43 M40 => g_ext M30 M40 → g_ok M40 → g_InR r43 → (r43 = 0 ∨ r43 = 1) ∧ Q r43 M40)) ∧ (¬ r33 = 0 → g_Call d 44 [.ref a0, g_n 1, g_n v1] M30 (g_qI fun r38 M35 => g_ext M30 M35 → g_ok M35 → g_InR r38 → ((r38 = 0 → Q 0 M35) ∧ (¬ r38 = 0 → g_Run d 47 71 [(0, .ref a0), (1, g_n v1), (2, g_n v2), (3, g_n r14), (4, g_n 0)] [] M35 (g_qI Q)))))))) ∧ (¬ r21 = 4 → g_Call d 43 [.ref a0, g_n 2, g_n v1] M18 (g_qI fun r26 M23 => g_ext M18 M23 → g_ok M23 → g_InR r26 → (r26 = 0 ∨ r26 = 1) ∧ Q r26 M23))))))))) : g_Call (d + 1) 47 [.ref a0, g_n v1, g_n v2] M (g_qI Q) := by
  refine g_Call.ok fun hok0 => ?_
  replace h := h hok0
  refine r_body rfl (lv := [(0, .ref a0), (1, g_n v1), (2, g_n v2)]) rfl ?_
  refine g_Run.ok fun hok => ?_
  refine r_aload_n x_47_0 rfl ?_
  obtain ⟨hO1, h⟩ := h
  obtain ⟨b2, hb3, h⟩ := h
  refine r_getR x_47_1 rfl (ci := 2) (k := 1) (ns := 0) (by decide +kernel) (by decide) rfl (kz := 1) rfl hO1 hb3 ?_
  refine r_iload_n x_47_4 rfl ?_
  refine r_invS x_47_5 (z := 39) (ns := 0) (by decide +kernel) (as := [.ref b2, g_n v1]) (r := []) rfl rfl rfl ?_
  refine r_callI h fun r7 M4 hx5 hok6 hr8 h => ?_
  replace h := h hx5 hok6 hr8
  replace hO1 := hO1.up hx5
  refine r_if_ne x_47_8 (t := 18) (by decide +kernel) hr8 (fun hc => ?_) (fun hc => ?_)
  · replace h := h.2 hc
    refine r_aload_n x_47_18 rfl ?_
    obtain ⟨b9, hb10, h⟩ := h
    refine r_getR x_47_19 rfl (ci := 2) (k := 1) (ns := 0) (by decide +kernel) (by decide) rfl (kz := 1) rfl hO1 hb10 ?_
    refine r_iload_n x_47_22 rfl ?_
    refine r_invS x_47_23 (z := 112) (ns := 1) (by decide +kernel) (as := [.ref b9, g_n v1]) (r := []) rfl rfl rfl ?_
    refine r_callI h fun r14 M11 hx12 hok13 hr15 h => ?_
    replace h := h hx12 hok13 hr15
    replace hO1 := hO1.up hx12
    refine r_istore_n x_47_26 (by decide +kernel) rfl (lv1 := [(0, .ref a0), (1, g_n v1), (2, g_n v2), (3, g_n r14)]) rfl ?_
    refine r_aload_n x_47_27 rfl ?_
    obtain ⟨b16, hb17, h⟩ := h
    refine r_getR x_47_28 rfl (ci := 2) (k := 1) (ns := 0) (by decide +kernel) (by decide) rfl (kz := 1) rfl hO1 hb17 ?_
    refine r_iload_n x_47_31 rfl ?_
    refine r_invS x_47_32 (z := 108) (ns := 1) (by decide +kernel) (as := [.ref b16, g_n v1]) (r := []) rfl rfl rfl ?_
    refine r_callI h fun r21 M18 hx19 hok20 hr22 h => ?_
    replace h := h hx19 hok20 hr22
    replace hO1 := hO1.up hx19
    refine r_iconst x_47_35 ?_
    refine r_ic_ne x_47_36 (t := 50) (by decide +kernel) hr22 (g_Rk rfl) (fun hc => ?_) (fun hc => ?_)
    · replace h := h.2 hc
      refine r_aload_n x_47_50 rfl ?_
      refine r_iconst x_47_51 ?_
      refine r_iload_n x_47_52 rfl ?_
      refine r_invV x_47_53 (z := 43) (ns := 0) (by decide +kernel) (as := [g_n 2, g_n v1]) (r := []) rfl rfl rfl hO1 rfl rfl ?_
      refine r_callI h fun r26 M23 hx24 hok25 hr27 h => ?_
      replace h := h hx24 hok25 hr27
      replace hO1 := hO1.up hx24
      obtain ⟨hz, h⟩ := h
      exact r_retZ x_47_56 rfl hz h
    · replace h := h.1 hc
      refine r_aload_n x_47_39 rfl ?_
      obtain ⟨b28, hb29, h⟩ := h
      refine r_getR x_47_40 rfl (ci := 2) (k := 1) (ns := 0) (by decide +kernel) (by decide) rfl (kz := 1) rfl hO1 hb29 ?_
      refine r_iload_n x_47_43 rfl ?_
      refine r_invS x_47_44 (z := 108) (ns := 1) (by decide +kernel) (as := [.ref b28, g_n r14]) (r := []) rfl rfl rfl ?_
      refine r_callI h fun r33 M30 hx31 hok32 hr34 h => ?_
      replace h := h hx31 hok32 hr34
      replace hO1 := hO1.up hx31
      refine r_if_ne x_47_47 (t := 57) (by decide +kernel) hr34 (fun hc => ?_) (fun hc => ?_)
      · replace h := h.2 hc
        refine r_aload_n x_47_57 rfl ?_
        refine r_iconst x_47_58 ?_
        refine r_iload_n x_47_59 rfl ?_
        refine r_invV x_47_60 (z := 44) (ns := 0) (by decide +kernel) (as := [g_n 1, g_n v1]) (r := []) rfl rfl rfl hO1 rfl rfl ?_
        refine r_callI h fun r38 M35 hx36 hok37 hr39 h => ?_
        replace h := h hx36 hok37 hr39
        replace hO1 := hO1.up hx36
        refine r_if_ne x_47_63 (t := 68) (by decide +kernel) hr39 (fun hc => ?_) (fun hc => ?_)
        · replace h := h.2 hc
          refine r_iconst x_47_68 ?_
          refine r_istore x_47_69 (by decide +kernel) rfl (lv1 := [(0, .ref a0), (1, g_n v1), (2, g_n v2), (3, g_n r14), (4, g_n 0)]) rfl ?_
          exact h
        · replace h := h.1 hc
          refine r_iconst x_47_66 ?_
          exact r_retZ x_47_67 rfl (Or.inl rfl) h
      · replace h := h.1 hc
        refine r_aload_n x_47_50 rfl ?_
        refine r_iconst x_47_51 ?_
        refine r_iload_n x_47_52 rfl ?_
        refine r_invV x_47_53 (z := 43) (ns := 0) (by decide +kernel) (as := [g_n 2, g_n v1]) (r := []) rfl rfl rfl hO1 rfl rfl ?_
        refine r_callI h fun r43 M40 hx41 hok42 hr44 h => ?_
        replace h := h hx41 hok42 hr44
        replace hO1 := hO1.up hx41
        obtain ⟨hz, h⟩ := h
        exact r_retZ x_47_56 rfl hz h
  · replace h := h.1 hc
    refine r_aload_n x_47_11 rfl ?_
    refine r_iconst x_47_12 ?_
    refine r_iload_n x_47_13 rfl ?_
    refine r_invV x_47_14 (z := 43) (ns := 0) (by decide +kernel) (as := [g_n 1, g_n v1]) (r := []) rfl rfl rfl hO1 rfl rfl ?_
    refine r_callI h fun r48 M45 hx46 hok47 hr49 h => ?_
    replace h := h hx46 hok47 hr49
    replace hO1 := hO1.up hx46
    obtain ⟨hz, h⟩ := h
    exact r_retZ x_47_17 rfl hz h
theorem s_X2_logicIsRight_71 {d : Nat} {M : g_M} {Q : Int → g_M → Prop} {a0 : Nat} {v1 : Int} (hv1 : g_InR v1) {v2 : Int} (hv2 : g_InR v2) {v3 : Int} (hv3 : g_InR v3) {v4 : Int} (hv4 : g_InR v4) (h : g_ok M → ((v4 < 2000 → g_O M a0 2 ∧ ∃ b2, g_r M a0 1 = some b2 ∧ g_Call d 108 [.ref b2, g_n v3] M (g_qI fun r7 M4 => g_ext M M4 → g_ok M4 → g_InR r7 → ((r7 = 0 → Q 1 M4) ∧ (¬ r7 = 0 → ∃ b9, g_r M4 a0 1 = some b9 ∧ g_Call d 108 [.ref b9, g_n v3] M4 (g_qI fun r14 M11 => g_ext M4 M11 → g_ok M11 → g_InR r14 → ((r14 = 3 → g_InR (v2 + 1) ∧ g_Call d 45 [.ref a0, g_n v3, g_n (v2 + 1)] M11 (g_qI fun r20 M17 => g_ext M11 M17 → g_ok M17 → g_InR r20 → ((r20 = 0 → Q 0 M17) ∧ (¬ r20 = 0 → ∃ b22, g_r M17 a0 1 = some b22 ∧ g_Call d 111 [.ref b22, g_n v3] M17 (g_qI fun r27 M24 => g_ext M17 M24 → g_ok M24 → g_InR r27 → g_InR (v4 + 1) ∧ g_Run d 47 71 [(0, .ref a0), (1, g_n v1), (2, g_n v2), (3, g_n r27), (4, g_n (v4 + 1))] [] M24 (g_qI Q)))))) ∧ (¬ r14 = 3 → g_Call d 43 [.ref a0, g_n 2, g_n v3] M11 (g_qI fun r33 M30 => g_ext M11 M30 → g_ok M30 → g_InR r33 → (r33 = 0 ∨ r33 = 1) ∧ Q r33 M30)))))))) ∧ (¬ v4 < 2000 → Q 1 M))) : g_Run d 47 71 [(0, .ref a0), (1, g_n v1), (2, g_n v2), (3, g_n v3), (4, g_n v4)] [] M (g_qI Q) := by
  refine g_Run.ok fun hok => ?_
  replace h := h hok
  refine r_iload x_47_71 rfl ?_
  refine r_sipush x_47_73 (x := 2000) rfl ?_
  refine r_ic_ge x_47_76 (t := 137) (by decide +kernel) hv4 (g_Rk rfl) (fun hc => ?_) (fun hc => ?_)
  · replace h := h.2 hc
    refine r_iconst x_47_137 ?_
    exact r_retZ x_47_138 rfl (Or.inr rfl) h
  · replace h := h.1 hc
    refine r_aload_n x_47_79 rfl ?_
    obtain ⟨hO1, h⟩ := h
    obtain ⟨b2, hb3, h⟩ := h
    refine r_getR x_47_80 rfl (ci := 2) (k := 1) (ns := 0) (by decide +kernel) (by decide) rfl (kz := 1) rfl hO1 hb3 ?_
    refine r_iload_n x_47_83 rfl ?_
    refine r_invS x_47_84 (z := 108) (ns := 1) (by decide +kernel) (as := [.ref b2, g_n v3]) (r := []) rfl rfl rfl ?_
    refine r_callI h fun r7 M4 hx5 hok6 hr8 h => ?_
    replace h := h hx5 hok6 hr8
    replace hO1 := hO1.up hx5
    refine r_if_eq x_47_87 (t := 137) (by decide +kernel) hr8 (fun hc => ?_) (fun hc => ?_)
    · replace h := h.1 hc
      refine r_iconst x_47_137 ?_
      exact r_retZ x_47_138 rfl (Or.inr rfl) h
    · replace h := h.2 hc
      refine r_aload_n x_47_90 rfl ?_
      obtain ⟨b9, hb10, h⟩ := h
      refine r_getR x_47_91 rfl (ci := 2) (k := 1) (ns := 0) (by decide +kernel) (by decide) rfl (kz := 1) rfl hO1 hb10 ?_
      refine r_iload_n x_47_94 rfl ?_
      refine r_invS x_47_95 (z := 108) (ns := 1) (by decide +kernel) (as := [.ref b9, g_n v3]) (r := []) rfl rfl rfl ?_
      refine r_callI h fun r14 M11 hx12 hok13 hr15 h => ?_
      replace h := h hx12 hok13 hr15
      replace hO1 := hO1.up hx12
      refine r_iconst x_47_98 ?_
      refine r_ic_eq x_47_99 (t := 109) (by decide +kernel) hr15 (g_Rk rfl) (fun hc => ?_) (fun hc => ?_)
      · replace h := h.1 hc
        refine r_aload_n x_47_109 rfl ?_
        refine r_iload_n x_47_110 rfl ?_
        refine r_iload_n x_47_111 rfl ?_
        refine r_iconst x_47_112 ?_
        refine r_iadd x_47_113 ?_
        obtain ⟨h16, h⟩ := h
        refine r_invV x_47_114 (z := 45) (ns := 0) (by decide +kernel) (as := [g_n v3, g_n (v2 + 1)]) (r := []) rfl rfl rfl hO1 rfl rfl ?_
        refine r_callI h fun r20 M17 hx18 hok19 hr21 h => ?_
        replace h := h hx18 hok19 hr21
        replace hO1 := hO1.up hx18
        refine r_if_ne x_47_117 (t := 122) (by decide +kernel) hr21 (fun hc => ?_) (fun hc => ?_)
        · replace h := h.2 hc
          refine r_aload_n x_47_122 rfl ?_
          obtain ⟨b22, hb23, h⟩ := h
          refine r_getR x_47_123 rfl (ci := 2) (k := 1) (ns := 0) (by decide +kernel) (by decide) rfl (kz := 1) rfl hO1 hb23 ?_
          refine r_iload_n x_47_126 rfl ?_
          refine r_invS x_47_127 (z := 111) (ns := 1) (by decide +kernel) (as := [.ref b22, g_n v3]) (r := []) rfl rfl rfl ?_
          refine r_callI h fun r27 M24 hx25 hok26 hr28 h => ?_
          replace h := h hx25 hok26 hr28
          replace hO1 := hO1.up hx25
          refine r_istore_n x_47_130 (by decide +kernel) rfl (lv1 := [(0, .ref a0), (1, g_n v1), (2, g_n v2), (3, g_n r27), (4, g_n v4)]) rfl ?_
          obtain ⟨h29, h⟩ := h
          refine r_iinc x_47_131 (by decide +kernel) rfl rfl (lv1 := [(0, .ref a0), (1, g_n v1), (2, g_n v2), (3, g_n r27), (4, g_n (v4 + 1))]) rfl ?_
          refine r_goto x_47_134 (t := 71) (by decide +kernel) ?_
          exact h
        · replace h := h.1 hc
          refine r_iconst x_47_120 ?_
          exact r_retZ x_47_121 rfl (Or.inl rfl) h
      · replace h := h.2 hc
        refine r_aload_n x_47_102 rfl ?_
        refine r_iconst x_47_103 ?_
        refine r_iload_n x_47_104 rfl ?_
        refine r_invV x_47_105 (z := 43) (ns := 0) (by decide +kernel) (as := [g_n 2, g_n v3]) (r := []) rfl rfl rfl hO1 rfl rfl ?_
        refine r_callI h fun r33 M30 hx31 hok32 hr34 h => ?_
        replace h := h hx31 hok32 hr34
        replace hO1 := hO1.up hx31
        obtain ⟨hz, h⟩ := h
        exact r_retZ x_47_108 rfl hz h
theorem m_X2_conditionsAreRight {d : Nat} {M : g_M} {Q : Int → g_M → Prop} {a0 : Nat} {v1 : Int} (hv1 : g_InR v1) {v2 : Int} (hv2 : g_InR v2) (h : g_ok M → g_O M a0 2 ∧ ∃ b2, g_r M a0 1 = some b2 ∧ g_Call d 112 [.ref b2, g_n v1] M (g_qI fun r7 M4 => g_ext M M4 → g_ok M4 → g_InR r7 → g_Run d 48 12 [(0, .ref a0), (1, g_n v1), (2, g_n v2), (3, g_n r7), (4, g_n 0)] [] M4 (g_qI Q))) : g_Call (d + 1) 48 [.ref a0, g_n v1, g_n v2] M (g_qI Q) := by
  refine g_Call.ok fun hok0 => ?_
  replace h := h hok0
  refine r_body rfl (lv := [(0, .ref a0), (1, g_n v1), (2, g_n v2)]) rfl ?_
  refine g_Run.ok fun hok => ?_
  refine r_aload_n x_48_0 rfl ?_
  obtain ⟨hO1, h⟩ := h
  obtain ⟨b2, hb3, h⟩ := h
  refine r_getR x_48_1 rfl (ci := 2) (k := 1) (ns := 0) (by decide +kernel) (by decide) rfl (kz := 1) rfl hO1 hb3 ?_
  refine r_iload_n x_48_4 rfl ?_
  refine r_invS x_48_5 (z := 112) (ns := 1) (by decide +kernel) (as := [.ref b2, g_n v1]) (r := []) rfl rfl rfl ?_
  refine r_callI h fun r7 M4 hx5 hok6 hr8 h => ?_
  replace h := h hx5 hok6 hr8
  replace hO1 := hO1.up hx5
  refine r_istore_n x_48_8 (by decide +kernel) rfl (lv1 := [(0, .ref a0), (1, g_n v1), (2, g_n v2), (3, g_n r7)]) rfl ?_
  refine r_iconst x_48_9 ?_
  refine r_istore x_48_10 (by decide +kernel) rfl (lv1 := [(0, .ref a0), (1, g_n v1), (2, g_n v2), (3, g_n r7), (4, g_n 0)]) rfl ?_
  exact h
theorem s_X2_conditionsAreRight_12 {d : Nat} {M : g_M} {Q : Int → g_M → Prop} {a0 : Nat} {v1 : Int} (hv1 : g_InR v1) {v2 : Int} (hv2 : g_InR v2) {v3 : Int} (hv3 : g_InR v3) {v4 : Int} (hv4 : g_InR v4) (h : g_ok M → ((v4 < 2000 → g_O M a0 2 ∧ ∃ b2, g_r M a0 1 = some b2 ∧ g_Call d 108 [.ref b2, g_n v3] M (g_qI fun r7 M4 => g_ext M M4 → g_ok M4 → g_InR r7 → ((r7 = 0 → Q 1 M4) ∧ (¬ r7 = 0 → ((60 < v2 → Q 0 M4) ∧ (¬ 60 < v2 → g_InR (v2 + 1) ∧ g_Call d 49 [.ref a0, g_n v3, g_n (v2 + 1)] M4 (g_qI fun r13 M10 => g_ext M4 M10 → g_ok M10 → g_InR r13 → ((r13 = 0 → Q 0 M10) ∧ (¬ r13 = 0 → ∃ b15, g_r M10 a0 1 = some b15 ∧ g_Call d 111 [.ref b15, g_n v3] M10 (g_qI fun r20 M17 => g_ext M10 M17 → g_ok M17 → g_InR r20 → g_InR (v4 + 1) ∧ g_Run d 48 12 [(0, .ref a0), (1, g_n v1), (2, g_n v2), (3, g_n r20), (4, g_n (v4 + 1))] [] M17 (g_qI Q))))))))))) ∧ (¬ v4 < 2000 → Q 1 M))) : g_Run d 48 12 [(0, .ref a0), (1, g_n v1), (2, g_n v2), (3, g_n v3), (4, g_n v4)] [] M (g_qI Q) := by
  refine g_Run.ok fun hok => ?_
  replace h := h hok
  refine r_iload x_48_12 rfl ?_
  refine r_sipush x_48_14 (x := 2000) rfl ?_
  refine r_ic_ge x_48_17 (t := 65) (by decide +kernel) hv4 (g_Rk rfl) (fun hc => ?_) (fun hc => ?_)
  · replace h := h.2 hc
    refine r_iconst x_48_65 ?_
    exact r_retZ x_48_66 rfl (Or.inr rfl) h
  · replace h := h.1 hc
    refine r_aload_n x_48_20 rfl ?_
    obtain ⟨hO1, h⟩ := h
    obtain ⟨b2, hb3, h⟩ := h
    refine r_getR x_48_21 rfl (ci := 2) (k := 1) (ns := 0) (by decide +kernel) (by decide) rfl (kz := 1) rfl hO1 hb3 ?_
    refine r_iload_n x_48_24 rfl ?_
    refine r_invS x_48_25 (z := 108) (ns := 1) (by decide +kernel) (as := [.ref b2, g_n v3]) (r := []) rfl rfl rfl ?_
    refine r_callI h fun r7 M4 hx5 hok6 hr8 h => ?_
    replace h := h hx5 hok6 hr8
    replace hO1 := hO1.up hx5
    refine r_if_eq x_48_28 (t := 65) (by decide +kernel) hr8 (fun hc => ?_) (fun hc => ?_)
    · replace h := h.1 hc
      refine r_iconst x_48_65 ?_
      exact r_retZ x_48_66 rfl (Or.inr rfl) h
    · replace h := h.2 hc
      refine r_iload_n x_48_31 rfl ?_
      refine r_bipush x_48_32 (x := 60) rfl ?_
      refine r_ic_gt x_48_34 (t := 48) (by decide +kernel) hv2 (g_Rk rfl) (fun hc => ?_) (fun hc => ?_)
      · replace h := h.1 hc
        refine r_iconst x_48_48 ?_
        exact r_retZ x_48_49 rfl (Or.inl rfl) h
      · replace h := h.2 hc
        refine r_aload_n x_48_37 rfl ?_
        refine r_iload_n x_48_38 rfl ?_
        refine r_iload_n x_48_39 rfl ?_
        refine r_iconst x_48_40 ?_
        refine r_iadd x_48_41 ?_
        obtain ⟨h9, h⟩ := h
        refine r_invV x_48_42 (z := 49) (ns := 0) (by decide +kernel) (as := [g_n v3, g_n (v2 + 1)]) (r := []) rfl rfl rfl hO1 rfl rfl ?_
        refine r_callI h fun r13 M10 hx11 hok12 hr14 h => ?_
        replace h := h hx11 hok12 hr14
        replace hO1 := hO1.up hx11
        refine r_if_ne x_48_45 (t := 50) (by decide +kernel) hr14 (fun hc => ?_) (fun hc => ?_)
        · replace h := h.2 hc
          refine r_aload_n x_48_50 rfl ?_
          obtain ⟨b15, hb16, h⟩ := h
          refine r_getR x_48_51 rfl (ci := 2) (k := 1) (ns := 0) (by decide +kernel) (by decide) rfl (kz := 1) rfl hO1 hb16 ?_
          refine r_iload_n x_48_54 rfl ?_
          refine r_invS x_48_55 (z := 111) (ns := 1) (by decide +kernel) (as := [.ref b15, g_n v3]) (r := []) rfl rfl rfl ?_
          refine r_callI h fun r20 M17 hx18 hok19 hr21 h => ?_
          replace h := h hx18 hok19 hr21
          replace hO1 := hO1.up hx18
          refine r_istore_n x_48_58 (by decide +kernel) rfl (lv1 := [(0, .ref a0), (1, g_n v1), (2, g_n v2), (3, g_n r20), (4, g_n v4)]) rfl ?_
          obtain ⟨h22, h⟩ := h
          refine r_iinc x_48_59 (by decide +kernel) rfl rfl (lv1 := [(0, .ref a0), (1, g_n v1), (2, g_n v2), (3, g_n r20), (4, g_n (v4 + 1))]) rfl ?_
          refine r_goto x_48_62 (t := 12) (by decide +kernel) ?_
          exact h
        · replace h := h.1 hc
          refine r_iconst x_48_48 ?_
          exact r_retZ x_48_49 rfl (Or.inl rfl) h
theorem m_X2_conditionIsRight {d : Nat} {M : g_M} {Q : Int → g_M → Prop} {a0 : Nat} {v1 : Int} (hv1 : g_InR v1) {v2 : Int} (hv2 : g_InR v2) (h : g_ok M → g_O M a0 2 ∧ ∃ b2, g_r M a0 1 = some b2 ∧ g_Call d 38 [.ref b2, g_n v1] M (g_qI fun r7 M4 => g_ext M M4 → g_ok M4 → g_InR r7 → ((r7 = 0 → g_Call d 43 [.ref a0, g_n 1, g_n v1] M4 (g_qI fun r44 M41 => g_ext M4 M41 → g_ok M41 → g_InR r44 → (r44 = 0 ∨ r44 = 1) ∧ Q r44 M41)) ∧ (¬ r7 = 0 → g_Call d 50 [.ref a0, g_n r7, g_n v1] M4 (g_qI fun r12 M9 => g_ext M4 M9 → g_ok M9 → g_InR r12 → ((r12 = 0 → g_Call d 43 [.ref a0, g_n 4, g_n v1] M9 (g_qI fun r39 M36 => g_ext M9 M36 → g_ok M36 → g_InR r39 → (r39 = 0 ∨ r39 = 1) ∧ Q r39 M36)) ∧ (¬ r12 = 0 → g_Call d 44 [.ref a0, g_n 1, g_n v1] M9 (g_qI fun r17 M14 => g_ext M9 M14 → g_ok M14 → g_InR r17 → ((r17 = 0 → Q 0 M14) ∧ (¬ r17 = 0 → ((r7 = 12 → g_Call d 48 [.ref a0, g_n v1, g_n v2] M14 (g_qI fun r22 M19 => g_ext M14 M19 → g_ok M19 → g_InR r22 → (r22 = 0 ∨ r22 = 1) ∧ Q r22 M19)) ∧ (¬ r7 = 12 → ((r7 = 11 → ∃ b24, g_r M14 a0 1 = some b24 ∧ g_Call d 41 [.ref b24, g_n v1] M14 (g_qI fun r29 M26 => g_ext M14 M26 → g_ok M26 → g_InR r29 → ((r29 = 0 → g_Run d 49 77 [(0, .ref a0), (1, g_n v1), (2, g_n v2), (3, g_n r7)] [] M26 (g_qI Q)) ∧ (¬ r29 = 0 → g_Call d 48 [.ref a0, g_n v1, g_n v2] M26 (g_qI fun r34 M31 => g_ext M26 M31 → g_ok M31 → g_InR r34 → (r34 = 0 ∨ r34 = 1) ∧ Q r34 M31))))) ∧ (¬ r7 = 11 → g_Run d 49 77 [(0, .ref a0), (1, g_n v1), (2, g_n v2), (3, g_n r7)] [] M14 (g_qI Q))))))))))))))) : g_Call (d + 1) 49 [.ref a0, g_n v1, g_n v2] M (g_qI Q) := by
  refine g_Call.ok fun hok0 => ?_
  replace h := h hok0
  refine r_body rfl (lv := [(0, .ref a0), (1, g_n v1), (2, g_n v2)]) rfl ?_
  refine g_Run.ok fun hok => ?_
  refine r_aload_n x_49_0 rfl ?_
  obtain ⟨hO1, h⟩ := h
  obtain ⟨b2, hb3, h⟩ := h
  refine r_getR x_49_1 rfl (ci := 2) (k := 1) (ns := 0) (by decide +kernel) (by decide) rfl (kz := 1) rfl hO1 hb3 ?_
  refine r_iload_n x_49_4 rfl ?_
  refine r_invS x_49_5 (z := 38) (ns := 0) (by decide +kernel) (as := [.ref b2, g_n v1]) (r := []) rfl rfl rfl ?_
  refine r_callI h fun r7 M4 hx5 hok6 hr8 h => ?_
  replace h := h hx5 hok6 hr8
  replace hO1 := hO1.up hx5
  refine r_istore_n x_49_8 (by decide +kernel) rfl (lv1 := [(0, .ref a0), (1, g_n v1), (2, g_n v2), (3, g_n r7)]) rfl ?_
  refine r_iload_n x_49_9 rfl ?_
  refine r_if_ne x_49_10 (t := 20) (by decide +kernel) hr8 (fun hc => ?_) (fun hc => ?_)
  · replace h := h.2 hc
    refine r_aload_n x_49_20 rfl ?_
    refine r_iload_n x_49_21 rfl ?_
    refine r_iload_n x_49_22 rfl ?_
    refine r_invV x_49_23 (z := 50) (ns := 0) (by decide +kernel) (as := [g_n r7, g_n v1]) (r := []) rfl rfl rfl hO1 rfl rfl ?_
    refine r_callI h fun r12 M9 hx10 hok11 hr13 h => ?_
    replace h := h hx10 hok11 hr13
    replace hO1 := hO1.up hx10
    refine r_if_ne x_49_26 (t := 36) (by decide +kernel) hr13 (fun hc => ?_) (fun hc => ?_)
    · replace h := h.2 hc
      refine r_aload_n x_49_36 rfl ?_
      refine r_iconst x_49_37 ?_
      refine r_iload_n x_49_38 rfl ?_
      refine r_invV x_49_39 (z := 44) (ns := 0) (by decide +kernel) (as := [g_n 1, g_n v1]) (r := []) rfl rfl rfl hO1 rfl rfl ?_
      refine r_callI h fun r17 M14 hx15 hok16 hr18 h => ?_
      replace h := h hx15 hok16 hr18
      replace hO1 := hO1.up hx15
      refine r_if_ne x_49_42 (t := 47) (by decide +kernel) hr18 (fun hc => ?_) (fun hc => ?_)
      · replace h := h.2 hc
        refine r_iload_n x_49_47 rfl ?_
        refine r_bipush x_49_48 (x := 12) rfl ?_
        refine r_ic_eq x_49_50 (t := 70) (by decide +kernel) hr8 (g_Rk rfl) (fun hc => ?_) (fun hc => ?_)
        · replace h := h.1 hc
          refine r_aload_n x_49_70 rfl ?_
          refine r_iload_n x_49_71 rfl ?_
          refine r_iload_n x_49_72 rfl ?_
          refine r_invV x_49_73 (z := 48) (ns := 0) (by decide +kernel) (as := [g_n v1, g_n v2]) (r := []) rfl rfl rfl hO1 rfl rfl ?_
          refine r_callI h fun r22 M19 hx20 hok21 hr23 h => ?_
          replace h := h hx20 hok21 hr23
          replace hO1 := hO1.up hx20
          obtain ⟨hz, h⟩ := h
          exact r_retZ x_49_76 rfl hz h
        · replace h := h.2 hc
          refine r_iload_n x_49_53 rfl ?_
          refine r_bipush x_49_54 (x := 11) rfl ?_
          refine r_ic_ne x_49_56 (t := 77) (by decide +kernel) hr8 (g_Rk rfl) (fun hc => ?_) (fun hc => ?_)
          · replace h := h.2 hc
            exact h
          · replace h := h.1 hc
            refine r_aload_n x_49_59 rfl ?_
            obtain ⟨b24, hb25, h⟩ := h
            refine r_getR x_49_60 rfl (ci := 2) (k := 1) (ns := 0) (by decide +kernel) (by decide) rfl (kz := 1) rfl hO1 hb25 ?_
            refine r_iload_n x_49_63 rfl ?_
            refine r_invS x_49_64 (z := 41) (ns := 0) (by decide +kernel) (as := [.ref b24, g_n v1]) (r := []) rfl rfl rfl ?_
            refine r_callI h fun r29 M26 hx27 hok28 hr30 h => ?_
            replace h := h hx27 hok28 hr30
            replace hO1 := hO1.up hx27
            refine r_if_eq x_49_67 (t := 77) (by decide +kernel) hr30 (fun hc => ?_) (fun hc => ?_)
            · replace h := h.1 hc
              exact h
            · replace h := h.2 hc
              refine r_aload_n x_49_70 rfl ?_
              refine r_iload_n x_49_71 rfl ?_
              refine r_iload_n x_49_72 rfl ?_
              refine r_invV x_49_73 (z := 48) (ns := 0) (by decide +kernel) (as := [g_n v1, g_n v2]) (r := []) rfl rfl rfl hO1 rfl rfl ?_
              refine r_callI h fun r34 M31 hx32 hok33 hr35 h => ?_
              replace h := h hx32 hok33 hr35
              replace hO1 := hO1.up hx32
              obtain ⟨hz, h⟩ := h
              exact r_retZ x_49_76 rfl hz h
      · replace h := h.1 hc
        refine r_iconst x_49_45 ?_
        exact r_retZ x_49_46 rfl (Or.inl rfl) h
    · replace h := h.1 hc
      refine r_aload_n x_49_29 rfl ?_
      refine r_iconst x_49_30 ?_
      refine r_iload_n x_49_31 rfl ?_
      refine r_invV x_49_32 (z := 43) (ns := 0) (by decide +kernel) (as := [g_n 4, g_n v1]) (r := []) rfl rfl rfl hO1 rfl rfl ?_
      refine r_callI h fun r39 M36 hx37 hok38 hr40 h => ?_
      replace h := h hx37 hok38 hr40
      replace hO1 := hO1.up hx37
      obtain ⟨hz, h⟩ := h
      exact r_retZ x_49_35 rfl hz h
  · replace h := h.1 hc
    refine r_aload_n x_49_13 rfl ?_
    refine r_iconst x_49_14 ?_
    refine r_iload_n x_49_15 rfl ?_
    refine r_invV x_49_16 (z := 43) (ns := 0) (by decide +kernel) (as := [g_n 1, g_n v1]) (r := []) rfl rfl rfl hO1 rfl rfl ?_
    refine r_callI h fun r44 M41 hx42 hok43 hr45 h => ?_
    replace h := h hx42 hok43 hr45
    replace hO1 := hO1.up hx42
    obtain ⟨hz, h⟩ := h
    exact r_retZ x_49_19 rfl hz h
theorem s_X2_conditionIsRight_77 {d : Nat} {M : g_M} {Q : Int → g_M → Prop} {a0 : Nat} {v1 : Int} (hv1 : g_InR v1) {v2 : Int} (hv2 : g_InR v2) {v3 : Int} (hv3 : g_InR v3) (h : g_ok M → ((v3 = 11 → g_O M a0 2 ∧ g_Call d 45 [.ref a0, g_n v1, g_n v2] M (g_qI fun r5 M2 => g_ext M M2 → g_ok M2 → g_InR r5 → ((r5 = 0 → Q 0 M2) ∧ (¬ r5 = 0 → Q 1 M2)))) ∧ (¬ v3 = 11 → Q 1 M))) : g_Run d 49 77 [(0, .ref a0), (1, g_n v1), (2, g_n v2), (3, g_n v3)] [] M (g_qI Q) := by
  refine g_Run.ok fun hok => ?_
  replace h := h hok
  refine r_iload_n x_49_77 rfl ?_
  refine r_bipush x_49_78 (x := 11) rfl ?_
  refine r_ic_ne x_49_80 (t := 92) (by decide +kernel) hv3 (g_Rk rfl) (fun hc => ?_) (fun hc => ?_)
  · replace h := h.2 hc
    refine r_iconst x_49_92 ?_
    refine r_goto x_49_93 (t := 97) (by decide +kernel) ?_
    exact r_retZ x_49_97 rfl (Or.inr rfl) h
  · replace h := h.1 hc
    refine r_aload_n x_49_83 rfl ?_
    refine r_iload_n x_49_84 rfl ?_
    refine r_iload_n x_49_85 rfl ?_
    obtain ⟨hO1, h⟩ := h
    refine r_invV x_49_86 (z := 45) (ns := 0) (by decide +kernel) (as := [g_n v1, g_n v2]) (r := []) rfl rfl rfl hO1 rfl rfl ?_
    refine r_callI h fun r5 M2 hx3 hok4 hr6 h => ?_
    replace h := h hx3 hok4 hr6
    replace hO1 := hO1.up hx3
    refine r_if_eq x_49_89 (t := 96) (by decide +kernel) hr6 (fun hc => ?_) (fun hc => ?_)
    · replace h := h.1 hc
      refine r_iconst x_49_96 ?_
      exact r_retZ x_49_97 rfl (Or.inl rfl) h
    · replace h := h.2 hc
      refine r_iconst x_49_92 ?_
      refine r_goto x_49_93 (t := 97) (by decide +kernel) ?_
      exact r_retZ x_49_97 rfl (Or.inr rfl) h
theorem m_X2_valueIsRight {d : Nat} {M : g_M} {Q : Int → g_M → Prop} {a0 : Nat} {v1 : Int} (hv1 : g_InR v1) {v2 : Int} (hv2 : g_InR v2) (h : g_ok M → g_O M a0 2 ∧ ∃ b2, g_r M a0 1 = some b2 ∧ g_Call d 108 [.ref b2, g_n v2] M (g_qI fun r7 M4 => g_ext M M4 → g_ok M4 → g_InR r7 → ((v1 = 3 → ((r7 = 4 → Q 1 M4) ∧ (¬ r7 = 4 → Q 0 M4))) ∧ (¬ v1 = 3 → ((v1 = 4 → ((r7 = 4 → Q 1 M4) ∧ (¬ r7 = 4 → Q 0 M4))) ∧ (¬ v1 = 4 → ((v1 = 5 → Q 1 M4) ∧ (¬ v1 = 5 → ((v1 = 6 → Q 1 M4) ∧ (¬ v1 = 6 → ((v1 = 7 → Q 1 M4) ∧ (¬ v1 = 7 → ((v1 = 8 → Q 1 M4) ∧ (¬ v1 = 8 → ((v1 = 9 → ((r7 = 8 → Q 1 M4) ∧ (¬ r7 = 8 → Q 0 M4))) ∧ (¬ v1 = 9 → ((v1 = 10 → ∃ b16, g_r M4 a0 1 = some b16 ∧ g_Call d 117 [.ref b16, g_n v2] M4 (g_qI fun r21 M18 => g_ext M4 M18 → g_ok M18 → g_InR r21 → ((r21 = 0 → Q 0 M18) ∧ (¬ r21 = 0 → ∃ b23, g_r M18 a0 1 = some b23 ∧ g_Call d 118 [.ref b23, g_n v2] M18 (g_qL fun R28 M25 => g_ext M18 M25 → g_ok M25 → ((g_lc R28 0 < 0 → Q 0 M25) ∧ (¬ g_lc R28 0 < 0 → Q 1 M25))))))) ∧ (¬ v1 = 10 → ((v1 = 11 → ((r7 = 3 → Q 1 M4) ∧ (¬ r7 = 3 → Q 0 M4))) ∧ (¬ v1 = 11 → ((v1 = 12 → ∃ b31, g_r M4 a0 1 = some b31 ∧ g_Call d 40 [.ref b31, g_n v2] M4 (g_qI fun r36 M33 => g_ext M4 M33 → g_ok M33 → g_InR r36 → (r36 = 0 ∨ r36 = 1) ∧ Q r36 M33)) ∧ (¬ v1 = 12 → Q 1 M4)))))))))))))))))))))) : g_Call (d + 1) 50 [.ref a0, g_n v1, g_n v2] M (g_qI Q) := by
  refine g_Call.ok fun hok0 => ?_
  replace h := h hok0
  refine r_body rfl (lv := [(0, .ref a0), (1, g_n v1), (2, g_n v2)]) rfl ?_
  refine g_Run.ok fun hok => ?_
  refine r_aload_n x_50_0 rfl ?_
  obtain ⟨hO1, h⟩ := h
  obtain ⟨b2, hb3, h⟩ := h
  refine r_getR x_50_1 rfl (ci := 2) (k := 1) (ns := 0) (by decide +kernel) (by decide) rfl (kz := 1) rfl hO1 hb3 ?_
  refine r_iload_n x_50_4 rfl ?_
  refine r_invS x_50_5 (z := 108) (ns := 1) (by decide +kernel) (as := [.ref b2, g_n v2]) (r := []) rfl rfl rfl ?_
  refine r_callI h fun r7 M4 hx5 hok6 hr8 h => ?_
  replace h := h hx5 hok6 hr8
  replace hO1 := hO1.up hx5
  refine r_istore_n x_50_8 (by decide +kernel) rfl (lv1 := [(0, .ref a0), (1, g_n v1), (2, g_n v2), (3, g_n r7)]) rfl ?_
  refine r_iload_n x_50_9 rfl ?_
  by_cases hk9 : v1 = 3
  · refine r_tableAt x_50_10 hk9 (t := 64) (g_Rk rfl) (by decide +kernel) ?_
    replace h := h.1 hk9
    refine r_iload_n x_50_64 rfl ?_
    refine r_iconst x_50_65 ?_
    refine r_ic_ne x_50_66 (t := 73) (by decide +kernel) hr8 (g_Rk rfl) (fun hc => ?_) (fun hc => ?_)
    · replace h := h.2 hc
      refine r_iconst x_50_73 ?_
      exact r_retZ x_50_74 rfl (Or.inl rfl) h
    · replace h := h.1 hc
      refine r_iconst x_50_69 ?_
      refine r_goto x_50_70 (t := 74) (by decide +kernel) ?_
      exact r_retZ x_50_74 rfl (Or.inr rfl) h
  replace h := h.2 hk9
  by_cases hk10 : v1 = 4
  · refine r_tableAt x_50_10 hk10 (t := 64) (g_Rk rfl) (by decide +kernel) ?_
    replace h := h.1 hk10
    refine r_iload_n x_50_64 rfl ?_
    refine r_iconst x_50_65 ?_
    refine r_ic_ne x_50_66 (t := 73) (by decide +kernel) hr8 (g_Rk rfl) (fun hc => ?_) (fun hc => ?_)
    · replace h := h.2 hc
      refine r_iconst x_50_73 ?_
      exact r_retZ x_50_74 rfl (Or.inl rfl) h
    · replace h := h.1 hc
      refine r_iconst x_50_69 ?_
      refine r_goto x_50_70 (t := 74) (by decide +kernel) ?_
      exact r_retZ x_50_74 rfl (Or.inr rfl) h
  replace h := h.2 hk10
  by_cases hk11 : v1 = 5
  · refine r_tableAt x_50_10 hk11 (t := 137) (g_Rk rfl) (by decide +kernel) ?_
    replace h := h.1 hk11
    refine r_iconst x_50_137 ?_
    exact r_retZ x_50_138 rfl (Or.inr rfl) h
  replace h := h.2 hk11
  by_cases hk12 : v1 = 6
  · refine r_tableAt x_50_10 hk12 (t := 137) (g_Rk rfl) (by decide +kernel) ?_
    replace h := h.1 hk12
    refine r_iconst x_50_137 ?_
    exact r_retZ x_50_138 rfl (Or.inr rfl) h
  replace h := h.2 hk12
  by_cases hk13 : v1 = 7
  · refine r_tableAt x_50_10 hk13 (t := 137) (g_Rk rfl) (by decide +kernel) ?_
    replace h := h.1 hk13
    refine r_iconst x_50_137 ?_
    exact r_retZ x_50_138 rfl (Or.inr rfl) h
  replace h := h.2 hk13
  by_cases hk14 : v1 = 8
  · refine r_tableAt x_50_10 hk14 (t := 137) (g_Rk rfl) (by decide +kernel) ?_
    replace h := h.1 hk14
    refine r_iconst x_50_137 ?_
    exact r_retZ x_50_138 rfl (Or.inr rfl) h
  replace h := h.2 hk14
  by_cases hk15 : v1 = 9
  · refine r_tableAt x_50_10 hk15 (t := 75) (g_Rk rfl) (by decide +kernel) ?_
    replace h := h.1 hk15
    refine r_iload_n x_50_75 rfl ?_
    refine r_bipush x_50_76 (x := 8) rfl ?_
    refine r_ic_ne x_50_78 (t := 85) (by decide +kernel) hr8 (g_Rk rfl) (fun hc => ?_) (fun hc => ?_)
    · replace h := h.2 hc
      refine r_iconst x_50_85 ?_
      exact r_retZ x_50_86 rfl (Or.inl rfl) h
    · replace h := h.1 hc
      refine r_iconst x_50_81 ?_
      refine r_goto x_50_82 (t := 86) (by decide +kernel) ?_
      exact r_retZ x_50_86 rfl (Or.inr rfl) h
  replace h := h.2 hk15
  by_cases hk29 : v1 = 10
  · refine r_tableAt x_50_10 hk29 (t := 87) (g_Rk rfl) (by decide +kernel) ?_
    replace h := h.1 hk29
    refine r_aload_n x_50_87 rfl ?_
    obtain ⟨b16, hb17, h⟩ := h
    refine r_getR x_50_88 rfl (ci := 2) (k := 1) (ns := 0) (by decide +kernel) (by decide) rfl (kz := 1) rfl hO1 hb17 ?_
    refine r_iload_n x_50_91 rfl ?_
    refine r_invS x_50_92 (z := 117) (ns := 1) (by decide +kernel) (as := [.ref b16, g_n v2]) (r := []) rfl rfl rfl ?_
    refine r_callI h fun r21 M18 hx19 hok20 hr22 h => ?_
    replace h := h hx19 hok20 hr22
    replace hO1 := hO1.up hx19
    refine r_if_eq x_50_95 (t := 115) (by decide +kernel) hr22 (fun hc => ?_) (fun hc => ?_)
    · replace h := h.1 hc
      refine r_iconst x_50_115 ?_
      exact r_retZ x_50_116 rfl (Or.inl rfl) h
    · replace h := h.2 hc
      refine r_aload_n x_50_98 rfl ?_
      obtain ⟨b23, hb24, h⟩ := h
      refine r_getR x_50_99 rfl (ci := 2) (k := 1) (ns := 0) (by decide +kernel) (by decide) rfl (kz := 1) rfl hO1 hb24 ?_
      refine r_iload_n x_50_102 rfl ?_
      refine r_invS x_50_103 (z := 118) (ns := 1) (by decide +kernel) (as := [.ref b23, g_n v2]) (r := []) rfl rfl rfl ?_
      refine r_callL h fun R28 M25 hx26 hok27 h => ?_
      replace h := h hx26 hok27
      replace hO1 := hO1.up hx26
      refine r_lconst x_50_106 ?_
      show g_Run d 50 107 [(0, .ref a0), (1, g_n v1), (2, g_n v2), (3, g_n r7)] [.long 0, .long R28] M25 _
      refine r_lcmp x_50_107 ?_
      refine r_if_lt x_50_108 (t := 115) (by decide +kernel) (g_InR_toInt _) (fun hc => ?_) (fun hc => ?_)
      · replace h := h.1 hc
        refine r_iconst x_50_115 ?_
        exact r_retZ x_50_116 rfl (Or.inl rfl) h
      · replace h := h.2 hc
        refine r_iconst x_50_111 ?_
        refine r_goto x_50_112 (t := 116) (by decide +kernel) ?_
        exact r_retZ x_50_116 rfl (Or.inr rfl) h
  replace h := h.2 hk29
  by_cases hk30 : v1 = 11
  · refine r_tableAt x_50_10 hk30 (t := 117) (g_Rk rfl) (by decide +kernel) ?_
    replace h := h.1 hk30
    refine r_iload_n x_50_117 rfl ?_
    refine r_iconst x_50_118 ?_
    refine r_ic_ne x_50_119 (t := 126) (by decide +kernel) hr8 (g_Rk rfl) (fun hc => ?_) (fun hc => ?_)
    · replace h := h.2 hc
      refine r_iconst x_50_126 ?_
      exact r_retZ x_50_127 rfl (Or.inl rfl) h
    · replace h := h.1 hc
      refine r_iconst x_50_122 ?_
      refine r_goto x_50_123 (t := 127) (by decide +kernel) ?_
      exact r_retZ x_50_127 rfl (Or.inr rfl) h
  replace h := h.2 hk30
  by_cases hk38 : v1 = 12
  · refine r_tableAt x_50_10 hk38 (t := 128) (g_Rk rfl) (by decide +kernel) ?_
    replace h := h.1 hk38
    refine r_aload_n x_50_128 rfl ?_
    obtain ⟨b31, hb32, h⟩ := h
    refine r_getR x_50_129 rfl (ci := 2) (k := 1) (ns := 0) (by decide +kernel) (by decide) rfl (kz := 1) rfl hO1 hb32 ?_
    refine r_iload_n x_50_132 rfl ?_
    refine r_invS x_50_133 (z := 40) (ns := 0) (by decide +kernel) (as := [.ref b31, g_n v2]) (r := []) rfl rfl rfl ?_
    refine r_callI h fun r36 M33 hx34 hok35 hr37 h => ?_
    replace h := h hx34 hok35 hr37
    replace hO1 := hO1.up hx34
    obtain ⟨hz, h⟩ := h
    exact r_retZ x_50_136 rfl hz h
  replace h := h.2 hk38
  refine r_tableD x_50_10 hv1 (t := 137) (lo := 3) (hi := 12) (by omega) (by decide +kernel) ?_
  refine r_iconst x_50_137 ?_
  exact r_retZ x_50_138 rfl (Or.inr rfl) h
theorem m_X2_holds {d : Nat} {M : g_M} {Q : Int → g_M → Prop} {a0 : Nat} {v1 : Int} (hv1 : g_InR v1) {v2 : Int} (hv2 : g_InR v2) {v3 : Int} (hv3 : g_InR v3) (h : g_ok M → g_O M a0 2 ∧ ∃ b2, g_r M a0 1 = some b2 ∧ g_Call d 112 [.ref b2, g_n v1] M (g_qI fun r7 M4 => g_ext M M4 → g_ok M4 → g_InR r7 → g_Run d 51 13 [(0, .ref a0), (1, g_n v1), (2, g_n v2), (3, g_n v3), (4, g_n r7), (5, g_n 0)] [] M4 (g_qI Q))) : g_Call (d + 1) 51 [.ref a0, g_n v1, g_n v2, g_n v3] M (g_qI Q) := by
  refine g_Call.ok fun hok0 => ?_
  replace h := h hok0
  refine r_body rfl (lv := [(0, .ref a0), (1, g_n v1), (2, g_n v2), (3, g_n v3)]) rfl ?_
  refine g_Run.ok fun hok => ?_
  refine r_aload_n x_51_0 rfl ?_
  obtain ⟨hO1, h⟩ := h
  obtain ⟨b2, hb3, h⟩ := h
  refine r_getR x_51_1 rfl (ci := 2) (k := 1) (ns := 0) (by decide +kernel) (by decide) rfl (kz := 1) rfl hO1 hb3 ?_
  refine r_iload_n x_51_4 rfl ?_
  refine r_invS x_51_5 (z := 112) (ns := 1) (by decide +kernel) (as := [.ref b2, g_n v1]) (r := []) rfl rfl rfl ?_
  refine r_callI h fun r7 M4 hx5 hok6 hr8 h => ?_
  replace h := h hx5 hok6 hr8
  replace hO1 := hO1.up hx5
  refine r_istore x_51_8 (by decide +kernel) rfl (lv1 := [(0, .ref a0), (1, g_n v1), (2, g_n v2), (3, g_n v3), (4, g_n r7)]) rfl ?_
  refine r_iconst x_51_10 ?_
  refine r_istore x_51_11 (by decide +kernel) rfl (lv1 := [(0, .ref a0), (1, g_n v1), (2, g_n v2), (3, g_n v3), (4, g_n r7), (5, g_n 0)]) rfl ?_
  exact h
theorem s_X2_holds_13 {d : Nat} {M : g_M} {Q : Int → g_M → Prop} {a0 : Nat} {v1 : Int} (hv1 : g_InR v1) {v2 : Int} (hv2 : g_InR v2) {v3 : Int} (hv3 : g_InR v3) {v4 : Int} (hv4 : g_InR v4) {v5 : Int} (hv5 : g_InR v5) (h : g_ok M → ((v5 < 2000 → g_O M a0 2 ∧ ∃ b2, g_r M a0 1 = some b2 ∧ g_Call d 108 [.ref b2, g_n v4] M (g_qI fun r7 M4 => g_ext M M4 → g_ok M4 → g_InR r7 → ((r7 = 0 → Q 1 M4) ∧ (¬ r7 = 0 → ((60 < v3 → Q 0 M4) ∧ (¬ 60 < v3 → g_InR (v3 + 1) ∧ g_Call d 52 [.ref a0, g_n v4, g_n v2, g_n (v3 + 1)] M4 (g_qI fun r13 M10 => g_ext M4 M10 → g_ok M10 → g_InR r13 → ((r13 = 0 → Q 0 M10) ∧ (¬ r13 = 0 → ∃ b15, g_r M10 a0 1 = some b15 ∧ g_Call d 111 [.ref b15, g_n v4] M10 (g_qI fun r20 M17 => g_ext M10 M17 → g_ok M17 → g_InR r20 → g_InR (v5 + 1) ∧ g_Run d 51 13 [(0, .ref a0), (1, g_n v1), (2, g_n v2), (3, g_n v3), (4, g_n r20), (5, g_n (v5 + 1))] [] M17 (g_qI Q))))))))))) ∧ (¬ v5 < 2000 → Q 1 M))) : g_Run d 51 13 [(0, .ref a0), (1, g_n v1), (2, g_n v2), (3, g_n v3), (4, g_n v4), (5, g_n v5)] [] M (g_qI Q) := by
  refine g_Run.ok fun hok => ?_
  replace h := h hok
  refine r_iload x_51_13 rfl ?_
  refine r_sipush x_51_15 (x := 2000) rfl ?_
  refine r_ic_ge x_51_18 (t := 71) (by decide +kernel) hv5 (g_Rk rfl) (fun hc => ?_) (fun hc => ?_)
  · replace h := h.2 hc
    refine r_iconst x_51_71 ?_
    exact r_retZ x_51_72 rfl (Or.inr rfl) h
  · replace h := h.1 hc
    refine r_aload_n x_51_21 rfl ?_
    obtain ⟨hO1, h⟩ := h
    obtain ⟨b2, hb3, h⟩ := h
    refine r_getR x_51_22 rfl (ci := 2) (k := 1) (ns := 0) (by decide +kernel) (by decide) rfl (kz := 1) rfl hO1 hb3 ?_
    refine r_iload x_51_25 rfl ?_
    refine r_invS x_51_27 (z := 108) (ns := 1) (by decide +kernel) (as := [.ref b2, g_n v4]) (r := []) rfl rfl rfl ?_
    refine r_callI h fun r7 M4 hx5 hok6 hr8 h => ?_
    replace h := h hx5 hok6 hr8
    replace hO1 := hO1.up hx5
    refine r_if_eq x_51_30 (t := 71) (by decide +kernel) hr8 (fun hc => ?_) (fun hc => ?_)
    · replace h := h.1 hc
      refine r_iconst x_51_71 ?_
      exact r_retZ x_51_72 rfl (Or.inr rfl) h
    · replace h := h.2 hc
      refine r_iload_n x_51_33 rfl ?_
      refine r_bipush x_51_34 (x := 60) rfl ?_
      refine r_ic_gt x_51_36 (t := 52) (by decide +kernel) hv3 (g_Rk rfl) (fun hc => ?_) (fun hc => ?_)
      · replace h := h.1 hc
        refine r_iconst x_51_52 ?_
        exact r_retZ x_51_53 rfl (Or.inl rfl) h
      · replace h := h.2 hc
        refine r_aload_n x_51_39 rfl ?_
        refine r_iload x_51_40 rfl ?_
        refine r_iload_n x_51_42 rfl ?_
        refine r_iload_n x_51_43 rfl ?_
        refine r_iconst x_51_44 ?_
        refine r_iadd x_51_45 ?_
        obtain ⟨h9, h⟩ := h
        refine r_invV x_51_46 (z := 52) (ns := 0) (by decide +kernel) (as := [g_n v4, g_n v2, g_n (v3 + 1)]) (r := []) rfl rfl rfl hO1 rfl rfl ?_
        refine r_callI h fun r13 M10 hx11 hok12 hr14 h => ?_
        replace h := h hx11 hok12 hr14
        replace hO1 := hO1.up hx11
        refine r_if_ne x_51_49 (t := 54) (by decide +kernel) hr14 (fun hc => ?_) (fun hc => ?_)
        · replace h := h.2 hc
          refine r_aload_n x_51_54 rfl ?_
          obtain ⟨b15, hb16, h⟩ := h
          refine r_getR x_51_55 rfl (ci := 2) (k := 1) (ns := 0) (by decide +kernel) (by decide) rfl (kz := 1) rfl hO1 hb16 ?_
          refine r_iload x_51_58 rfl ?_
          refine r_invS x_51_60 (z := 111) (ns := 1) (by decide +kernel) (as := [.ref b15, g_n v4]) (r := []) rfl rfl rfl ?_
          refine r_callI h fun r20 M17 hx18 hok19 hr21 h => ?_
          replace h := h hx18 hok19 hr21
          replace hO1 := hO1.up hx18
          refine r_istore x_51_63 (by decide +kernel) rfl (lv1 := [(0, .ref a0), (1, g_n v1), (2, g_n v2), (3, g_n v3), (4, g_n r20), (5, g_n v5)]) rfl ?_
          obtain ⟨h22, h⟩ := h
          refine r_iinc x_51_65 (by decide +kernel) rfl rfl (lv1 := [(0, .ref a0), (1, g_n v1), (2, g_n v2), (3, g_n v3), (4, g_n r20), (5, g_n (v5 + 1))]) rfl ?_
          refine r_goto x_51_68 (t := 13) (by decide +kernel) ?_
          exact h
        · replace h := h.1 hc
          refine r_iconst x_51_52 ?_
          exact r_retZ x_51_53 rfl (Or.inl rfl) h
theorem m_X2_elementHolds {d : Nat} {M : g_M} {Q : Int → g_M → Prop} {a0 : Nat} {v1 : Int} (hv1 : g_InR v1) {v2 : Int} (hv2 : g_InR v2) {v3 : Int} (hv3 : g_InR v3) (h : g_ok M → g_O M a0 2 ∧ ∃ b2, g_r M a0 1 = some b2 ∧ g_Call d 116 [.ref b2, g_n v1] M (g_qI fun r7 M4 => g_ext M M4 → g_ok M4 → g_InR r7 → ((r7 = 0 → ∃ b9, g_r M4 a0 0 = some b9 ∧ g_O M4 b9 7 ∧ ∃ b12, g_r M4 a0 2 = some b12 ∧ ∃ b14, g_r M4 a0 1 = some b14 ∧ g_O M4 b12 5 ∧ g_Call d 91 [.ref b12, .ref b14, g_n v1] M4 (g_qI fun r20 M17 => g_ext M4 M17 → g_ok M17 → g_InR r20 → ∃ b22, g_r M17 a0 2 = some b22 ∧ ∃ b24, g_r M17 a0 0 = some b24 ∧ g_O M17 b22 5 ∧ g_Call d 94 [.ref b22, .ref b24, g_n v2, g_n 0, g_n 0] M17 (g_qV fun M27 => g_ext M17 M27 → g_ok M27 → ∃ b30, g_r M27 a0 0 = some b30 ∧ g_O M27 b30 7 ∧ ((g_i M27 b30 2 = g_i M4 b9 2 → ∃ b33, g_r M27 a0 0 = some b33 ∧ g_O M27 b33 7 ∧ g_Call d 104 [.ref b33, g_n ((-1))] M27 (g_qV fun M36 => g_ext M27 M36 → g_ok M36 → g_Run d 52 75 [(0, .ref a0), (1, g_n v1), (2, g_n v2), (3, g_n v3), (4, g_n (g_i M4 b9 2))] [] M36 (g_qI Q))) ∧ (¬ g_i M27 b30 2 = g_i M4 b9 2 → g_Run d 52 75 [(0, .ref a0), (1, g_n v1), (2, g_n v2), (3, g_n v3), (4, g_n (g_i M4 b9 2))] [] M27 (g_qI Q)))))) ∧ (¬ r7 = 0 → g_Call d 53 [.ref a0, g_n v1, g_n v2, g_n v3] M4 (g_qI fun r42 M39 => g_ext M4 M39 → g_ok M39 → g_InR r42 → (r42 = 0 ∨ r42 = 1) ∧ Q r42 M39))))) : g_Call (d + 1) 52 [.ref a0, g_n v1, g_n v2, g_n v3] M (g_qI Q) := by
  refine g_Call.ok fun hok0 => ?_
  replace h := h hok0
  refine r_body rfl (lv := [(0, .ref a0), (1, g_n v1), (2, g_n v2), (3, g_n v3)]) rfl ?_
  refine g_Run.ok fun hok => ?_
  refine r_aload_n x_52_0 rfl ?_
  obtain ⟨hO1, h⟩ := h
  obtain ⟨b2, hb3, h⟩ := h
  refine r_getR x_52_1 rfl (ci := 2) (k := 1) (ns := 0) (by decide +kernel) (by decide) rfl (kz := 1) rfl hO1 hb3 ?_
  refine r_iload_n x_52_4 rfl ?_
  refine r_invS x_52_5 (z := 116) (ns := 1) (by decide +kernel) (as := [.ref b2, g_n v1]) (r := []) rfl rfl rfl ?_
  refine r_callI h fun r7 M4 hx5 hok6 hr8 h => ?_
  replace h := h hx5 hok6 hr8
  replace hO1 := hO1.up hx5
  refine r_if_eq x_52_8 (t := 19) (by decide +kernel) hr8 (fun hc => ?_) (fun hc => ?_)
  · replace h := h.1 hc
    refine r_aload_n x_52_19 rfl ?_
    obtain ⟨b9, hb10, h⟩ := h
    refine r_getR x_52_20 rfl (ci := 2) (k := 0) (ns := 0) (by decide +kernel) (by decide) rfl (kz := 0) rfl hO1 hb10 ?_
    obtain ⟨hO11, h⟩ := h
    refine r_getI x_52_23 rfl (ci := 7) (k := 2) (ns := 1) (by decide +kernel) (by decide) rfl (kz := 2) rfl hO11 ?_
    refine r_istore x_52_26 (by decide +kernel) rfl (lv1 := [(0, .ref a0), (1, g_n v1), (2, g_n v2), (3, g_n v3), (4, g_n (g_i M4 b9 2))]) rfl ?_
    refine r_aload_n x_52_28 rfl ?_
    obtain ⟨b12, hb13, h⟩ := h
    refine r_getR x_52_29 rfl (ci := 2) (k := 2) (ns := 0) (by decide +kernel) (by decide) rfl (kz := 2) rfl hO1 hb13 ?_
    refine r_aload_n x_52_32 rfl ?_
    obtain ⟨b14, hb15, h⟩ := h
    refine r_getR x_52_33 rfl (ci := 2) (k := 1) (ns := 0) (by decide +kernel) (by decide) rfl (kz := 1) rfl hO1 hb15 ?_
    refine r_iload_n x_52_36 rfl ?_
    obtain ⟨hO16, h⟩ := h
    refine r_invV x_52_37 (z := 91) (ns := 1) (by decide +kernel) (as := [.ref b14, g_n v1]) (r := []) rfl rfl rfl hO16 rfl rfl ?_
    refine r_callI h fun r20 M17 hx18 hok19 hr21 h => ?_
    replace h := h hx18 hok19 hr21
    replace hO1 := hO1.up hx18
    replace hO11 := hO11.up hx18
    replace hO16 := hO16.up hx18
    refine r_pop x_52_40 rfl ?_
    refine r_aload_n x_52_41 rfl ?_
    obtain ⟨b22, hb23, h⟩ := h
    refine r_getR x_52_42 rfl (ci := 2) (k := 2) (ns := 0) (by decide +kernel) (by decide) rfl (kz := 2) rfl hO1 hb23 ?_
    refine r_aload_n x_52_45 rfl ?_
    obtain ⟨b24, hb25, h⟩ := h
    refine r_getR x_52_46 rfl (ci := 2) (k := 0) (ns := 0) (by decide +kernel) (by decide) rfl (kz := 0) rfl hO1 hb25 ?_
    refine r_iload_n x_52_49 rfl ?_
    refine r_iconst x_52_50 ?_
    refine r_iconst x_52_51 ?_
    obtain ⟨hO26, h⟩ := h
    refine r_invV x_52_52 (z := 94) (ns := 1) (by decide +kernel) (as := [.ref b24, g_n v2, g_n 0, g_n 0]) (r := []) rfl rfl rfl hO26 rfl rfl ?_
    refine r_callV h fun M27 hx28 hok29 h => ?_
    replace h := h hx28 hok29
    replace hO1 := hO1.up hx28
    replace hO11 := hO11.up hx28
    replace hO16 := hO16.up hx28
    replace hO26 := hO26.up hx28
    refine r_aload_n x_52_55 rfl ?_
    obtain ⟨b30, hb31, h⟩ := h
    refine r_getR x_52_56 rfl (ci := 2) (k := 0) (ns := 0) (by decide +kernel) (by decide) rfl (kz := 0) rfl hO1 hb31 ?_
    obtain ⟨hO32, h⟩ := h
    refine r_getI x_52_59 rfl (ci := 7) (k := 2) (ns := 1) (by decide +kernel) (by decide) rfl (kz := 2) rfl hO32 ?_
    refine r_iload x_52_62 rfl ?_
    refine r_ic_ne x_52_64 (t := 75) (by decide +kernel) (hok29.1 _ _) (hok6.1 _ _) (fun hc => ?_) (fun hc => ?_)
    · replace h := h.2 hc
      exact h
    · replace h := h.1 hc
      refine r_aload_n x_52_67 rfl ?_
      obtain ⟨b33, hb34, h⟩ := h
      refine r_getR x_52_68 rfl (ci := 2) (k := 0) (ns := 0) (by decide +kernel) (by decide) rfl (kz := 0) rfl hO1 hb34 ?_
      refine r_iconst x_52_71 ?_
      obtain ⟨hO35, h⟩ := h
      refine r_invV x_52_72 (z := 104) (ns := 1) (by decide +kernel) (as := [g_n ((-1))]) (r := []) rfl rfl rfl hO35 rfl rfl ?_
      refine r_callV h fun M36 hx37 hok38 h => ?_
      replace h := h hx37 hok38
      replace hO1 := hO1.up hx37
      replace hO11 := hO11.up hx37
      replace hO16 := hO16.up hx37
      replace hO26 := hO26.up hx37
      replace hO32 := hO32.up hx37
      replace hO35 := hO35.up hx37
      exact h
  · replace h := h.2 hc
    refine r_aload_n x_52_11 rfl ?_
    refine r_iload_n x_52_12 rfl ?_
    refine r_iload_n x_52_13 rfl ?_
    refine r_iload_n x_52_14 rfl ?_
    refine r_invV x_52_15 (z := 53) (ns := 0) (by decide +kernel) (as := [g_n v1, g_n v2, g_n v3]) (r := []) rfl rfl rfl hO1 rfl rfl ?_
    refine r_callI h fun r42 M39 hx40 hok41 hr43 h => ?_
    replace h := h hx40 hok41 hr43
    replace hO1 := hO1.up hx40
    obtain ⟨hz, h⟩ := h
    exact r_retZ x_52_18 rfl hz h
theorem s_X2_elementHolds_75 {d : Nat} {M : g_M} {Q : Int → g_M → Prop} {a0 : Nat} {v1 : Int} (hv1 : g_InR v1) {v2 : Int} (hv2 : g_InR v2) {v3 : Int} (hv3 : g_InR v3) {v4 : Int} (hv4 : g_InR v4) (h : g_ok M → g_O M a0 2 ∧ ∃ b2, g_r M a0 1 = some b2 ∧ g_Call d 40 [.ref b2, g_n v1] M (g_qI fun r7 M4 => g_ext M M4 → g_ok M4 → g_InR r7 → ((r7 = 0 → ∃ b9, g_r M4 a0 0 = some b9 ∧ g_O M4 b9 7 ∧ g_Call d 56 [.ref a0, g_n v1, g_n v4, g_n (g_i M4 b9 2)] M4 (g_qI fun r15 M12 => g_ext M4 M12 → g_ok M12 → g_InR r15 → ∃ b17, g_r M12 a0 0 = some b17 ∧ g_O M12 b17 7 ∧ (∀ M20, M20 = g_wi M12 b17 2 v4 → g_ok M20 → (r15 = 0 ∨ r15 = 1) ∧ Q r15 M20))) ∧ (¬ r7 = 0 → ∃ b24, g_r M4 a0 0 = some b24 ∧ g_O M4 b24 7 ∧ g_Call d 54 [.ref a0, g_n v1, g_n v4, g_n (g_i M4 b24 2), g_n v3] M4 (g_qI fun r30 M27 => g_ext M4 M27 → g_ok M27 → g_InR r30 → ∃ b32, g_r M27 a0 0 = some b32 ∧ g_O M27 b32 7 ∧ (∀ M35, M35 = g_wi M27 b32 2 v4 → g_ok M35 → (r30 = 0 ∨ r30 = 1) ∧ Q r30 M35)))))) : g_Run d 52 75 [(0, .ref a0), (1, g_n v1), (2, g_n v2), (3, g_n v3), (4, g_n v4)] [] M (g_qI Q) := by
  refine g_Run.ok fun hok => ?_
  replace h := h hok
  refine r_aload_n x_52_75 rfl ?_
  obtain ⟨hO1, h⟩ := h
  obtain ⟨b2, hb3, h⟩ := h
  refine r_getR x_52_76 rfl (ci := 2) (k := 1) (ns := 0) (by decide +kernel) (by decide) rfl (kz := 1) rfl hO1 hb3 ?_
  refine r_iload_n x_52_79 rfl ?_
  refine r_invS x_52_80 (z := 40) (ns := 0) (by decide +kernel) (as := [.ref b2, g_n v1]) (r := []) rfl rfl rfl ?_
  refine r_callI h fun r7 M4 hx5 hok6 hr8 h => ?_
  replace h := h hx5 hok6 hr8
  replace hO1 := hO1.up hx5
  refine r_if_eq x_52_83 (t := 104) (by decide +kernel) hr8 (fun hc => ?_) (fun hc => ?_)
  · replace h := h.1 hc
    refine r_aload_n x_52_104 rfl ?_
    refine r_iload_n x_52_105 rfl ?_
    refine r_iload x_52_106 rfl ?_
    refine r_aload_n x_52_108 rfl ?_
    obtain ⟨b9, hb10, h⟩ := h
    refine r_getR x_52_109 rfl (ci := 2) (k := 0) (ns := 0) (by decide +kernel) (by decide) rfl (kz := 0) rfl hO1 hb10 ?_
    obtain ⟨hO11, h⟩ := h
    refine r_getI x_52_112 rfl (ci := 7) (k := 2) (ns := 1) (by decide +kernel) (by decide) rfl (kz := 2) rfl hO11 ?_
    refine r_invV x_52_115 (z := 56) (ns := 0) (by decide +kernel) (as := [g_n v1, g_n v4, g_n (g_i M4 b9 2)]) (r := []) rfl rfl rfl hO1 rfl rfl ?_
    refine r_callI h fun r15 M12 hx13 hok14 hr16 h => ?_
    replace h := h hx13 hok14 hr16
    replace hO1 := hO1.up hx13
    replace hO11 := hO11.up hx13
    refine r_istore x_52_118 (by decide +kernel) rfl (lv1 := [(0, .ref a0), (1, g_n v1), (2, g_n v2), (3, g_n v3), (4, g_n v4), (5, g_n r15)]) rfl ?_
    refine r_aload_n x_52_120 rfl ?_
    obtain ⟨b17, hb18, h⟩ := h
    refine r_getR x_52_121 rfl (ci := 2) (k := 0) (ns := 0) (by decide +kernel) (by decide) rfl (kz := 0) rfl hO1 hb18 ?_
    refine r_iload x_52_124 rfl ?_
    obtain ⟨hO19, h⟩ := h
    refine r_putI x_52_126 (ci := 7) (k := 2) (ns := 1) (by decide +kernel) (by decide) (g_f0 (by decide +kernel)) rfl hv4 trivial (kz := 2) rfl hO19 ?_
    obtain ⟨M20, hM21⟩ : ∃ Mz, Mz = g_wi M12 b17 2 v4 := ⟨_, rfl⟩
    rw [← hM21]
    refine g_Run.ok fun hok22 => ?_
    replace h := h M20 hM21 hok22
    have hx23 := g_extW hM21
    replace hO1 := hO1.up hx23
    replace hO11 := hO11.up hx23
    replace hO19 := hO19.up hx23
    refine r_iload x_52_129 rfl ?_
    obtain ⟨hz, h⟩ := h
    exact r_retZ x_52_131 rfl hz h
  · replace h := h.2 hc
    refine r_aload_n x_52_86 rfl ?_
    refine r_iload_n x_52_87 rfl ?_
    refine r_iload x_52_88 rfl ?_
    refine r_aload_n x_52_90 rfl ?_
    obtain ⟨b24, hb25, h⟩ := h
    refine r_getR x_52_91 rfl (ci := 2) (k := 0) (ns := 0) (by decide +kernel) (by decide) rfl (kz := 0) rfl hO1 hb25 ?_
    obtain ⟨hO26, h⟩ := h
    refine r_getI x_52_94 rfl (ci := 7) (k := 2) (ns := 1) (by decide +kernel) (by decide) rfl (kz := 2) rfl hO26 ?_
    refine r_iload_n x_52_97 rfl ?_
    refine r_invV x_52_98 (z := 54) (ns := 0) (by decide +kernel) (as := [g_n v1, g_n v4, g_n (g_i M4 b24 2), g_n v3]) (r := []) rfl rfl rfl hO1 rfl rfl ?_
    refine r_callI h fun r30 M27 hx28 hok29 hr31 h => ?_
    replace h := h hx28 hok29 hr31
    replace hO1 := hO1.up hx28
    replace hO26 := hO26.up hx28
    refine r_goto x_52_101 (t := 118) (by decide +kernel) ?_
    refine r_istore x_52_118 (by decide +kernel) rfl (lv1 := [(0, .ref a0), (1, g_n v1), (2, g_n v2), (3, g_n v3), (4, g_n v4), (5, g_n r30)]) rfl ?_
    refine r_aload_n x_52_120 rfl ?_
    obtain ⟨b32, hb33, h⟩ := h
    refine r_getR x_52_121 rfl (ci := 2) (k := 0) (ns := 0) (by decide +kernel) (by decide) rfl (kz := 0) rfl hO1 hb33 ?_
    refine r_iload x_52_124 rfl ?_
    obtain ⟨hO34, h⟩ := h
    refine r_putI x_52_126 (ci := 7) (k := 2) (ns := 1) (by decide +kernel) (by decide) (g_f0 (by decide +kernel)) rfl hv4 trivial (kz := 2) rfl hO34 ?_
    obtain ⟨M35, hM36⟩ : ∃ Mz, Mz = g_wi M27 b32 2 v4 := ⟨_, rfl⟩
    rw [← hM36]
    refine g_Run.ok fun hok37 => ?_
    replace h := h M35 hM36 hok37
    have hx38 := g_extW hM36
    replace hO1 := hO1.up hx38
    replace hO26 := hO26.up hx38
    replace hO34 := hO34.up hx38
    refine r_iload x_52_129 rfl ?_
    obtain ⟨hz, h⟩ := h
    exact r_retZ x_52_131 rfl hz h
theorem m_X2_logicHolds {d : Nat} {M : g_M} {Q : Int → g_M → Prop} {a0 : Nat} {v1 : Int} (hv1 : g_InR v1) {v2 : Int} (hv2 : g_InR v2) {v3 : Int} (hv3 : g_InR v3) (h : g_ok M → g_O M a0 2 ∧ ∃ b2, g_r M a0 1 = some b2 ∧ g_Call d 115 [.ref b2, g_n v1, .ref (4 * 14 + 1)] M (g_qI fun r7 M4 => g_ext M M4 → g_ok M4 → g_InR r7 → ∃ b9, g_r M4 a0 1 = some b9 ∧ g_Call d 115 [.ref b9, g_n v1, .ref (4 * 15 + 1)] M4 (g_qI fun r14 M11 => g_ext M4 M11 → g_ok M11 → g_InR r14 → ∃ b16, g_r M11 a0 1 = some b16 ∧ g_Call d 112 [.ref b16, g_n v1] M11 (g_qI fun r21 M18 => g_ext M11 M18 → g_ok M18 → g_InR r21 → g_Run d 53 37 [(0, .ref a0), (1, g_n v1), (2, g_n v2), (3, g_n v3), (4, g_n r7), (5, g_n r14), (6, g_n r21), (7, g_n 0)] [] M18 (g_qI Q))))) : g_Call (d + 1) 53 [.ref a0, g_n v1, g_n v2, g_n v3] M (g_qI Q) := by
  refine g_Call.ok fun hok0 => ?_
  replace h := h hok0
  refine r_body rfl (lv := [(0, .ref a0), (1, g_n v1), (2, g_n v2), (3, g_n v3)]) rfl ?_
  refine g_Run.ok fun hok => ?_
  refine r_aload_n x_53_0 rfl ?_
  obtain ⟨hO1, h⟩ := h
  obtain ⟨b2, hb3, h⟩ := h
  refine r_getR x_53_1 rfl (ci := 2) (k := 1) (ns := 0) (by decide +kernel) (by decide) rfl (kz := 1) rfl hO1 hb3 ?_
  refine r_iload_n x_53_4 rfl ?_
  refine r_ldc x_53_5 (v := .ref (4 * 14 + 1)) rfl ?_
  refine r_invS x_53_7 (z := 115) (ns := 1) (by decide +kernel) (as := [.ref b2, g_n v1, .ref (4 * 14 + 1)]) (r := []) rfl rfl rfl ?_
  refine r_callI h fun r7 M4 hx5 hok6 hr8 h => ?_
  replace h := h hx5 hok6 hr8
  replace hO1 := hO1.up hx5
  refine r_istore x_53_10 (by decide +kernel) rfl (lv1 := [(0, .ref a0), (1, g_n v1), (2, g_n v2), (3, g_n v3), (4, g_n r7)]) rfl ?_
  refine r_aload_n x_53_12 rfl ?_
  obtain ⟨b9, hb10, h⟩ := h
  refine r_getR x_53_13 rfl (ci := 2) (k := 1) (ns := 0) (by decide +kernel) (by decide) rfl (kz := 1) rfl hO1 hb10 ?_
  refine r_iload_n x_53_16 rfl ?_
  refine r_ldc x_53_17 (v := .ref (4 * 15 + 1)) rfl ?_
  refine r_invS x_53_19 (z := 115) (ns := 1) (by decide +kernel) (as := [.ref b9, g_n v1, .ref (4 * 15 + 1)]) (r := []) rfl rfl rfl ?_
  refine r_callI h fun r14 M11 hx12 hok13 hr15 h => ?_
  replace h := h hx12 hok13 hr15
  replace hO1 := hO1.up hx12
  refine r_istore x_53_22 (by decide +kernel) rfl (lv1 := [(0, .ref a0), (1, g_n v1), (2, g_n v2), (3, g_n v3), (4, g_n r7), (5, g_n r14)]) rfl ?_
  refine r_aload_n x_53_24 rfl ?_
  obtain ⟨b16, hb17, h⟩ := h
  refine r_getR x_53_25 rfl (ci := 2) (k := 1) (ns := 0) (by decide +kernel) (by decide) rfl (kz := 1) rfl hO1 hb17 ?_
  refine r_iload_n x_53_28 rfl ?_
  refine r_invS x_53_29 (z := 112) (ns := 1) (by decide +kernel) (as := [.ref b16, g_n v1]) (r := []) rfl rfl rfl ?_
  refine r_callI h fun r21 M18 hx19 hok20 hr22 h => ?_
  replace h := h hx19 hok20 hr22
  replace hO1 := hO1.up hx19
  refine r_istore x_53_32 (by decide +kernel) rfl (lv1 := [(0, .ref a0), (1, g_n v1), (2, g_n v2), (3, g_n v3), (4, g_n r7), (5, g_n r14), (6, g_n r21)]) rfl ?_
  refine r_iconst x_53_34 ?_
  refine r_istore x_53_35 (by decide +kernel) rfl (lv1 := [(0, .ref a0), (1, g_n v1), (2, g_n v2), (3, g_n v3), (4, g_n r7), (5, g_n r14), (6, g_n r21), (7, g_n 0)]) rfl ?_
  exact h
theorem s_X2_logicHolds_37 {d : Nat} {M : g_M} {Q : Int → g_M → Prop} {a0 : Nat} {v1 : Int} (hv1 : g_InR v1) {v2 : Int} (hv2 : g_InR v2) {v3 : Int} (hv3 : g_InR v3) {v4 : Int} (hv4 : g_InR v4) {v5 : Int} (hv5 : g_InR v5) {v6 : Int} (hv6 : g_InR v6) {v7 : Int} (hv7 : g_InR v7) (h : g_ok M → ((v7 < 2000 → g_O M a0 2 ∧ ∃ b2, g_r M a0 1 = some b2 ∧ g_Call d 108 [.ref b2, g_n v6] M (g_qI fun r7 M4 => g_ext M M4 → g_ok M4 → g_InR r7 → ((r7 = 0 → ((v5 = 0 → Q 1 M4) ∧ (¬ v5 = 0 → Q 0 M4))) ∧ (¬ r7 = 0 → g_InR (v3 + 1) ∧ g_Call d 51 [.ref a0, g_n v6, g_n v2, g_n (v3 + 1)] M4 (g_qI fun r13 M10 => g_ext M4 M10 → g_ok M10 → g_InR r13 → ((r13 = v4 → ∃ b15, g_r M10 a0 1 = some b15 ∧ g_Call d 111 [.ref b15, g_n v6] M10 (g_qI fun r20 M17 => g_ext M10 M17 → g_ok M17 → g_InR r20 → g_InR (v7 + 1) ∧ g_Run d 53 37 [(0, .ref a0), (1, g_n v1), (2, g_n v2), (3, g_n v3), (4, g_n v4), (5, g_n v5), (6, g_n r20), (7, g_n (v7 + 1))] [] M17 (g_qI Q))) ∧ (¬ r13 = v4 → (v5 = 0 ∨ v5 = 1) ∧ Q v5 M10))))))) ∧ (¬ v7 < 2000 → ((v5 = 0 → Q 1 M) ∧ (¬ v5 = 0 → Q 0 M))))) : g_Run d 53 37 [(0, .ref a0), (1, g_n v1), (2, g_n v2), (3, g_n v3), (4, g_n v4), (5, g_n v5), (6, g_n v6), (7, g_n v7)] [] M (g_qI Q) := by
  refine g_Run.ok fun hok => ?_
  replace h := h hok
  refine r_iload x_53_37 rfl ?_
  refine r_sipush x_53_39 (x := 2000) rfl ?_
  refine r_ic_ge x_53_42 (t := 96) (by decide +kernel) hv7 (g_Rk rfl) (fun hc => ?_) (fun hc => ?_)
  · replace h := h.2 hc
    refine r_iload x_53_96 rfl ?_
    refine r_if_ne x_53_98 (t := 105) (by decide +kernel) hv5 (fun hc => ?_) (fun hc => ?_)
    · replace h := h.2 hc
      refine r_iconst x_53_105 ?_
      exact r_retZ x_53_106 rfl (Or.inl rfl) h
    · replace h := h.1 hc
      refine r_iconst x_53_101 ?_
      refine r_goto x_53_102 (t := 106) (by decide +kernel) ?_
      exact r_retZ x_53_106 rfl (Or.inr rfl) h
  · replace h := h.1 hc
    refine r_aload_n x_53_45 rfl ?_
    obtain ⟨hO1, h⟩ := h
    obtain ⟨b2, hb3, h⟩ := h
    refine r_getR x_53_46 rfl (ci := 2) (k := 1) (ns := 0) (by decide +kernel) (by decide) rfl (kz := 1) rfl hO1 hb3 ?_
    refine r_iload x_53_49 rfl ?_
    refine r_invS x_53_51 (z := 108) (ns := 1) (by decide +kernel) (as := [.ref b2, g_n v6]) (r := []) rfl rfl rfl ?_
    refine r_callI h fun r7 M4 hx5 hok6 hr8 h => ?_
    replace h := h hx5 hok6 hr8
    replace hO1 := hO1.up hx5
    refine r_if_eq x_53_54 (t := 96) (by decide +kernel) hr8 (fun hc => ?_) (fun hc => ?_)
    · replace h := h.1 hc
      refine r_iload x_53_96 rfl ?_
      refine r_if_ne x_53_98 (t := 105) (by decide +kernel) hv5 (fun hc => ?_) (fun hc => ?_)
      · replace h := h.2 hc
        refine r_iconst x_53_105 ?_
        exact r_retZ x_53_106 rfl (Or.inl rfl) h
      · replace h := h.1 hc
        refine r_iconst x_53_101 ?_
        refine r_goto x_53_102 (t := 106) (by decide +kernel) ?_
        exact r_retZ x_53_106 rfl (Or.inr rfl) h
    · replace h := h.2 hc
      refine r_aload_n x_53_57 rfl ?_
      refine r_iload x_53_58 rfl ?_
      refine r_iload_n x_53_60 rfl ?_
      refine r_iload_n x_53_61 rfl ?_
      refine r_iconst x_53_62 ?_
      refine r_iadd x_53_63 ?_
      obtain ⟨h9, h⟩ := h
      refine r_invV x_53_64 (z := 51) (ns := 0) (by decide +kernel) (as := [g_n v6, g_n v2, g_n (v3 + 1)]) (r := []) rfl rfl rfl hO1 rfl rfl ?_
      refine r_callI h fun r13 M10 hx11 hok12 hr14 h => ?_
      replace h := h hx11 hok12 hr14
      replace hO1 := hO1.up hx11
      refine r_istore x_53_67 (by decide +kernel) rfl (lv1 := [(0, .ref a0), (1, g_n v1), (2, g_n v2), (3, g_n v3), (4, g_n v4), (5, g_n v5), (6, g_n v6), (7, g_n v7), (8, g_n r13)]) rfl ?_
      refine r_iload x_53_69 rfl ?_
      refine r_iload x_53_71 rfl ?_
      refine r_ic_eq x_53_73 (t := 79) (by decide +kernel) hr14 hv4 (fun hc => ?_) (fun hc => ?_)
      · replace h := h.1 hc
        refine r_aload_n x_53_79 rfl ?_
        obtain ⟨b15, hb16, h⟩ := h
        refine r_getR x_53_80 rfl (ci := 2) (k := 1) (ns := 0) (by decide +kernel) (by decide) rfl (kz := 1) rfl hO1 hb16 ?_
        refine r_iload x_53_83 rfl ?_
        refine r_invS x_53_85 (z := 111) (ns := 1) (by decide +kernel) (as := [.ref b15, g_n v6]) (r := []) rfl rfl rfl ?_
        refine r_callI h fun r20 M17 hx18 hok19 hr21 h => ?_
        replace h := h hx18 hok19 hr21
        replace hO1 := hO1.up hx18
        refine r_istore x_53_88 (by decide +kernel) rfl (lv1 := [(0, .ref a0), (1, g_n v1), (2, g_n v2), (3, g_n v3), (4, g_n v4), (5, g_n v5), (6, g_n r20), (7, g_n v7), (8, g_n r13)]) rfl ?_
        obtain ⟨h22, h⟩ := h
        refine r_iinc x_53_90 (by decide +kernel) rfl rfl (lv1 := [(0, .ref a0), (1, g_n v1), (2, g_n v2), (3, g_n v3), (4, g_n v4), (5, g_n v5), (6, g_n r20), (7, g_n (v7 + 1)), (8, g_n r13)]) rfl ?_
        refine r_goto x_53_93 (t := 37) (by decide +kernel) ?_
        refine g_drop [0, 1, 2, 3, 4, 5, 6, 7] (lv1 := [(0, .ref a0), (1, g_n v1), (2, g_n v2), (3, g_n v3), (4, g_n v4), (5, g_n v5), (6, g_n r20), (7, g_n (v7 + 1))]) rfl ?_
        exact h
      · replace h := h.2 hc
        refine r_iload x_53_76 rfl ?_
        obtain ⟨hz, h⟩ := h
        exact r_retZ x_53_78 rfl hz h
theorem m_X2_conditionsHold {d : Nat} {M : g_M} {Q : Int → g_M → Prop} {a0 : Nat} {v1 : Int} (hv1 : g_InR v1) {v2 : Int} (hv2 : g_InR v2) {v3 : Int} (hv3 : g_InR v3) {v4 : Int} (hv4 : g_InR v4) (h : g_ok M → g_O M a0 2 ∧ ∃ b2, g_r M a0 1 = some b2 ∧ g_Call d 112 [.ref b2, g_n v1] M (g_qI fun r7 M4 => g_ext M M4 → g_ok M4 → g_InR r7 → g_Run d 54 13 [(0, .ref a0), (1, g_n v1), (2, g_n v2), (3, g_n v3), (4, g_n v4), (5, g_n r7), (6, g_n 0)] [] M4 (g_qI Q))) : g_Call (d + 1) 54 [.ref a0, g_n v1, g_n v2, g_n v3, g_n v4] M (g_qI Q) := by
  refine g_Call.ok fun hok0 => ?_
  replace h := h hok0
  refine r_body rfl (lv := [(0, .ref a0), (1, g_n v1), (2, g_n v2), (3, g_n v3), (4, g_n v4)]) rfl ?_
  refine g_Run.ok fun hok => ?_
  refine r_aload_n x_54_0 rfl ?_
  obtain ⟨hO1, h⟩ := h
  obtain ⟨b2, hb3, h⟩ := h
  refine r_getR x_54_1 rfl (ci := 2) (k := 1) (ns := 0) (by decide +kernel) (by decide) rfl (kz := 1) rfl hO1 hb3 ?_
  refine r_iload_n x_54_4 rfl ?_
  refine r_invS x_54_5 (z := 112) (ns := 1) (by decide +kernel) (as := [.ref b2, g_n v1]) (r := []) rfl rfl rfl ?_
  refine r_callI h fun r7 M4 hx5 hok6 hr8 h => ?_
  replace h := h hx5 hok6 hr8
  replace hO1 := hO1.up hx5
  refine r_istore x_54_8 (by decide +kernel) rfl (lv1 := [(0, .ref a0), (1, g_n v1), (2, g_n v2), (3, g_n v3), (4, g_n v4), (5, g_n r7)]) rfl ?_
  refine r_iconst x_54_10 ?_
  refine r_istore x_54_11 (by decide +kernel) rfl (lv1 := [(0, .ref a0), (1, g_n v1), (2, g_n v2), (3, g_n v3), (4, g_n v4), (5, g_n r7), (6, g_n 0)]) rfl ?_
  exact h
theorem s_X2_conditionsHold_13 {d : Nat} {M : g_M} {Q : Int → g_M → Prop} {a0 : Nat} {v1 : Int} (hv1 : g_InR v1) {v2 : Int} (hv2 : g_InR v2) {v3 : Int} (hv3 : g_InR v3) {v4 : Int} (hv4 : g_InR v4) {v5 : Int} (hv5 : g_InR v5) {v6 : Int} (hv6 : g_InR v6) (h : g_ok M → ((v6 < 2000 → g_O M a0 2 ∧ ∃ b2, g_r M a0 1 = some b2 ∧ g_Call d 108 [.ref b2, g_n v5] M (g_qI fun r7 M4 => g_ext M M4 → g_ok M4 → g_InR r7 → ((r7 = 0 → Q 1 M4) ∧ (¬ r7 = 0 → ((60 < v4 → Q 0 M4) ∧ (¬ 60 < v4 → g_InR (v4 + 1) ∧ g_Call d 55 [.ref a0, g_n v5, g_n v2, g_n v3, g_n (v4 + 1)] M4 (g_qI fun r13 M10 => g_ext M4 M10 → g_ok M10 → g_InR r13 → ((r13 = 0 → Q 0 M10) ∧ (¬ r13 = 0 → ∃ b15, g_r M10 a0 1 = some b15 ∧ g_Call d 111 [.ref b15, g_n v5] M10 (g_qI fun r20 M17 => g_ext M10 M17 → g_ok M17 → g_InR r20 → g_InR (v6 + 1) ∧ g_Run d 54 13 [(0, .ref a0), (1, g_n v1), (2, g_n v2), (3, g_n v3), (4, g_n v4), (5, g_n r20), (6, g_n (v6 + 1))] [] M17 (g_qI Q))))))))))) ∧ (¬ v6 < 2000 → Q 1 M))) : g_Run d 54 13 [(0, .ref a0), (1, g_n v1), (2, g_n v2), (3, g_n v3), (4, g_n v4), (5, g_n v5), (6, g_n v6)] [] M (g_qI Q) := by
  refine g_Run.ok fun hok => ?_
  replace h := h hok
  refine r_iload x_54_13 rfl ?_
  refine r_sipush x_54_15 (x := 2000) rfl ?_
  refine r_ic_ge x_54_18 (t := 74) (by decide +kernel) hv6 (g_Rk rfl) (fun hc => ?_) (fun hc => ?_)
  · replace h := h.2 hc
    refine r_iconst x_54_74 ?_
    exact r_retZ x_54_75 rfl (Or.inr rfl) h
  · replace h := h.1 hc
    refine r_aload_n x_54_21 rfl ?_
    obtain ⟨hO1, h⟩ := h
    obtain ⟨b2, hb3, h⟩ := h
    refine r_getR x_54_22 rfl (ci := 2) (k := 1) (ns := 0) (by decide +kernel) (by decide) rfl (kz := 1) rfl hO1 hb3 ?_
    refine r_iload x_54_25 rfl ?_
    refine r_invS x_54_27 (z := 108) (ns := 1) (by decide +kernel) (as := [.ref b2, g_n v5]) (r := []) rfl rfl rfl ?_
    refine r_callI h fun r7 M4 hx5 hok6 hr8 h => ?_
    replace h := h hx5 hok6 hr8
    replace hO1 := hO1.up hx5
    refine r_if_eq x_54_30 (t := 74) (by decide +kernel) hr8 (fun hc => ?_) (fun hc => ?_)
    · replace h := h.1 hc
      refine r_iconst x_54_74 ?_
      exact r_retZ x_54_75 rfl (Or.inr rfl) h
    · replace h := h.2 hc
      refine r_iload x_54_33 rfl ?_
      refine r_bipush x_54_35 (x := 60) rfl ?_
      refine r_ic_gt x_54_37 (t := 55) (by decide +kernel) hv4 (g_Rk rfl) (fun hc => ?_) (fun hc => ?_)
      · replace h := h.1 hc
        refine r_iconst x_54_55 ?_
        exact r_retZ x_54_56 rfl (Or.inl rfl) h
      · replace h := h.2 hc
        refine r_aload_n x_54_40 rfl ?_
        refine r_iload x_54_41 rfl ?_
        refine r_iload_n x_54_43 rfl ?_
        refine r_iload_n x_54_44 rfl ?_
        refine r_iload x_54_45 rfl ?_
        refine r_iconst x_54_47 ?_
        refine r_iadd x_54_48 ?_
        obtain ⟨h9, h⟩ := h
        refine r_invV x_54_49 (z := 55) (ns := 0) (by decide +kernel) (as := [g_n v5, g_n v2, g_n v3, g_n (v4 + 1)]) (r := []) rfl rfl rfl hO1 rfl rfl ?_
        refine r_callI h fun r13 M10 hx11 hok12 hr14 h => ?_
        replace h := h hx11 hok12 hr14
        replace hO1 := hO1.up hx11
        refine r_if_ne x_54_52 (t := 57) (by decide +kernel) hr14 (fun hc => ?_) (fun hc => ?_)
        · replace h := h.2 hc
          refine r_aload_n x_54_57 rfl ?_
          obtain ⟨b15, hb16, h⟩ := h
          refine r_getR x_54_58 rfl (ci := 2) (k := 1) (ns := 0) (by decide +kernel) (by decide) rfl (kz := 1) rfl hO1 hb16 ?_
          refine r_iload x_54_61 rfl ?_
          refine r_invS x_54_63 (z := 111) (ns := 1) (by decide +kernel) (as := [.ref b15, g_n v5]) (r := []) rfl rfl rfl ?_
          refine r_callI h fun r20 M17 hx18 hok19 hr21 h => ?_
          replace h := h hx18 hok19 hr21
          replace hO1 := hO1.up hx18
          refine r_istore x_54_66 (by decide +kernel) rfl (lv1 := [(0, .ref a0), (1, g_n v1), (2, g_n v2), (3, g_n v3), (4, g_n v4), (5, g_n r20), (6, g_n v6)]) rfl ?_
          obtain ⟨h22, h⟩ := h
          refine r_iinc x_54_68 (by decide +kernel) rfl rfl (lv1 := [(0, .ref a0), (1, g_n v1), (2, g_n v2), (3, g_n v3), (4, g_n v4), (5, g_n r20), (6, g_n (v6 + 1))]) rfl ?_
          refine r_goto x_54_71 (t := 13) (by decide +kernel) ?_
          exact h
        · replace h := h.1 hc
          refine r_iconst x_54_55 ?_
          exact r_retZ x_54_56 rfl (Or.inl rfl) h
theorem m_X2_conditionHolds {d : Nat} {M : g_M} {Q : Int → g_M → Prop} {a0 : Nat} {v1 : Int} (hv1 : g_InR v1) {v2 : Int} (hv2 : g_InR v2) {v3 : Int} (hv3 : g_InR v3) {v4 : Int} (hv4 : g_InR v4) (h : g_ok M → g_O M a0 2 ∧ ∃ b2, g_r M a0 1 = some b2 ∧ g_Call d 38 [.ref b2, g_n v1] M (g_qI fun r7 M4 => g_ext M M4 → g_ok M4 → g_InR r7 → ((r7 = 1 → g_Call d 56 [.ref a0, g_n v1, g_n v2, g_n v3] M4 (g_qI fun r12 M9 => g_ext M4 M9 → g_ok M9 → g_InR r12 → (r12 = 0 ∨ r12 = 1) ∧ Q r12 M9)) ∧ (¬ r7 = 1 → ((r7 = 2 → g_Call d 56 [.ref a0, g_n v1, g_n v2, g_n v3] M4 (g_qI fun r18 M15 => g_ext M4 M15 → g_ok M15 → g_InR r18 → ((r18 = 0 → Q 1 M15) ∧ (¬ r18 = 0 → Q 0 M15)))) ∧ (¬ r7 = 2 → ((r7 = 3 → g_Call d 57 [.ref a0, g_n v1, g_n v2, g_n v3] M4 (g_qI fun r24 M21 => g_ext M4 M21 → g_ok M21 → g_InR r24 → (r24 = 0 ∨ r24 = 1) ∧ Q r24 M21)) ∧ (¬ r7 = 3 → ((r7 = 4 → g_Call d 57 [.ref a0, g_n v1, g_n v2, g_n v3] M4 (g_qI fun r30 M27 => g_ext M4 M27 → g_ok M27 → g_InR r30 → ((r30 = 0 → Q 1 M27) ∧ (¬ r30 = 0 → Q 0 M27)))) ∧ (¬ r7 = 4 → ((r7 = 5 → g_Call d 58 [.ref a0, g_n r7, g_n v1, g_n v2, g_n v3] M4 (g_qI fun r36 M33 => g_ext M4 M33 → g_ok M33 → g_InR r36 → (r36 = 0 ∨ r36 = 1) ∧ Q r36 M33)) ∧ (¬ r7 = 5 → ((r7 = 6 → g_Call d 58 [.ref a0, g_n r7, g_n v1, g_n v2, g_n v3] M4 (g_qI fun r42 M39 => g_ext M4 M39 → g_ok M39 → g_InR r42 → (r42 = 0 ∨ r42 = 1) ∧ Q r42 M39)) ∧ (¬ r7 = 6 → ((r7 = 7 → g_Call d 58 [.ref a0, g_n r7, g_n v1, g_n v2, g_n v3] M4 (g_qI fun r48 M45 => g_ext M4 M45 → g_ok M45 → g_InR r48 → (r48 = 0 ∨ r48 = 1) ∧ Q r48 M45)) ∧ (¬ r7 = 7 → ((r7 = 8 → g_Call d 58 [.ref a0, g_n r7, g_n v1, g_n v2, g_n v3] M4 (g_qI fun r54 M51 => g_ext M4 M51 → g_ok M51 → g_InR r54 → (r54 = 0 ∨ r54 = 1) ∧ Q r54 M51)) ∧ (¬ r7 = 8 → ((r7 = 9 → g_Call d 60 [.ref a0, g_n v2, g_n v3] M4 (g_qI fun r60 M57 => g_ext M4 M57 → g_ok M57 → g_InR r60 → ∃ b62, g_r M57 a0 1 = some b62 ∧ g_Call d 119 [.ref b62, g_n v1, g_n 1] M57 (g_qI fun r67 M64 => g_ext M57 M64 → g_ok M64 → g_InR r67 → ((r60 = r67 → Q 1 M64) ∧ (¬ r60 = r67 → Q 0 M64))))) ∧ (¬ r7 = 9 → ((r7 = 10 → ∃ b70, g_r M4 a0 1 = some b70 ∧ g_Call d 118 [.ref b70, g_n v1] M4 (g_qL fun R75 M72 => g_ext M4 M72 → g_ok M72 → g_Call d 61 [.ref a0, .long R75, g_n v2, g_n v3] M72 (g_qI fun r79 M76 => g_ext M72 M76 → g_ok M76 → g_InR r79 → (r79 = 0 ∨ r79 = 1) ∧ Q r79 M76))) ∧ (¬ r7 = 10 → ((r7 = 11 → g_Call d 62 [.ref a0, g_n v1, g_n v2, g_n v3, g_n v4] M4 (g_qI fun r85 M82 => g_ext M4 M82 → g_ok M82 → g_InR r85 → (r85 = 0 ∨ r85 = 1) ∧ Q r85 M82)) ∧ (¬ r7 = 11 → ((r7 = 12 → g_Call d 54 [.ref a0, g_n v1, g_n v2, g_n v3, g_n v4] M4 (g_qI fun r91 M88 => g_ext M4 M88 → g_ok M88 → g_InR r91 → ((r91 = 0 → Q 1 M88) ∧ (¬ r91 = 0 → Q 0 M88)))) ∧ (¬ r7 = 12 → g_Call d 58 [.ref a0, g_n r7, g_n v1, g_n v2, g_n v3] M4 (g_qI fun r97 M94 => g_ext M4 M94 → g_ok M94 → g_InR r97 → (r97 = 0 ∨ r97 = 1) ∧ Q r97 M94))))))))))))))))))))))))))) : g_Call (d + 1) 55 [.ref a0, g_n v1, g_n v2, g_n v3, g_n v4] M (g_qI Q) := by
  refine g_Call.ok fun hok0 => ?_
  replace h := h hok0
  refine r_body rfl (lv := [(0, .ref a0), (1, g_n v1), (2, g_n v2), (3, g_n v3), (4, g_n v4)]) rfl ?_
  refine g_Run.ok fun hok => ?_
  refine r_aload_n x_55_0 rfl ?_
  obtain ⟨hO1, h⟩ := h
  obtain ⟨b2, hb3, h⟩ := h
  refine r_getR x_55_1 rfl (ci := 2) (k := 1) (ns := 0) (by decide +kernel) (by decide) rfl (kz := 1) rfl hO1 hb3 ?_
  refine r_iload_n x_55_4 rfl ?_
  refine r_invS x_55_5 (z := 38) (ns := 0) (by decide +kernel) (as := [.ref b2, g_n v1]) (r := []) rfl rfl rfl ?_
  refine r_callI h fun r7 M4 hx5 hok6 hr8 h => ?_
  replace h := h hx5 hok6 hr8
  replace hO1 := hO1.up hx5
  refine r_istore x_55_8 (by decide +kernel) rfl (lv1 := [(0, .ref a0), (1, g_n v1), (2, g_n v2), (3, g_n v3), (4, g_n v4), (5, g_n r7)]) rfl ?_
  refine r_iload x_55_10 rfl ?_
  by_cases hk14 : r7 = 1
  · refine r_tableAt x_55_12 hk14 (t := 76) (g_Rk rfl) (by decide +kernel) ?_
    replace h := h.1 hk14
    refine r_aload_n x_55_76 rfl ?_
    refine r_iload_n x_55_77 rfl ?_
    refine r_iload_n x_55_78 rfl ?_
    refine r_iload_n x_55_79 rfl ?_
    refine r_invV x_55_80 (z := 56) (ns := 0) (by decide +kernel) (as := [g_n v1, g_n v2, g_n v3]) (r := []) rfl rfl rfl hO1 rfl rfl ?_
    refine r_callI h fun r12 M9 hx10 hok11 hr13 h => ?_
    replace h := h hx10 hok11 hr13
    replace hO1 := hO1.up hx10
    obtain ⟨hz, h⟩ := h
    exact r_retZ x_55_83 rfl hz h
  replace h := h.2 hk14
  by_cases hk20 : r7 = 2
  · refine r_tableAt x_55_12 hk20 (t := 84) (g_Rk rfl) (by decide +kernel) ?_
    replace h := h.1 hk20
    refine r_aload_n x_55_84 rfl ?_
    refine r_iload_n x_55_85 rfl ?_
    refine r_iload_n x_55_86 rfl ?_
    refine r_iload_n x_55_87 rfl ?_
    refine r_invV x_55_88 (z := 56) (ns := 0) (by decide +kernel) (as := [g_n v1, g_n v2, g_n v3]) (r := []) rfl rfl rfl hO1 rfl rfl ?_
    refine r_callI h fun r18 M15 hx16 hok17 hr19 h => ?_
    replace h := h hx16 hok17 hr19
    replace hO1 := hO1.up hx16
    refine r_if_ne x_55_91 (t := 98) (by decide +kernel) hr19 (fun hc => ?_) (fun hc => ?_)
    · replace h := h.2 hc
      refine r_iconst x_55_98 ?_
      exact r_retZ x_55_99 rfl (Or.inl rfl) h
    · replace h := h.1 hc
      refine r_iconst x_55_94 ?_
      refine r_goto x_55_95 (t := 99) (by decide +kernel) ?_
      exact r_retZ x_55_99 rfl (Or.inr rfl) h
  replace h := h.2 hk20
  by_cases hk26 : r7 = 3
  · refine r_tableAt x_55_12 hk26 (t := 100) (g_Rk rfl) (by decide +kernel) ?_
    replace h := h.1 hk26
    refine r_aload_n x_55_100 rfl ?_
    refine r_iload_n x_55_101 rfl ?_
    refine r_iload_n x_55_102 rfl ?_
    refine r_iload_n x_55_103 rfl ?_
    refine r_invV x_55_104 (z := 57) (ns := 0) (by decide +kernel) (as := [g_n v1, g_n v2, g_n v3]) (r := []) rfl rfl rfl hO1 rfl rfl ?_
    refine r_callI h fun r24 M21 hx22 hok23 hr25 h => ?_
    replace h := h hx22 hok23 hr25
    replace hO1 := hO1.up hx22
    obtain ⟨hz, h⟩ := h
    exact r_retZ x_55_107 rfl hz h
  replace h := h.2 hk26
  by_cases hk32 : r7 = 4
  · refine r_tableAt x_55_12 hk32 (t := 108) (g_Rk rfl) (by decide +kernel) ?_
    replace h := h.1 hk32
    refine r_aload_n x_55_108 rfl ?_
    refine r_iload_n x_55_109 rfl ?_
    refine r_iload_n x_55_110 rfl ?_
    refine r_iload_n x_55_111 rfl ?_
    refine r_invV x_55_112 (z := 57) (ns := 0) (by decide +kernel) (as := [g_n v1, g_n v2, g_n v3]) (r := []) rfl rfl rfl hO1 rfl rfl ?_
    refine r_callI h fun r30 M27 hx28 hok29 hr31 h => ?_
    replace h := h hx28 hok29 hr31
    replace hO1 := hO1.up hx28
    refine r_if_ne x_55_115 (t := 122) (by decide +kernel) hr31 (fun hc => ?_) (fun hc => ?_)
    · replace h := h.2 hc
      refine r_iconst x_55_122 ?_
      exact r_retZ x_55_123 rfl (Or.inl rfl) h
    · replace h := h.1 hc
      refine r_iconst x_55_118 ?_
      refine r_goto x_55_119 (t := 123) (by decide +kernel) ?_
      exact r_retZ x_55_123 rfl (Or.inr rfl) h
  replace h := h.2 hk32
  by_cases hk38 : r7 = 5
  · refine r_tableAt x_55_12 hk38 (t := 191) (g_Rk rfl) (by decide +kernel) ?_
    replace h := h.1 hk38
    refine r_aload_n x_55_191 rfl ?_
    refine r_iload x_55_192 rfl ?_
    refine r_iload_n x_55_194 rfl ?_
    refine r_iload_n x_55_195 rfl ?_
    refine r_iload_n x_55_196 rfl ?_
    refine r_invV x_55_197 (z := 58) (ns := 0) (by decide +kernel) (as := [g_n r7, g_n v1, g_n v2, g_n v3]) (r := []) rfl rfl rfl hO1 rfl rfl ?_
    refine r_callI h fun r36 M33 hx34 hok35 hr37 h => ?_
    replace h := h hx34 hok35 hr37
    replace hO1 := hO1.up hx34
    obtain ⟨hz, h⟩ := h
    exact r_retZ x_55_200 rfl hz h
  replace h := h.2 hk38
  by_cases hk44 : r7 = 6
  · refine r_tableAt x_55_12 hk44 (t := 191) (g_Rk rfl) (by decide +kernel) ?_
    replace h := h.1 hk44
    refine r_aload_n x_55_191 rfl ?_
    refine r_iload x_55_192 rfl ?_
    refine r_iload_n x_55_194 rfl ?_
    refine r_iload_n x_55_195 rfl ?_
    refine r_iload_n x_55_196 rfl ?_
    refine r_invV x_55_197 (z := 58) (ns := 0) (by decide +kernel) (as := [g_n r7, g_n v1, g_n v2, g_n v3]) (r := []) rfl rfl rfl hO1 rfl rfl ?_
    refine r_callI h fun r42 M39 hx40 hok41 hr43 h => ?_
    replace h := h hx40 hok41 hr43
    replace hO1 := hO1.up hx40
    obtain ⟨hz, h⟩ := h
    exact r_retZ x_55_200 rfl hz h
  replace h := h.2 hk44
  by_cases hk50 : r7 = 7
  · refine r_tableAt x_55_12 hk50 (t := 191) (g_Rk rfl) (by decide +kernel) ?_
    replace h := h.1 hk50
    refine r_aload_n x_55_191 rfl ?_
    refine r_iload x_55_192 rfl ?_
    refine r_iload_n x_55_194 rfl ?_
    refine r_iload_n x_55_195 rfl ?_
    refine r_iload_n x_55_196 rfl ?_
    refine r_invV x_55_197 (z := 58) (ns := 0) (by decide +kernel) (as := [g_n r7, g_n v1, g_n v2, g_n v3]) (r := []) rfl rfl rfl hO1 rfl rfl ?_
    refine r_callI h fun r48 M45 hx46 hok47 hr49 h => ?_
    replace h := h hx46 hok47 hr49
    replace hO1 := hO1.up hx46
    obtain ⟨hz, h⟩ := h
    exact r_retZ x_55_200 rfl hz h
  replace h := h.2 hk50
  by_cases hk56 : r7 = 8
  · refine r_tableAt x_55_12 hk56 (t := 191) (g_Rk rfl) (by decide +kernel) ?_
    replace h := h.1 hk56
    refine r_aload_n x_55_191 rfl ?_
    refine r_iload x_55_192 rfl ?_
    refine r_iload_n x_55_194 rfl ?_
    refine r_iload_n x_55_195 rfl ?_
    refine r_iload_n x_55_196 rfl ?_
    refine r_invV x_55_197 (z := 58) (ns := 0) (by decide +kernel) (as := [g_n r7, g_n v1, g_n v2, g_n v3]) (r := []) rfl rfl rfl hO1 rfl rfl ?_
    refine r_callI h fun r54 M51 hx52 hok53 hr55 h => ?_
    replace h := h hx52 hok53 hr55
    replace hO1 := hO1.up hx52
    obtain ⟨hz, h⟩ := h
    exact r_retZ x_55_200 rfl hz h
  replace h := h.2 hk56
  by_cases hk69 : r7 = 9
  · refine r_tableAt x_55_12 hk69 (t := 124) (g_Rk rfl) (by decide +kernel) ?_
    replace h := h.1 hk69
    refine r_aload_n x_55_124 rfl ?_
    refine r_iload_n x_55_125 rfl ?_
    refine r_iload_n x_55_126 rfl ?_
    refine r_invV x_55_127 (z := 60) (ns := 0) (by decide +kernel) (as := [g_n v2, g_n v3]) (r := []) rfl rfl rfl hO1 rfl rfl ?_
    refine r_callI h fun r60 M57 hx58 hok59 hr61 h => ?_
    replace h := h hx58 hok59 hr61
    replace hO1 := hO1.up hx58
    refine r_aload_n x_55_130 rfl ?_
    obtain ⟨b62, hb63, h⟩ := h
    refine r_getR x_55_131 rfl (ci := 2) (k := 1) (ns := 0) (by decide +kernel) (by decide) rfl (kz := 1) rfl hO1 hb63 ?_
    refine r_iload_n x_55_134 rfl ?_
    refine r_iconst x_55_135 ?_
    refine r_invS x_55_136 (z := 119) (ns := 1) (by decide +kernel) (as := [.ref b62, g_n v1, g_n 1]) (r := [g_n r60]) rfl rfl rfl ?_
    refine r_callI h fun r67 M64 hx65 hok66 hr68 h => ?_
    replace h := h hx65 hok66 hr68
    replace hO1 := hO1.up hx65
    refine r_ic_ne x_55_139 (t := 146) (by decide +kernel) hr61 hr68 (fun hc => ?_) (fun hc => ?_)
    · replace h := h.2 hc
      refine r_iconst x_55_146 ?_
      exact r_retZ x_55_147 rfl (Or.inl rfl) h
    · replace h := h.1 hc
      refine r_iconst x_55_142 ?_
      refine r_goto x_55_143 (t := 147) (by decide +kernel) ?_
      exact r_retZ x_55_147 rfl (Or.inr rfl) h
  replace h := h.2 hk69
  by_cases hk81 : r7 = 10
  · refine r_tableAt x_55_12 hk81 (t := 148) (g_Rk rfl) (by decide +kernel) ?_
    replace h := h.1 hk81
    refine r_aload_n x_55_148 rfl ?_
    refine r_aload_n x_55_149 rfl ?_
    obtain ⟨b70, hb71, h⟩ := h
    refine r_getR x_55_150 rfl (ci := 2) (k := 1) (ns := 0) (by decide +kernel) (by decide) rfl (kz := 1) rfl hO1 hb71 ?_
    refine r_iload_n x_55_153 rfl ?_
    refine r_invS x_55_154 (z := 118) (ns := 1) (by decide +kernel) (as := [.ref b70, g_n v1]) (r := [.ref a0]) rfl rfl rfl ?_
    refine r_callL h fun R75 M72 hx73 hok74 h => ?_
    replace h := h hx73 hok74
    replace hO1 := hO1.up hx73
    refine r_iload_n x_55_157 rfl ?_
    refine r_iload_n x_55_158 rfl ?_
    refine r_invV x_55_159 (z := 61) (ns := 0) (by decide +kernel) (as := [.long R75, g_n v2, g_n v3]) (r := []) rfl rfl rfl hO1 rfl rfl ?_
    refine r_callI h fun r79 M76 hx77 hok78 hr80 h => ?_
    replace h := h hx77 hok78 hr80
    replace hO1 := hO1.up hx77
    obtain ⟨hz, h⟩ := h
    exact r_retZ x_55_162 rfl hz h
  replace h := h.2 hk81
  by_cases hk87 : r7 = 11
  · refine r_tableAt x_55_12 hk87 (t := 163) (g_Rk rfl) (by decide +kernel) ?_
    replace h := h.1 hk87
    refine r_aload_n x_55_163 rfl ?_
    refine r_iload_n x_55_164 rfl ?_
    refine r_iload_n x_55_165 rfl ?_
    refine r_iload_n x_55_166 rfl ?_
    refine r_iload x_55_167 rfl ?_
    refine r_invV x_55_169 (z := 62) (ns := 0) (by decide +kernel) (as := [g_n v1, g_n v2, g_n v3, g_n v4]) (r := []) rfl rfl rfl hO1 rfl rfl ?_
    refine r_callI h fun r85 M82 hx83 hok84 hr86 h => ?_
    replace h := h hx83 hok84 hr86
    replace hO1 := hO1.up hx83
    obtain ⟨hz, h⟩ := h
    exact r_retZ x_55_172 rfl hz h
  replace h := h.2 hk87
  by_cases hk93 : r7 = 12
  · refine r_tableAt x_55_12 hk93 (t := 173) (g_Rk rfl) (by decide +kernel) ?_
    replace h := h.1 hk93
    refine r_aload_n x_55_173 rfl ?_
    refine r_iload_n x_55_174 rfl ?_
    refine r_iload_n x_55_175 rfl ?_
    refine r_iload_n x_55_176 rfl ?_
    refine r_iload x_55_177 rfl ?_
    refine r_invV x_55_179 (z := 54) (ns := 0) (by decide +kernel) (as := [g_n v1, g_n v2, g_n v3, g_n v4]) (r := []) rfl rfl rfl hO1 rfl rfl ?_
    refine r_callI h fun r91 M88 hx89 hok90 hr92 h => ?_
    replace h := h hx89 hok90 hr92
    replace hO1 := hO1.up hx89
    refine r_if_ne x_55_182 (t := 189) (by decide +kernel) hr92 (fun hc => ?_) (fun hc => ?_)
    · replace h := h.2 hc
      refine r_iconst x_55_189 ?_
      exact r_retZ x_55_190 rfl (Or.inl rfl) h
    · replace h := h.1 hc
      refine r_iconst x_55_185 ?_
      refine r_goto x_55_186 (t := 190) (by decide +kernel) ?_
      exact r_retZ x_55_190 rfl (Or.inr rfl) h
  replace h := h.2 hk93
  refine r_tableD x_55_12 hr8 (t := 191) (lo := 1) (hi := 12) (by omega) (by decide +kernel) ?_
  refine r_aload_n x_55_191 rfl ?_
  refine r_iload x_55_192 rfl ?_
  refine r_iload_n x_55_194 rfl ?_
  refine r_iload_n x_55_195 rfl ?_
  refine r_iload_n x_55_196 rfl ?_
  refine r_invV x_55_197 (z := 58) (ns := 0) (by decide +kernel) (as := [g_n r7, g_n v1, g_n v2, g_n v3]) (r := []) rfl rfl rfl hO1 rfl rfl ?_
  refine r_callI h fun r97 M94 hx95 hok96 hr98 h => ?_
  replace h := h hx95 hok96 hr98
  replace hO1 := hO1.up hx95
  obtain ⟨hz, h⟩ := h
  exact r_retZ x_55_200 rfl hz h
theorem m_X2_someIs {d : Nat} {M : g_M} {Q : Int → g_M → Prop} {a0 : Nat} {v1 : Int} (hv1 : g_InR v1) {v2 : Int} (hv2 : g_InR v2) {v3 : Int} (hv3 : g_InR v3) (h : g_ok M → g_O M a0 2 ∧ ∃ b2, g_r M a0 1 = some b2 ∧ g_Call d 108 [.ref b2, g_n v1] M (g_qI fun r7 M4 => g_ext M M4 → g_ok M4 → g_InR r7 → ((r7 = 10 → g_Run d 56 23 [(0, .ref a0), (1, g_n v1), (2, g_n v2), (3, g_n v3), (4, g_n 1), (5, g_n v2)] [] M4 (g_qI Q)) ∧ (¬ r7 = 10 → g_Run d 56 23 [(0, .ref a0), (1, g_n v1), (2, g_n v2), (3, g_n v3), (4, g_n 0), (5, g_n v2)] [] M4 (g_qI Q))))) : g_Call (d + 1) 56 [.ref a0, g_n v1, g_n v2, g_n v3] M (g_qI Q) := by
  refine g_Call.ok fun hok0 => ?_
  replace h := h hok0
  refine r_body rfl (lv := [(0, .ref a0), (1, g_n v1), (2, g_n v2), (3, g_n v3)]) rfl ?_
  refine g_Run.ok fun hok => ?_
  refine r_aload_n x_56_0 rfl ?_
  obtain ⟨hO1, h⟩ := h
  obtain ⟨b2, hb3, h⟩ := h
  refine r_getR x_56_1 rfl (ci := 2) (k := 1) (ns := 0) (by decide +kernel) (by decide) rfl (kz := 1) rfl hO1 hb3 ?_
  refine r_iload_n x_56_4 rfl ?_
  refine r_invS x_56_5 (z := 108) (ns := 1) (by decide +kernel) (as := [.ref b2, g_n v1]) (r := []) rfl rfl rfl ?_
  refine r_callI h fun r7 M4 hx5 hok6 hr8 h => ?_
  replace h := h hx5 hok6 hr8
  replace hO1 := hO1.up hx5
  refine r_bipush x_56_8 (x := 10) rfl ?_
  refine r_ic_ne x_56_10 (t := 17) (by decide +kernel) hr8 (g_Rk rfl) (fun hc => ?_) (fun hc => ?_)
  · replace h := h.2 hc
    refine r_iconst x_56_17 ?_
    refine r_istore x_56_18 (by decide +kernel) rfl (lv1 := [(0, .ref a0), (1, g_n v1), (2, g_n v2), (3, g_n v3), (4, g_n 0)]) rfl ?_
    refine r_iload_n x_56_20 rfl ?_
    refine r_istore x_56_21 (by decide +kernel) rfl (lv1 := [(0, .ref a0), (1, g_n v1), (2, g_n v2), (3, g_n v3), (4, g_n 0), (5, g_n v2)]) rfl ?_
    exact h
  · replace h := h.1 hc
    refine r_iconst x_56_13 ?_
    refine r_goto x_56_14 (t := 18) (by decide +kernel) ?_
    refine r_istore x_56_18 (by decide +kernel) rfl (lv1 := [(0, .ref a0), (1, g_n v1), (2, g_n v2), (3, g_n v3), (4, g_n 1)]) rfl ?_
    refine r_iload_n x_56_20 rfl ?_
    refine r_istore x_56_21 (by decide +kernel) rfl (lv1 := [(0, .ref a0), (1, g_n v1), (2, g_n v2), (3, g_n v3), (4, g_n 1), (5, g_n v2)]) rfl ?_
    exact h
theorem s_X2_someIs_23 {d : Nat} {M : g_M} {Q : Int → g_M → Prop} {a0 : Nat} {v1 : Int} (hv1 : g_InR v1) {v2 : Int} (hv2 : g_InR v2) {v3 : Int} (hv3 : g_InR v3) {v4 : Int} (hv4 : g_InR v4) {v5 : Int} (hv5 : g_InR v5) (h : g_ok M → ((v5 < v3 → g_O M a0 2 ∧ ∃ b2, g_r M a0 0 = some b2 ∧ g_O M b2 7 ∧ g_Call d 105 [.ref b2, g_n v5] M (g_qI fun r8 M5 => g_ext M M5 → g_ok M5 → g_InR r8 → ((r8 < 0 → ((v4 = 0 → g_Run d 56 73 [(0, .ref a0), (1, g_n v1), (2, g_n v2), (3, g_n v3), (4, g_n v4), (5, g_n v5), (6, g_n r8)] [] M5 (g_qI Q)) ∧ (¬ v4 = 0 → Q 1 M5))) ∧ (¬ r8 < 0 → ∃ b10, g_r M5 a0 1 = some b10 ∧ ∃ b12, g_r M5 a0 1 = some b12 ∧ g_Call d 121 [.ref b10, g_n r8, .ref b12, g_n v1, g_n 0] M5 (g_qI fun r17 M14 => g_ext M5 M14 → g_ok M14 → g_InR r17 → ((r17 = 0 → Q 1 M14) ∧ (¬ r17 = 0 → g_Run d 56 73 [(0, .ref a0), (1, g_n v1), (2, g_n v2), (3, g_n v3), (4, g_n v4), (5, g_n v5), (6, g_n r8)] [] M14 (g_qI Q)))))))) ∧ (¬ v5 < v3 → Q 0 M))) : g_Run d 56 23 [(0, .ref a0), (1, g_n v1), (2, g_n v2), (3, g_n v3), (4, g_n v4), (5, g_n v5)] [] M (g_qI Q) := by
  refine g_Run.ok fun hok => ?_
  replace h := h hok
  refine r_iload x_56_23 rfl ?_
  refine r_iload_n x_56_25 rfl ?_
  refine r_ic_ge x_56_26 (t := 165) (by decide +kernel) hv5 hv3 (fun hc => ?_) (fun hc => ?_)
  · replace h := h.2 hc
    refine r_iconst x_56_165 ?_
    exact r_retZ x_56_166 rfl (Or.inl rfl) h
  · replace h := h.1 hc
    refine r_aload_n x_56_29 rfl ?_
    obtain ⟨hO1, h⟩ := h
    obtain ⟨b2, hb3, h⟩ := h
    refine r_getR x_56_30 rfl (ci := 2) (k := 0) (ns := 0) (by decide +kernel) (by decide) rfl (kz := 0) rfl hO1 hb3 ?_
    refine r_iload x_56_33 rfl ?_
    obtain ⟨hO4, h⟩ := h
    refine r_invV x_56_35 (z := 105) (ns := 1) (by decide +kernel) (as := [g_n v5]) (r := []) rfl rfl rfl hO4 rfl rfl ?_
    refine r_callI h fun r8 M5 hx6 hok7 hr9 h => ?_
    replace h := h hx6 hok7 hr9
    replace hO1 := hO1.up hx6
    replace hO4 := hO4.up hx6
    refine r_istore x_56_38 (by decide +kernel) rfl (lv1 := [(0, .ref a0), (1, g_n v1), (2, g_n v2), (3, g_n v3), (4, g_n v4), (5, g_n v5), (6, g_n r8)]) rfl ?_
    refine r_iload x_56_40 rfl ?_
    refine r_if_ge x_56_42 (t := 53) (by decide +kernel) hr9 (fun hc => ?_) (fun hc => ?_)
    · replace h := h.2 hc
      refine r_aload_n x_56_53 rfl ?_
      obtain ⟨b10, hb11, h⟩ := h
      refine r_getR x_56_54 rfl (ci := 2) (k := 1) (ns := 0) (by decide +kernel) (by decide) rfl (kz := 1) rfl hO1 hb11 ?_
      refine r_iload x_56_57 rfl ?_
      refine r_aload_n x_56_59 rfl ?_
      obtain ⟨b12, hb13, h⟩ := h
      refine r_getR x_56_60 rfl (ci := 2) (k := 1) (ns := 0) (by decide +kernel) (by decide) rfl (kz := 1) rfl hO1 hb13 ?_
      refine r_iload_n x_56_63 rfl ?_
      refine r_iconst x_56_64 ?_
      refine r_invS x_56_65 (z := 121) (ns := 1) (by decide +kernel) (as := [.ref b10, g_n r8, .ref b12, g_n v1, g_n 0]) (r := []) rfl rfl rfl ?_
      refine r_callI h fun r17 M14 hx15 hok16 hr18 h => ?_
      replace h := h hx15 hok16 hr18
      replace hO1 := hO1.up hx15
      replace hO4 := hO4.up hx15
      refine r_if_ne x_56_68 (t := 73) (by decide +kernel) hr18 (fun hc => ?_) (fun hc => ?_)
      · replace h := h.2 hc
        exact h
      · replace h := h.1 hc
        refine r_iconst x_56_71 ?_
        exact r_retZ x_56_72 rfl (Or.inr rfl) h
    · replace h := h.1 hc
      refine r_iload x_56_45 rfl ?_
      refine r_if_eq x_56_47 (t := 73) (by decide +kernel) hv4 (fun hc => ?_) (fun hc => ?_)
      · replace h := h.1 hc
        exact h
      · replace h := h.2 hc
        refine r_goto x_56_50 (t := 71) (by decide +kernel) ?_
        refine r_iconst x_56_71 ?_
        exact r_retZ x_56_72 rfl (Or.inr rfl) h
theorem s_X2_someIs_73 {d : Nat} {M : g_M} {Q : Int → g_M → Prop} {a0 : Nat} {v1 : Int} (hv1 : g_InR v1) {v2 : Int} (hv2 : g_InR v2) {v3 : Int} (hv3 : g_InR v3) {v4 : Int} (hv4 : g_InR v4) {v5 : Int} (hv5 : g_InR v5) {v6 : Int} (hv6 : g_InR v6) (h : g_ok M → g_O M a0 2 ∧ ∃ b2, g_r M a0 1 = some b2 ∧ g_Call d 108 [.ref b2, g_n v6] M (g_qI fun r7 M4 => g_ext M M4 → g_ok M4 → g_InR r7 → ((r7 = 4 → ∃ b9, g_r M4 a0 1 = some b9 ∧ g_Call d 112 [.ref b9, g_n v6] M4 (g_qI fun r14 M11 => g_ext M4 M11 → g_ok M11 → g_InR r14 → g_Run d 56 103 [(0, .ref a0), (1, g_n v1), (2, g_n v2), (3, g_n v3), (4, g_n v4), (5, g_n v5), (6, g_n v6), (7, g_n r14), (8, g_n 0)] [] M11 (g_qI Q))) ∧ (¬ r7 = 4 → g_InR (v5 + 1) ∧ g_Run d 56 23 [(0, .ref a0), (1, g_n v1), (2, g_n v2), (3, g_n v3), (4, g_n v4), (5, g_n (v5 + 1))] [] M4 (g_qI Q))))) : g_Run d 56 73 [(0, .ref a0), (1, g_n v1), (2, g_n v2), (3, g_n v3), (4, g_n v4), (5, g_n v5), (6, g_n v6)] [] M (g_qI Q) := by
  refine g_Run.ok fun hok => ?_
  replace h := h hok
  refine r_aload_n x_56_73 rfl ?_
  obtain ⟨hO1, h⟩ := h
  obtain ⟨b2, hb3, h⟩ := h
  refine r_getR x_56_74 rfl (ci := 2) (k := 1) (ns := 0) (by decide +kernel) (by decide) rfl (kz := 1) rfl hO1 hb3 ?_
  refine r_iload x_56_77 rfl ?_
  refine r_invS x_56_79 (z := 108) (ns := 1) (by decide +kernel) (as := [.ref b2, g_n v6]) (r := []) rfl rfl rfl ?_
  refine r_callI h fun r7 M4 hx5 hok6 hr8 h => ?_
  replace h := h hx5 hok6 hr8
  replace hO1 := hO1.up hx5
  refine r_iconst x_56_82 ?_
  refine r_ic_eq x_56_83 (t := 89) (by decide +kernel) hr8 (g_Rk rfl) (fun hc => ?_) (fun hc => ?_)
  · replace h := h.1 hc
    refine r_aload_n x_56_89 rfl ?_
    obtain ⟨b9, hb10, h⟩ := h
    refine r_getR x_56_90 rfl (ci := 2) (k := 1) (ns := 0) (by decide +kernel) (by decide) rfl (kz := 1) rfl hO1 hb10 ?_
    refine r_iload x_56_93 rfl ?_
    refine r_invS x_56_95 (z := 112) (ns := 1) (by decide +kernel) (as := [.ref b9, g_n v6]) (r := []) rfl rfl rfl ?_
    refine r_callI h fun r14 M11 hx12 hok13 hr15 h => ?_
    replace h := h hx12 hok13 hr15
    replace hO1 := hO1.up hx12
    refine r_istore x_56_98 (by decide +kernel) rfl (lv1 := [(0, .ref a0), (1, g_n v1), (2, g_n v2), (3, g_n v3), (4, g_n v4), (5, g_n v5), (6, g_n v6), (7, g_n r14)]) rfl ?_
    refine r_iconst x_56_100 ?_
    refine r_istore x_56_101 (by decide +kernel) rfl (lv1 := [(0, .ref a0), (1, g_n v1), (2, g_n v2), (3, g_n v3), (4, g_n v4), (5, g_n v5), (6, g_n v6), (7, g_n r14), (8, g_n 0)]) rfl ?_
    exact h
  · replace h := h.2 hc
    refine r_goto x_56_86 (t := 159) (by decide +kernel) ?_
    obtain ⟨h16, h⟩ := h
    refine r_iinc x_56_159 (by decide +kernel) rfl rfl (lv1 := [(0, .ref a0), (1, g_n v1), (2, g_n v2), (3, g_n v3), (4, g_n v4), (5, g_n (v5 + 1)), (6, g_n v6)]) rfl ?_
    refine r_goto x_56_162 (t := 23) (by decide +kernel) ?_
    refine g_drop [0, 1, 2, 3, 4, 5] (lv1 := [(0, .ref a0), (1, g_n v1), (2, g_n v2), (3, g_n v3), (4, g_n v4), (5, g_n (v5 + 1))]) rfl ?_
    exact h
theorem s_X2_someIs_103 {d : Nat} {M : g_M} {Q : Int → g_M → Prop} {a0 : Nat} {v1 : Int} (hv1 : g_InR v1) {v2 : Int} (hv2 : g_InR v2) {v3 : Int} (hv3 : g_InR v3) {v4 : Int} (hv4 : g_InR v4) {v5 : Int} (hv5 : g_InR v5) {v6 : Int} (hv6 : g_InR v6) {v7 : Int} (hv7 : g_InR v7) {v8 : Int} (hv8 : g_InR v8) (h : g_ok M → ((v8 < 100000 → g_O M a0 2 ∧ ∃ b3, g_r M a0 1 = some b3 ∧ g_Call d 108 [.ref b3, g_n v7] M (g_qI fun r8 M5 => g_ext M M5 → g_ok M5 → g_InR r8 → ((r8 = 0 → g_InR (v5 + 1) ∧ g_Run d 56 23 [(0, .ref a0), (1, g_n v1), (2, g_n v2), (3, g_n v3), (4, g_n v4), (5, g_n (v5 + 1))] [] M5 (g_qI Q)) ∧ (¬ r8 = 0 → ∃ b11, g_r M5 a0 1 = some b11 ∧ ∃ b13, g_r M5 a0 1 = some b13 ∧ g_Call d 121 [.ref b11, g_n v7, .ref b13, g_n v1, g_n 0] M5 (g_qI fun r18 M15 => g_ext M5 M15 → g_ok M15 → g_InR r18 → ((r18 = 0 → Q 1 M15) ∧ (¬ r18 = 0 → ∃ b20, g_r M15 a0 1 = some b20 ∧ g_Call d 111 [.ref b20, g_n v7] M15 (g_qI fun r25 M22 => g_ext M15 M22 → g_ok M22 → g_InR r25 → g_InR (v8 + 1) ∧ g_Run d 56 103 [(0, .ref a0), (1, g_n v1), (2, g_n v2), (3, g_n v3), (4, g_n v4), (5, g_n v5), (6, g_n v6), (7, g_n r25), (8, g_n (v8 + 1))] [] M22 (g_qI Q))))))))) ∧ (¬ v8 < 100000 → g_InR (v5 + 1) ∧ g_Run d 56 23 [(0, .ref a0), (1, g_n v1), (2, g_n v2), (3, g_n v3), (4, g_n v4), (5, g_n (v5 + 1))] [] M (g_qI Q)))) : g_Run d 56 103 [(0, .ref a0), (1, g_n v1), (2, g_n v2), (3, g_n v3), (4, g_n v4), (5, g_n v5), (6, g_n v6), (7, g_n v7), (8, g_n v8)] [] M (g_qI Q) := by
  refine g_Run.ok fun hok => ?_
  replace h := h hok
  refine r_iload x_56_103 rfl ?_
  refine r_ldc x_56_105 (v := g_n 100000) rfl ?_
  refine r_ic_ge x_56_107 (t := 159) (by decide +kernel) hv8 (g_Rk rfl) (fun hc => ?_) (fun hc => ?_)
  · replace h := h.2 hc
    obtain ⟨h1, h⟩ := h
    refine r_iinc x_56_159 (by decide +kernel) rfl rfl (lv1 := [(0, .ref a0), (1, g_n v1), (2, g_n v2), (3, g_n v3), (4, g_n v4), (5, g_n (v5 + 1)), (6, g_n v6), (7, g_n v7), (8, g_n v8)]) rfl ?_
    refine r_goto x_56_162 (t := 23) (by decide +kernel) ?_
    refine g_drop [0, 1, 2, 3, 4, 5] (lv1 := [(0, .ref a0), (1, g_n v1), (2, g_n v2), (3, g_n v3), (4, g_n v4), (5, g_n (v5 + 1))]) rfl ?_
    exact h
  · replace h := h.1 hc
    refine r_aload_n x_56_110 rfl ?_
    obtain ⟨hO2, h⟩ := h
    obtain ⟨b3, hb4, h⟩ := h
    refine r_getR x_56_111 rfl (ci := 2) (k := 1) (ns := 0) (by decide +kernel) (by decide) rfl (kz := 1) rfl hO2 hb4 ?_
    refine r_iload x_56_114 rfl ?_
    refine r_invS x_56_116 (z := 108) (ns := 1) (by decide +kernel) (as := [.ref b3, g_n v7]) (r := []) rfl rfl rfl ?_
    refine r_callI h fun r8 M5 hx6 hok7 hr9 h => ?_
    replace h := h hx6 hok7 hr9
    replace hO2 := hO2.up hx6
    refine r_if_eq x_56_119 (t := 159) (by decide +kernel) hr9 (fun hc => ?_) (fun hc => ?_)
    · replace h := h.1 hc
      obtain ⟨h10, h⟩ := h
      refine r_iinc x_56_159 (by decide +kernel) rfl rfl (lv1 := [(0, .ref a0), (1, g_n v1), (2, g_n v2), (3, g_n v3), (4, g_n v4), (5, g_n (v5 + 1)), (6, g_n v6), (7, g_n v7), (8, g_n v8)]) rfl ?_
      refine r_goto x_56_162 (t := 23) (by decide +kernel) ?_
      refine g_drop [0, 1, 2, 3, 4, 5] (lv1 := [(0, .ref a0), (1, g_n v1), (2, g_n v2), (3, g_n v3), (4, g_n v4), (5, g_n (v5 + 1))]) rfl ?_
      exact h
    · replace h := h.2 hc
      refine r_aload_n x_56_122 rfl ?_
      obtain ⟨b11, hb12, h⟩ := h
      refine r_getR x_56_123 rfl (ci := 2) (k := 1) (ns := 0) (by decide +kernel) (by decide) rfl (kz := 1) rfl hO2 hb12 ?_
      refine r_iload x_56_126 rfl ?_
      refine r_aload_n x_56_128 rfl ?_
      obtain ⟨b13, hb14, h⟩ := h
      refine r_getR x_56_129 rfl (ci := 2) (k := 1) (ns := 0) (by decide +kernel) (by decide) rfl (kz := 1) rfl hO2 hb14 ?_
      refine r_iload_n x_56_132 rfl ?_
      refine r_iconst x_56_133 ?_
      refine r_invS x_56_134 (z := 121) (ns := 1) (by decide +kernel) (as := [.ref b11, g_n v7, .ref b13, g_n v1, g_n 0]) (r := []) rfl rfl rfl ?_
      refine r_callI h fun r18 M15 hx16 hok17 hr19 h => ?_
      replace h := h hx16 hok17 hr19
      replace hO2 := hO2.up hx16
      refine r_if_ne x_56_137 (t := 142) (by decide +kernel) hr19 (fun hc => ?_) (fun hc => ?_)
      · replace h := h.2 hc
        refine r_aload_n x_56_142 rfl ?_
        obtain ⟨b20, hb21, h⟩ := h
        refine r_getR x_56_143 rfl (ci := 2) (k := 1) (ns := 0) (by decide +kernel) (by decide) rfl (kz := 1) rfl hO2 hb21 ?_
        refine r_iload x_56_146 rfl ?_
        refine r_invS x_56_148 (z := 111) (ns := 1) (by decide +kernel) (as := [.ref b20, g_n v7]) (r := []) rfl rfl rfl ?_
        refine r_callI h fun r25 M22 hx23 hok24 hr26 h => ?_
        replace h := h hx23 hok24 hr26
        replace hO2 := hO2.up hx23
        refine r_istore x_56_151 (by decide +kernel) rfl (lv1 := [(0, .ref a0), (1, g_n v1), (2, g_n v2), (3, g_n v3), (4, g_n v4), (5, g_n v5), (6, g_n v6), (7, g_n r25), (8, g_n v8)]) rfl ?_
        obtain ⟨h27, h⟩ := h
        refine r_iinc x_56_153 (by decide +kernel) rfl rfl (lv1 := [(0, .ref a0), (1, g_n v1), (2, g_n v2), (3, g_n v3), (4, g_n v4), (5, g_n v5), (6, g_n v6), (7, g_n r25), (8, g_n (v8 + 1))]) rfl ?_
        refine r_goto x_56_156 (t := 103) (by decide +kernel) ?_
        exact h
      · replace h := h.1 hc
        refine r_iconst x_56_140 ?_
        exact r_retZ x_56_141 rfl (Or.inr rfl) h
theorem m_X2_someIsIn {d : Nat} {M : g_M} {Q : Int → g_M → Prop} {a0 : Nat} {v1 : Int} (hv1 : g_InR v1) {v2 : Int} (hv2 : g_InR v2) {v3 : Int} (hv3 : g_InR v3) (h : g_ok M → g_O M a0 2 ∧ ∃ b2, g_r M a0 1 = some b2 ∧ g_Call d 112 [.ref b2, g_n v1] M (g_qI fun r7 M4 => g_ext M M4 → g_ok M4 → g_InR r7 → g_Run d 57 13 [(0, .ref a0), (1, g_n v1), (2, g_n v2), (3, g_n v3), (4, g_n r7), (5, g_n 0)] [] M4 (g_qI Q))) : g_Call (d + 1) 57 [.ref a0, g_n v1, g_n v2, g_n v3] M (g_qI Q) := by
  refine g_Call.ok fun hok0 => ?_
  replace h := h hok0
  refine r_body rfl (lv := [(0, .ref a0), (1, g_n v1), (2, g_n v2), (3, g_n v3)]) rfl ?_
  refine g_Run.ok fun hok => ?_
  refine r_aload_n x_57_0 rfl ?_
  obtain ⟨hO1, h⟩ := h
  obtain ⟨b2, hb3, h⟩ := h
  refine r_getR x_57_1 rfl (ci := 2) (k := 1) (ns := 0) (by decide +kernel) (by decide) rfl (kz := 1) rfl hO1 hb3 ?_
  refine r_iload_n x_57_4 rfl ?_
  refine r_invS x_57_5 (z := 112) (ns := 1) (by decide +kernel) (as := [.ref b2, g_n v1]) (r := []) rfl rfl rfl ?_
  refine r_callI h fun r7 M4 hx5 hok6 hr8 h => ?_
  replace h := h hx5 hok6 hr8
  replace hO1 := hO1.up hx5
  refine r_istore x_57_8 (by decide +kernel) rfl (lv1 := [(0, .ref a0), (1, g_n v1), (2, g_n v2), (3, g_n v3), (4, g_n r7)]) rfl ?_
  refine r_iconst x_57_10 ?_
  refine r_istore x_57_11 (by decide +kernel) rfl (lv1 := [(0, .ref a0), (1, g_n v1), (2, g_n v2), (3, g_n v3), (4, g_n r7), (5, g_n 0)]) rfl ?_
  exact h
theorem s_X2_someIsIn_13 {d : Nat} {M : g_M} {Q : Int → g_M → Prop} {a0 : Nat} {v1 : Int} (hv1 : g_InR v1) {v2 : Int} (hv2 : g_InR v2) {v3 : Int} (hv3 : g_InR v3) {v4 : Int} (hv4 : g_InR v4) {v5 : Int} (hv5 : g_InR v5) (h : g_ok M → ((v5 < 2000 → g_O M a0 2 ∧ ∃ b2, g_r M a0 1 = some b2 ∧ g_Call d 108 [.ref b2, g_n v4] M (g_qI fun r7 M4 => g_ext M M4 → g_ok M4 → g_InR r7 → ((r7 = 0 → Q 0 M4) ∧ (¬ r7 = 0 → g_Call d 56 [.ref a0, g_n v4, g_n v2, g_n v3] M4 (g_qI fun r12 M9 => g_ext M4 M9 → g_ok M9 → g_InR r12 → ((r12 = 0 → ∃ b14, g_r M9 a0 1 = some b14 ∧ g_Call d 111 [.ref b14, g_n v4] M9 (g_qI fun r19 M16 => g_ext M9 M16 → g_ok M16 → g_InR r19 → g_InR (v5 + 1) ∧ g_Run d 57 13 [(0, .ref a0), (1, g_n v1), (2, g_n v2), (3, g_n v3), (4, g_n r19), (5, g_n (v5 + 1))] [] M16 (g_qI Q))) ∧ (¬ r12 = 0 → Q 1 M9))))))) ∧ (¬ v5 < 2000 → Q 0 M))) : g_Run d 57 13 [(0, .ref a0), (1, g_n v1), (2, g_n v2), (3, g_n v3), (4, g_n v4), (5, g_n v5)] [] M (g_qI Q) := by
  refine g_Run.ok fun hok => ?_
  replace h := h hok
  refine r_iload x_57_13 rfl ?_
  refine r_sipush x_57_15 (x := 2000) rfl ?_
  refine r_ic_ge x_57_18 (t := 63) (by decide +kernel) hv5 (g_Rk rfl) (fun hc => ?_) (fun hc => ?_)
  · replace h := h.2 hc
    refine r_iconst x_57_63 ?_
    exact r_retZ x_57_64 rfl (Or.inl rfl) h
  · replace h := h.1 hc
    refine r_aload_n x_57_21 rfl ?_
    obtain ⟨hO1, h⟩ := h
    obtain ⟨b2, hb3, h⟩ := h
    refine r_getR x_57_22 rfl (ci := 2) (k := 1) (ns := 0) (by decide +kernel) (by decide) rfl (kz := 1) rfl hO1 hb3 ?_
    refine r_iload x_57_25 rfl ?_
    refine r_invS x_57_27 (z := 108) (ns := 1) (by decide +kernel) (as := [.ref b2, g_n v4]) (r := []) rfl rfl rfl ?_
    refine r_callI h fun r7 M4 hx5 hok6 hr8 h => ?_
    replace h := h hx5 hok6 hr8
    replace hO1 := hO1.up hx5
    refine r_if_eq x_57_30 (t := 63) (by decide +kernel) hr8 (fun hc => ?_) (fun hc => ?_)
    · replace h := h.1 hc
      refine r_iconst x_57_63 ?_
      exact r_retZ x_57_64 rfl (Or.inl rfl) h
    · replace h := h.2 hc
      refine r_aload_n x_57_33 rfl ?_
      refine r_iload x_57_34 rfl ?_
      refine r_iload_n x_57_36 rfl ?_
      refine r_iload_n x_57_37 rfl ?_
      refine r_invV x_57_38 (z := 56) (ns := 0) (by decide +kernel) (as := [g_n v4, g_n v2, g_n v3]) (r := []) rfl rfl rfl hO1 rfl rfl ?_
      refine r_callI h fun r12 M9 hx10 hok11 hr13 h => ?_
      replace h := h hx10 hok11 hr13
      replace hO1 := hO1.up hx10
      refine r_if_eq x_57_41 (t := 46) (by decide +kernel) hr13 (fun hc => ?_) (fun hc => ?_)
      · replace h := h.1 hc
        refine r_aload_n x_57_46 rfl ?_
        obtain ⟨b14, hb15, h⟩ := h
        refine r_getR x_57_47 rfl (ci := 2) (k := 1) (ns := 0) (by decide +kernel) (by decide) rfl (kz := 1) rfl hO1 hb15 ?_
        refine r_iload x_57_50 rfl ?_
        refine r_invS x_57_52 (z := 111) (ns := 1) (by decide +kernel) (as := [.ref b14, g_n v4]) (r := []) rfl rfl rfl ?_
        refine r_callI h fun r19 M16 hx17 hok18 hr20 h => ?_
        replace h := h hx17 hok18 hr20
        replace hO1 := hO1.up hx17
        refine r_istore x_57_55 (by decide +kernel) rfl (lv1 := [(0, .ref a0), (1, g_n v1), (2, g_n v2), (3, g_n v3), (4, g_n r19), (5, g_n v5)]) rfl ?_
        obtain ⟨h21, h⟩ := h
        refine r_iinc x_57_57 (by decide +kernel) rfl rfl (lv1 := [(0, .ref a0), (1, g_n v1), (2, g_n v2), (3, g_n v3), (4, g_n r19), (5, g_n (v5 + 1))]) rfl ?_
        refine r_goto x_57_60 (t := 13) (by decide +kernel) ?_
        exact h
      · replace h := h.2 hc
        refine r_iconst x_57_44 ?_
        exact r_retZ x_57_45 rfl (Or.inr rfl) h
theorem m_X2_someIsSo {d : Nat} {M : g_M} {Q : Int → g_M → Prop} {a0 : Nat} {v1 : Int} (hv1 : g_InR v1) {v2 : Int} (hv2 : g_InR v2) {v3 : Int} (hv3 : g_InR v3) {v4 : Int} (hv4 : g_InR v4) (h : g_ok M → g_O M a0 2 ∧ ∃ b2, g_r M a0 1 = some b2 ∧ g_Call d 108 [.ref b2, g_n v2] M (g_qI fun r7 M4 => g_ext M M4 → g_ok M4 → g_InR r7 → ((r7 = 10 → ((v1 = 6 → g_Run d 58 25 [(0, .ref a0), (1, g_n v1), (2, g_n v2), (3, g_n v3), (4, g_n v4)] [] M4 (g_qI Q)) ∧ (¬ v1 = 6 → ((v1 = 8 → g_Run d 58 25 [(0, .ref a0), (1, g_n v1), (2, g_n v2), (3, g_n v3), (4, g_n v4)] [] M4 (g_qI Q)) ∧ (¬ v1 = 8 → Q 0 M4))))) ∧ (¬ r7 = 10 → g_Run d 58 45 [(0, .ref a0), (1, g_n v1), (2, g_n v2), (3, g_n v3), (4, g_n v4), (5, g_n v3)] [] M4 (g_qI Q))))) : g_Call (d + 1) 58 [.ref a0, g_n v1, g_n v2, g_n v3, g_n v4] M (g_qI Q) := by
  refine g_Call.ok fun hok0 => ?_
  replace h := h hok0
  refine r_body rfl (lv := [(0, .ref a0), (1, g_n v1), (2, g_n v2), (3, g_n v3), (4, g_n v4)]) rfl ?_
  refine g_Run.ok fun hok => ?_
  refine r_aload_n x_58_0 rfl ?_
  obtain ⟨hO1, h⟩ := h
  obtain ⟨b2, hb3, h⟩ := h
  refine r_getR x_58_1 rfl (ci := 2) (k := 1) (ns := 0) (by decide +kernel) (by decide) rfl (kz := 1) rfl hO1 hb3 ?_
  refine r_iload_n x_58_4 rfl ?_
  refine r_invS x_58_5 (z := 108) (ns := 1) (by decide +kernel) (as := [.ref b2, g_n v2]) (r := []) rfl rfl rfl ?_
  refine r_callI h fun r7 M4 hx5 hok6 hr8 h => ?_
  replace h := h hx5 hok6 hr8
  replace hO1 := hO1.up hx5
  refine r_bipush x_58_8 (x := 10) rfl ?_
  refine r_ic_ne x_58_10 (t := 42) (by decide +kernel) hr8 (g_Rk rfl) (fun hc => ?_) (fun hc => ?_)
  · replace h := h.2 hc
    refine r_iload_n x_58_42 rfl ?_
    refine r_istore x_58_43 (by decide +kernel) rfl (lv1 := [(0, .ref a0), (1, g_n v1), (2, g_n v2), (3, g_n v3), (4, g_n v4), (5, g_n v3)]) rfl ?_
    exact h
  · replace h := h.1 hc
    refine r_iload_n x_58_13 rfl ?_
    refine r_bipush x_58_14 (x := 6) rfl ?_
    refine r_ic_eq x_58_16 (t := 25) (by decide +kernel) hv1 (g_Rk rfl) (fun hc => ?_) (fun hc => ?_)
    · replace h := h.1 hc
      exact h
    · replace h := h.2 hc
      refine r_iload_n x_58_19 rfl ?_
      refine r_bipush x_58_20 (x := 8) rfl ?_
      refine r_ic_ne x_58_22 (t := 40) (by decide +kernel) hv1 (g_Rk rfl) (fun hc => ?_) (fun hc => ?_)
      · replace h := h.2 hc
        refine r_iconst x_58_40 ?_
        exact r_retZ x_58_41 rfl (Or.inl rfl) h
      · replace h := h.1 hc
        exact h
theorem s_X2_someIsSo_25 {d : Nat} {M : g_M} {Q : Int → g_M → Prop} {a0 : Nat} {v1 : Int} (hv1 : g_InR v1) {v2 : Int} (hv2 : g_InR v2) {v3 : Int} (hv3 : g_InR v3) {v4 : Int} (hv4 : g_InR v4) (h : g_ok M → g_O M a0 2 ∧ g_Call d 56 [.ref a0, g_n v2, g_n v3, g_n v4] M (g_qI fun r5 M2 => g_ext M M2 → g_ok M2 → g_InR r5 → ((r5 = 0 → Q 0 M2) ∧ (¬ r5 = 0 → Q 1 M2)))) : g_Run d 58 25 [(0, .ref a0), (1, g_n v1), (2, g_n v2), (3, g_n v3), (4, g_n v4)] [] M (g_qI Q) := by
  refine g_Run.ok fun hok => ?_
  replace h := h hok
  refine r_aload_n x_58_25 rfl ?_
  refine r_iload_n x_58_26 rfl ?_
  refine r_iload_n x_58_27 rfl ?_
  refine r_iload x_58_28 rfl ?_
  obtain ⟨hO1, h⟩ := h
  refine r_invV x_58_30 (z := 56) (ns := 0) (by decide +kernel) (as := [g_n v2, g_n v3, g_n v4]) (r := []) rfl rfl rfl hO1 rfl rfl ?_
  refine r_callI h fun r5 M2 hx3 hok4 hr6 h => ?_
  replace h := h hx3 hok4 hr6
  replace hO1 := hO1.up hx3
  refine r_if_eq x_58_33 (t := 40) (by decide +kernel) hr6 (fun hc => ?_) (fun hc => ?_)
  · replace h := h.1 hc
    refine r_iconst x_58_40 ?_
    exact r_retZ x_58_41 rfl (Or.inl rfl) h
  · replace h := h.2 hc
    refine r_iconst x_58_36 ?_
    refine r_goto x_58_37 (t := 41) (by decide +kernel) ?_
    exact r_retZ x_58_41 rfl (Or.inr rfl) h
theorem s_X2_someIsSo_45 {d : Nat} {M : g_M} {Q : Int → g_M → Prop} {a0 : Nat} {v1 : Int} (hv1 : g_InR v1) {v2 : Int} (hv2 : g_InR v2) {v3 : Int} (hv3 : g_InR v3) {v4 : Int} (hv4 : g_InR v4) {v5 : Int} (hv5 : g_InR v5) (h : g_ok M → ((v5 < v4 → g_O M a0 2 ∧ ∃ b2, g_r M a0 0 = some b2 ∧ g_O M b2 7 ∧ g_Call d 105 [.ref b2, g_n v5] M (g_qI fun r8 M5 => g_ext M M5 → g_ok M5 → g_InR r8 → g_Call d 59 [.ref a0, g_n v1, g_n r8, g_n v2] M5 (g_qI fun r13 M10 => g_ext M5 M10 → g_ok M10 → g_InR r13 → ((r13 = 0 → ∃ b15, g_r M10 a0 1 = some b15 ∧ g_Call d 108 [.ref b15, g_n r8] M10 (g_qI fun r20 M17 => g_ext M10 M17 → g_ok M17 → g_InR r20 → ((r20 = 4 → ∃ b22, g_r M17 a0 1 = some b22 ∧ g_Call d 112 [.ref b22, g_n r8] M17 (g_qI fun r27 M24 => g_ext M17 M24 → g_ok M24 → g_InR r27 → g_Run d 58 106 [(0, .ref a0), (1, g_n v1), (2, g_n v2), (3, g_n v3), (4, g_n v4), (5, g_n v5), (6, g_n r8), (7, g_n r27), (8, g_n 0)] [] M24 (g_qI Q))) ∧ (¬ r20 = 4 → g_InR (v5 + 1) ∧ g_Run d 58 45 [(0, .ref a0), (1, g_n v1), (2, g_n v2), (3, g_n v3), (4, g_n v4), (5, g_n (v5 + 1))] [] M17 (g_qI Q))))) ∧ (¬ r13 = 0 → Q 1 M10))))) ∧ (¬ v5 < v4 → Q 0 M))) : g_Run d 58 45 [(0, .ref a0), (1, g_n v1), (2, g_n v2), (3, g_n v3), (4, g_n v4), (5, g_n v5)] [] M (g_qI Q) := by
  refine g_Run.ok fun hok => ?_
  replace h := h hok
  refine r_iload x_58_45 rfl ?_
  refine r_iload x_58_47 rfl ?_
  refine r_ic_ge x_58_49 (t := 161) (by decide +kernel) hv5 hv4 (fun hc => ?_) (fun hc => ?_)
  · replace h := h.2 hc
    refine r_iconst x_58_161 ?_
    exact r_retZ x_58_162 rfl (Or.inl rfl) h
  · replace h := h.1 hc
    refine r_aload_n x_58_52 rfl ?_
    obtain ⟨hO1, h⟩ := h
    obtain ⟨b2, hb3, h⟩ := h
    refine r_getR x_58_53 rfl (ci := 2) (k := 0) (ns := 0) (by decide +kernel) (by decide) rfl (kz := 0) rfl hO1 hb3 ?_
    refine r_iload x_58_56 rfl ?_
    obtain ⟨hO4, h⟩ := h
    refine r_invV x_58_58 (z := 105) (ns := 1) (by decide +kernel) (as := [g_n v5]) (r := []) rfl rfl rfl hO4 rfl rfl ?_
    refine r_callI h fun r8 M5 hx6 hok7 hr9 h => ?_
    replace h := h hx6 hok7 hr9
    replace hO1 := hO1.up hx6
    replace hO4 := hO4.up hx6
    refine r_istore x_58_61 (by decide +kernel) rfl (lv1 := [(0, .ref a0), (1, g_n v1), (2, g_n v2), (3, g_n v3), (4, g_n v4), (5, g_n v5), (6, g_n r8)]) rfl ?_
    refine r_aload_n x_58_63 rfl ?_
    refine r_iload_n x_58_64 rfl ?_
    refine r_iload x_58_65 rfl ?_
    refine r_iload_n x_58_67 rfl ?_
    refine r_invV x_58_68 (z := 59) (ns := 0) (by decide +kernel) (as := [g_n v1, g_n r8, g_n v2]) (r := []) rfl rfl rfl hO1 rfl rfl ?_
    refine r_callI h fun r13 M10 hx11 hok12 hr14 h => ?_
    replace h := h hx11 hok12 hr14
    replace hO1 := hO1.up hx11
    replace hO4 := hO4.up hx11
    refine r_if_eq x_58_71 (t := 76) (by decide +kernel) hr14 (fun hc => ?_) (fun hc => ?_)
    · replace h := h.1 hc
      refine r_aload_n x_58_76 rfl ?_
      obtain ⟨b15, hb16, h⟩ := h
      refine r_getR x_58_77 rfl (ci := 2) (k := 1) (ns := 0) (by decide +kernel) (by decide) rfl (kz := 1) rfl hO1 hb16 ?_
      refine r_iload x_58_80 rfl ?_
      refine r_invS x_58_82 (z := 108) (ns := 1) (by decide +kernel) (as := [.ref b15, g_n r8]) (r := []) rfl rfl rfl ?_
      refine r_callI h fun r20 M17 hx18 hok19 hr21 h => ?_
      replace h := h hx18 hok19 hr21
      replace hO1 := hO1.up hx18
      replace hO4 := hO4.up hx18
      refine r_iconst x_58_85 ?_
      refine r_ic_eq x_58_86 (t := 92) (by decide +kernel) hr21 (g_Rk rfl) (fun hc => ?_) (fun hc => ?_)
      · replace h := h.1 hc
        refine r_aload_n x_58_92 rfl ?_
        obtain ⟨b22, hb23, h⟩ := h
        refine r_getR x_58_93 rfl (ci := 2) (k := 1) (ns := 0) (by decide +kernel) (by decide) rfl (kz := 1) rfl hO1 hb23 ?_
        refine r_iload x_58_96 rfl ?_
        refine r_invS x_58_98 (z := 112) (ns := 1) (by decide +kernel) (as := [.ref b22, g_n r8]) (r := []) rfl rfl rfl ?_
        refine r_callI h fun r27 M24 hx25 hok26 hr28 h => ?_
        replace h := h hx25 hok26 hr28
        replace hO1 := hO1.up hx25
        replace hO4 := hO4.up hx25
        refine r_istore x_58_101 (by decide +kernel) rfl (lv1 := [(0, .ref a0), (1, g_n v1), (2, g_n v2), (3, g_n v3), (4, g_n v4), (5, g_n v5), (6, g_n r8), (7, g_n r27)]) rfl ?_
        refine r_iconst x_58_103 ?_
        refine r_istore x_58_104 (by decide +kernel) rfl (lv1 := [(0, .ref a0), (1, g_n v1), (2, g_n v2), (3, g_n v3), (4, g_n v4), (5, g_n v5), (6, g_n r8), (7, g_n r27), (8, g_n 0)]) rfl ?_
        exact h
      · replace h := h.2 hc
        refine r_goto x_58_89 (t := 155) (by decide +kernel) ?_
        obtain ⟨h29, h⟩ := h
        refine r_iinc x_58_155 (by decide +kernel) rfl rfl (lv1 := [(0, .ref a0), (1, g_n v1), (2, g_n v2), (3, g_n v3), (4, g_n v4), (5, g_n (v5 + 1)), (6, g_n r8)]) rfl ?_
        refine r_goto x_58_158 (t := 45) (by decide +kernel) ?_
        refine g_drop [0, 1, 2, 3, 4, 5] (lv1 := [(0, .ref a0), (1, g_n v1), (2, g_n v2), (3, g_n v3), (4, g_n v4), (5, g_n (v5 + 1))]) rfl ?_
        exact h
    · replace h := h.2 hc
      refine r_iconst x_58_74 ?_
      exact r_retZ x_58_75 rfl (Or.inr rfl) h
theorem s_X2_someIsSo_106 {d : Nat} {M : g_M} {Q : Int → g_M → Prop} {a0 : Nat} {v1 : Int} (hv1 : g_InR v1) {v2 : Int} (hv2 : g_InR v2) {v3 : Int} (hv3 : g_InR v3) {v4 : Int} (hv4 : g_InR v4) {v5 : Int} (hv5 : g_InR v5) {v6 : Int} (hv6 : g_InR v6) {v7 : Int} (hv7 : g_InR v7) {v8 : Int} (hv8 : g_InR v8) (h : g_ok M → ((v8 < 100000 → g_O M a0 2 ∧ ∃ b3, g_r M a0 1 = some b3 ∧ g_Call d 108 [.ref b3, g_n v7] M (g_qI fun r8 M5 => g_ext M M5 → g_ok M5 → g_InR r8 → ((r8 = 0 → g_InR (v5 + 1) ∧ g_Run d 58 45 [(0, .ref a0), (1, g_n v1), (2, g_n v2), (3, g_n v3), (4, g_n v4), (5, g_n (v5 + 1))] [] M5 (g_qI Q)) ∧ (¬ r8 = 0 → g_Call d 59 [.ref a0, g_n v1, g_n v7, g_n v2] M5 (g_qI fun r14 M11 => g_ext M5 M11 → g_ok M11 → g_InR r14 → ((r14 = 0 → ∃ b16, g_r M11 a0 1 = some b16 ∧ g_Call d 111 [.ref b16, g_n v7] M11 (g_qI fun r21 M18 => g_ext M11 M18 → g_ok M18 → g_InR r21 → g_InR (v8 + 1) ∧ g_Run d 58 106 [(0, .ref a0), (1, g_n v1), (2, g_n v2), (3, g_n v3), (4, g_n v4), (5, g_n v5), (6, g_n v6), (7, g_n r21), (8, g_n (v8 + 1))] [] M18 (g_qI Q))) ∧ (¬ r14 = 0 → Q 1 M11))))))) ∧ (¬ v8 < 100000 → g_InR (v5 + 1) ∧ g_Run d 58 45 [(0, .ref a0), (1, g_n v1), (2, g_n v2), (3, g_n v3), (4, g_n v4), (5, g_n (v5 + 1))] [] M (g_qI Q)))) : g_Run d 58 106 [(0, .ref a0), (1, g_n v1), (2, g_n v2), (3, g_n v3), (4, g_n v4), (5, g_n v5), (6, g_n v6), (7, g_n v7), (8, g_n v8)] [] M (g_qI Q) := by
  refine g_Run.ok fun hok => ?_
  replace h := h hok
  refine r_iload x_58_106 rfl ?_
  refine r_ldc x_58_108 (v := g_n 100000) rfl ?_
  refine r_ic_ge x_58_110 (t := 155) (by decide +kernel) hv8 (g_Rk rfl) (fun hc => ?_) (fun hc => ?_)
  · replace h := h.2 hc
    obtain ⟨h1, h⟩ := h
    refine r_iinc x_58_155 (by decide +kernel) rfl rfl (lv1 := [(0, .ref a0), (1, g_n v1), (2, g_n v2), (3, g_n v3), (4, g_n v4), (5, g_n (v5 + 1)), (6, g_n v6), (7, g_n v7), (8, g_n v8)]) rfl ?_
    refine r_goto x_58_158 (t := 45) (by decide +kernel) ?_
    refine g_drop [0, 1, 2, 3, 4, 5] (lv1 := [(0, .ref a0), (1, g_n v1), (2, g_n v2), (3, g_n v3), (4, g_n v4), (5, g_n (v5 + 1))]) rfl ?_
    exact h
  · replace h := h.1 hc
    refine r_aload_n x_58_113 rfl ?_
    obtain ⟨hO2, h⟩ := h
    obtain ⟨b3, hb4, h⟩ := h
    refine r_getR x_58_114 rfl (ci := 2) (k := 1) (ns := 0) (by decide +kernel) (by decide) rfl (kz := 1) rfl hO2 hb4 ?_
    refine r_iload x_58_117 rfl ?_
    refine r_invS x_58_119 (z := 108) (ns := 1) (by decide +kernel) (as := [.ref b3, g_n v7]) (r := []) rfl rfl rfl ?_
    refine r_callI h fun r8 M5 hx6 hok7 hr9 h => ?_
    replace h := h hx6 hok7 hr9
    replace hO2 := hO2.up hx6
    refine r_if_eq x_58_122 (t := 155) (by decide +kernel) hr9 (fun hc => ?_) (fun hc => ?_)
    · replace h := h.1 hc
      obtain ⟨h10, h⟩ := h
      refine r_iinc x_58_155 (by decide +kernel) rfl rfl (lv1 := [(0, .ref a0), (1, g_n v1), (2, g_n v2), (3, g_n v3), (4, g_n v4), (5, g_n (v5 + 1)), (6, g_n v6), (7, g_n v7), (8, g_n v8)]) rfl ?_
      refine r_goto x_58_158 (t := 45) (by decide +kernel) ?_
      refine g_drop [0, 1, 2, 3, 4, 5] (lv1 := [(0, .ref a0), (1, g_n v1), (2, g_n v2), (3, g_n v3), (4, g_n v4), (5, g_n (v5 + 1))]) rfl ?_
      exact h
    · replace h := h.2 hc
      refine r_aload_n x_58_125 rfl ?_
      refine r_iload_n x_58_126 rfl ?_
      refine r_iload x_58_127 rfl ?_
      refine r_iload_n x_58_129 rfl ?_
      refine r_invV x_58_130 (z := 59) (ns := 0) (by decide +kernel) (as := [g_n v1, g_n v7, g_n v2]) (r := []) rfl rfl rfl hO2 rfl rfl ?_
      refine r_callI h fun r14 M11 hx12 hok13 hr15 h => ?_
      replace h := h hx12 hok13 hr15
      replace hO2 := hO2.up hx12
      refine r_if_eq x_58_133 (t := 138) (by decide +kernel) hr15 (fun hc => ?_) (fun hc => ?_)
      · replace h := h.1 hc
        refine r_aload_n x_58_138 rfl ?_
        obtain ⟨b16, hb17, h⟩ := h
        refine r_getR x_58_139 rfl (ci := 2) (k := 1) (ns := 0) (by decide +kernel) (by decide) rfl (kz := 1) rfl hO2 hb17 ?_
        refine r_iload x_58_142 rfl ?_
        refine r_invS x_58_144 (z := 111) (ns := 1) (by decide +kernel) (as := [.ref b16, g_n v7]) (r := []) rfl rfl rfl ?_
        refine r_callI h fun r21 M18 hx19 hok20 hr22 h => ?_
        replace h := h hx19 hok20 hr22
        replace hO2 := hO2.up hx19
        refine r_istore x_58_147 (by decide +kernel) rfl (lv1 := [(0, .ref a0), (1, g_n v1), (2, g_n v2), (3, g_n v3), (4, g_n v4), (5, g_n v5), (6, g_n v6), (7, g_n r21), (8, g_n v8)]) rfl ?_
        obtain ⟨h23, h⟩ := h
        refine r_iinc x_58_149 (by decide +kernel) rfl rfl (lv1 := [(0, .ref a0), (1, g_n v1), (2, g_n v2), (3, g_n v3), (4, g_n v4), (5, g_n v5), (6, g_n v6), (7, g_n r21), (8, g_n (v8 + 1))]) rfl ?_
        refine r_goto x_58_152 (t := 106) (by decide +kernel) ?_
        exact h
      · replace h := h.2 hc
        refine r_iconst x_58_136 ?_
        exact r_retZ x_58_137 rfl (Or.inr rfl) h
theorem m_X2_isSo {d : Nat} {M : g_M} {Q : Int → g_M → Prop} {a0 : Nat} {v1 : Int} (hv1 : g_InR v1) {v2 : Int} (hv2 : g_InR v2) {v3 : Int} (hv3 : g_InR v3) (h : g_ok M → g_O M a0 2 ∧ ∃ b2, g_r M a0 1 = some b2 ∧ g_Call d 120 [.ref b2, g_n v2] M (g_qI fun r7 M4 => g_ext M M4 → g_ok M4 → g_InR r7 → ∃ b9, g_r M4 a0 1 = some b9 ∧ g_Call d 120 [.ref b9, g_n v3] M4 (g_qI fun r14 M11 => g_ext M4 M11 → g_ok M11 → g_InR r14 → ((r7 = r14 → ∃ b16, g_r M11 a0 1 = some b16 ∧ ∃ b18, g_r M11 a0 1 = some b18 ∧ g_Call d 121 [.ref b16, g_n v2, .ref b18, g_n v3, g_n 0] M11 (g_qI fun r23 M20 => g_ext M11 M20 → g_ok M20 → g_InR r23 → ((v1 = 5 → ((r23 < 0 → Q 1 M20) ∧ (¬ r23 < 0 → Q 0 M20))) ∧ (¬ v1 = 5 → ((v1 = 6 → ((0 < r23 → Q 0 M20) ∧ (¬ 0 < r23 → Q 1 M20))) ∧ (¬ v1 = 6 → ((v1 = 7 → ((0 < r23 → Q 1 M20) ∧ (¬ 0 < r23 → Q 0 M20))) ∧ (¬ v1 = 7 → ((r23 < 0 → Q 0 M20) ∧ (¬ r23 < 0 → Q 1 M20)))))))))) ∧ (¬ r7 = r14 → Q 0 M11))))) : g_Call (d + 1) 59 [.ref a0, g_n v1, g_n v2, g_n v3] M (g_qI Q) := by
  refine g_Call.ok fun hok0 => ?_
  replace h := h hok0
  refine r_body rfl (lv := [(0, .ref a0), (1, g_n v1), (2, g_n v2), (3, g_n v3)]) rfl ?_
  refine g_Run.ok fun hok => ?_
  refine r_aload_n x_59_0 rfl ?_
  obtain ⟨hO1, h⟩ := h
  obtain ⟨b2, hb3, h⟩ := h
  refine r_getR x_59_1 rfl (ci := 2) (k := 1) (ns := 0) (by decide +kernel) (by decide) rfl (kz := 1) rfl hO1 hb3 ?_
  refine r_iload_n x_59_4 rfl ?_
  refine r_invS x_59_5 (z := 120) (ns := 1) (by decide +kernel) (as := [.ref b2, g_n v2]) (r := []) rfl rfl rfl ?_
  refine r_callI h fun r7 M4 hx5 hok6 hr8 h => ?_
  replace h := h hx5 hok6 hr8
  replace hO1 := hO1.up hx5
  refine r_aload_n x_59_8 rfl ?_
  obtain ⟨b9, hb10, h⟩ := h
  refine r_getR x_59_9 rfl (ci := 2) (k := 1) (ns := 0) (by decide +kernel) (by decide) rfl (kz := 1) rfl hO1 hb10 ?_
  refine r_iload_n x_59_12 rfl ?_
  refine r_invS x_59_13 (z := 120) (ns := 1) (by decide +kernel) (as := [.ref b9, g_n v3]) (r := [g_n r7]) rfl rfl rfl ?_
  refine r_callI h fun r14 M11 hx12 hok13 hr15 h => ?_
  replace h := h hx12 hok13 hr15
  replace hO1 := hO1.up hx12
  refine r_ic_eq x_59_16 (t := 21) (by decide +kernel) hr8 hr15 (fun hc => ?_) (fun hc => ?_)
  · replace h := h.1 hc
    refine r_aload_n x_59_21 rfl ?_
    obtain ⟨b16, hb17, h⟩ := h
    refine r_getR x_59_22 rfl (ci := 2) (k := 1) (ns := 0) (by decide +kernel) (by decide) rfl (kz := 1) rfl hO1 hb17 ?_
    refine r_iload_n x_59_25 rfl ?_
    refine r_aload_n x_59_26 rfl ?_
    obtain ⟨b18, hb19, h⟩ := h
    refine r_getR x_59_27 rfl (ci := 2) (k := 1) (ns := 0) (by decide +kernel) (by decide) rfl (kz := 1) rfl hO1 hb19 ?_
    refine r_iload_n x_59_30 rfl ?_
    refine r_iconst x_59_31 ?_
    refine r_invS x_59_32 (z := 121) (ns := 1) (by decide +kernel) (as := [.ref b16, g_n v2, .ref b18, g_n v3, g_n 0]) (r := []) rfl rfl rfl ?_
    refine r_callI h fun r23 M20 hx21 hok22 hr24 h => ?_
    replace h := h hx21 hok22 hr24
    replace hO1 := hO1.up hx21
    refine r_istore x_59_35 (by decide +kernel) rfl (lv1 := [(0, .ref a0), (1, g_n v1), (2, g_n v2), (3, g_n v3), (4, g_n r23)]) rfl ?_
    refine r_iload_n x_59_37 rfl ?_
    by_cases hk25 : v1 = 5
    · refine r_tableAt x_59_38 hk25 (t := 64) (g_Rk rfl) (by decide +kernel) ?_
      replace h := h.1 hk25
      refine r_iload x_59_64 rfl ?_
      refine r_if_ge x_59_66 (t := 73) (by decide +kernel) hr24 (fun hc => ?_) (fun hc => ?_)
      · replace h := h.2 hc
        refine r_iconst x_59_73 ?_
        exact r_retZ x_59_74 rfl (Or.inl rfl) h
      · replace h := h.1 hc
        refine r_iconst x_59_69 ?_
        refine r_goto x_59_70 (t := 74) (by decide +kernel) ?_
        exact r_retZ x_59_74 rfl (Or.inr rfl) h
    replace h := h.2 hk25
    by_cases hk26 : v1 = 6
    · refine r_tableAt x_59_38 hk26 (t := 75) (g_Rk rfl) (by decide +kernel) ?_
      replace h := h.1 hk26
      refine r_iload x_59_75 rfl ?_
      refine r_if_gt x_59_77 (t := 84) (by decide +kernel) hr24 (fun hc => ?_) (fun hc => ?_)
      · replace h := h.1 hc
        refine r_iconst x_59_84 ?_
        exact r_retZ x_59_85 rfl (Or.inl rfl) h
      · replace h := h.2 hc
        refine r_iconst x_59_80 ?_
        refine r_goto x_59_81 (t := 85) (by decide +kernel) ?_
        exact r_retZ x_59_85 rfl (Or.inr rfl) h
    replace h := h.2 hk26
    by_cases hk27 : v1 = 7
    · refine r_tableAt x_59_38 hk27 (t := 86) (g_Rk rfl) (by decide +kernel) ?_
      replace h := h.1 hk27
      refine r_iload x_59_86 rfl ?_
      refine r_if_le x_59_88 (t := 95) (by decide +kernel) hr24 (fun hc => ?_) (fun hc => ?_)
      · replace h := h.2 hc
        refine r_iconst x_59_95 ?_
        exact r_retZ x_59_96 rfl (Or.inl rfl) h
      · replace h := h.1 hc
        refine r_iconst x_59_91 ?_
        refine r_goto x_59_92 (t := 96) (by decide +kernel) ?_
        exact r_retZ x_59_96 rfl (Or.inr rfl) h
    replace h := h.2 hk27
    refine r_tableD x_59_38 hv1 (t := 97) (lo := 5) (hi := 7) (by omega) (by decide +kernel) ?_
    refine r_iload x_59_97 rfl ?_
    refine r_if_lt x_59_99 (t := 106) (by decide +kernel) hr24 (fun hc => ?_) (fun hc => ?_)
    · replace h := h.1 hc
      refine r_iconst x_59_106 ?_
      exact r_retZ x_59_107 rfl (Or.inl rfl) h
    · replace h := h.2 hc
      refine r_iconst x_59_102 ?_
      refine r_goto x_59_103 (t := 107) (by decide +kernel) ?_
      exact r_retZ x_59_107 rfl (Or.inr rfl) h
  · replace h := h.2 hc
    refine r_iconst x_59_19 ?_
    exact r_retZ x_59_20 rfl (Or.inl rfl) h
theorem m_X2_someExists {d : Nat} {M : g_M} {Q : Int → g_M → Prop} {a0 : Nat} {v1 : Int} (hv1 : g_InR v1) {v2 : Int} (hv2 : g_InR v2) (h : g_ok M → g_Run d 60 2 [(0, .ref a0), (1, g_n v1), (2, g_n v2), (3, g_n v1)] [] M (g_qI Q)) : g_Call (d + 1) 60 [.ref a0, g_n v1, g_n v2] M (g_qI Q) := by
  refine g_Call.ok fun hok0 => ?_
  replace h := h hok0
  refine r_body rfl (lv := [(0, .ref a0), (1, g_n v1), (2, g_n v2)]) rfl ?_
  refine g_Run.ok fun hok => ?_
  refine r_iload_n x_60_0 rfl ?_
  refine r_istore_n x_60_1 (by decide +kernel) rfl (lv1 := [(0, .ref a0), (1, g_n v1), (2, g_n v2), (3, g_n v1)]) rfl ?_
  exact h
theorem s_X2_someExists_2 {d : Nat} {M : g_M} {Q : Int → g_M → Prop} {a0 : Nat} {v1 : Int} (hv1 : g_InR v1) {v2 : Int} (hv2 : g_InR v2) {v3 : Int} (hv3 : g_InR v3) (h : g_ok M → ((v3 < v2 → g_O M a0 2 ∧ ∃ b2, g_r M a0 0 = some b2 ∧ g_O M b2 7 ∧ g_Call d 105 [.ref b2, g_n v3] M (g_qI fun r8 M5 => g_ext M M5 → g_ok M5 → g_InR r8 → ((r8 < 0 → g_InR (v3 + 1) ∧ g_Run d 60 2 [(0, .ref a0), (1, g_n v1), (2, g_n v2), (3, g_n (v3 + 1))] [] M5 (g_qI Q)) ∧ (¬ r8 < 0 → Q 1 M5)))) ∧ (¬ v3 < v2 → Q 0 M))) : g_Run d 60 2 [(0, .ref a0), (1, g_n v1), (2, g_n v2), (3, g_n v3)] [] M (g_qI Q) := by
  refine g_Run.ok fun hok => ?_
  replace h := h hok
  refine r_iload_n x_60_2 rfl ?_
  refine r_iload_n x_60_3 rfl ?_
  refine r_ic_ge x_60_4 (t := 26) (by decide +kernel) hv3 hv2 (fun hc => ?_) (fun hc => ?_)
  · replace h := h.2 hc
    refine r_iconst x_60_26 ?_
    exact r_retZ x_60_27 rfl (Or.inl rfl) h
  · replace h := h.1 hc
    refine r_aload_n x_60_7 rfl ?_
    obtain ⟨hO1, h⟩ := h
    obtain ⟨b2, hb3, h⟩ := h
    refine r_getR x_60_8 rfl (ci := 2) (k := 0) (ns := 0) (by decide +kernel) (by decide) rfl (kz := 0) rfl hO1 hb3 ?_
    refine r_iload_n x_60_11 rfl ?_
    obtain ⟨hO4, h⟩ := h
    refine r_invV x_60_12 (z := 105) (ns := 1) (by decide +kernel) (as := [g_n v3]) (r := []) rfl rfl rfl hO4 rfl rfl ?_
    refine r_callI h fun r8 M5 hx6 hok7 hr9 h => ?_
    replace h := h hx6 hok7 hr9
    replace hO1 := hO1.up hx6
    replace hO4 := hO4.up hx6
    refine r_if_lt x_60_15 (t := 20) (by decide +kernel) hr9 (fun hc => ?_) (fun hc => ?_)
    · replace h := h.1 hc
      obtain ⟨h10, h⟩ := h
      refine r_iinc x_60_20 (by decide +kernel) rfl rfl (lv1 := [(0, .ref a0), (1, g_n v1), (2, g_n v2), (3, g_n (v3 + 1))]) rfl ?_
      refine r_goto x_60_23 (t := 2) (by decide +kernel) ?_
      exact h
    · replace h := h.2 hc
      refine r_iconst x_60_18 ?_
      exact r_retZ x_60_19 rfl (Or.inr rfl) h
theorem m_X2_someCounts {d : Nat} {M : g_M} {Q : Int → g_M → Prop} {a0 : Nat} {V1 : Int64} {v3 : Int} (hv3 : g_InR v3) {v4 : Int} (hv4 : g_InR v4) (h : g_ok M → g_Run d 61 3 [(0, .ref a0), (1, .long V1), (3, g_n v3), (4, g_n v4), (5, g_n v3)] [] M (g_qI Q)) : g_Call (d + 1) 61 [.ref a0, .long V1, g_n v3, g_n v4] M (g_qI Q) := by
  refine g_Call.ok fun hok0 => ?_
  replace h := h hok0
  refine r_body rfl (lv := [(0, .ref a0), (1, .long V1), (3, g_n v3), (4, g_n v4)]) rfl ?_
  refine g_Run.ok fun hok => ?_
  refine r_iload_n x_61_0 rfl ?_
  refine r_istore x_61_1 (by decide +kernel) rfl (lv1 := [(0, .ref a0), (1, .long V1), (3, g_n v3), (4, g_n v4), (5, g_n v3)]) rfl ?_
  exact h
theorem s_X2_someCounts_3 {d : Nat} {M : g_M} {Q : Int → g_M → Prop} {a0 : Nat} {V1 : Int64} {v3 : Int} (hv3 : g_InR v3) {v4 : Int} (hv4 : g_InR v4) {v5 : Int} (hv5 : g_InR v5) (h : g_ok M → ((v5 < v4 → g_O M a0 2 ∧ ∃ b2, g_r M a0 0 = some b2 ∧ g_O M b2 7 ∧ g_Call d 105 [.ref b2, g_n v5] M (g_qI fun r8 M5 => g_ext M M5 → g_ok M5 → g_InR r8 → ∃ b10, g_r M5 a0 1 = some b10 ∧ g_Call d 108 [.ref b10, g_n r8] M5 (g_qI fun r15 M12 => g_ext M5 M12 → g_ok M12 → g_InR r15 → ((r15 = 4 → ∃ b18, g_r M12 a0 1 = some b18 ∧ g_Call d 113 [.ref b18, g_n r8] M12 (g_qI fun r23 M20 => g_ext M12 M20 → g_ok M20 → g_InR r23 → ((g_lc (Int64.ofInt r23) V1 = 0 → Q 1 M20) ∧ (¬ g_lc (Int64.ofInt r23) V1 = 0 → g_InR (v5 + 1) ∧ g_Run d 61 3 [(0, .ref a0), (1, .long V1), (3, g_n v3), (4, g_n v4), (5, g_n (v5 + 1))] [] M20 (g_qI Q))))) ∧ (¬ r15 = 4 → g_InR (v5 + 1) ∧ g_Run d 61 3 [(0, .ref a0), (1, .long V1), (3, g_n v3), (4, g_n v4), (5, g_n (v5 + 1))] [] M12 (g_qI Q)))))) ∧ (¬ v5 < v4 → Q 0 M))) : g_Run d 61 3 [(0, .ref a0), (1, .long V1), (3, g_n v3), (4, g_n v4), (5, g_n v5)] [] M (g_qI Q) := by
  refine g_Run.ok fun hok => ?_
  replace h := h hok
  refine r_iload x_61_3 rfl ?_
  refine r_iload x_61_5 rfl ?_
  refine r_ic_ge x_61_7 (t := 57) (by decide +kernel) hv5 hv4 (fun hc => ?_) (fun hc => ?_)
  · replace h := h.2 hc
    refine r_iconst x_61_57 ?_
    exact r_retZ x_61_58 rfl (Or.inl rfl) h
  · replace h := h.1 hc
    refine r_aload_n x_61_10 rfl ?_
    obtain ⟨hO1, h⟩ := h
    obtain ⟨b2, hb3, h⟩ := h
    refine r_getR x_61_11 rfl (ci := 2) (k := 0) (ns := 0) (by decide +kernel) (by decide) rfl (kz := 0) rfl hO1 hb3 ?_
    refine r_iload x_61_14 rfl ?_
    obtain ⟨hO4, h⟩ := h
    refine r_invV x_61_16 (z := 105) (ns := 1) (by decide +kernel) (as := [g_n v5]) (r := []) rfl rfl rfl hO4 rfl rfl ?_
    refine r_callI h fun r8 M5 hx6 hok7 hr9 h => ?_
    replace h := h hx6 hok7 hr9
    replace hO1 := hO1.up hx6
    replace hO4 := hO4.up hx6
    refine r_istore x_61_19 (by decide +kernel) rfl (lv1 := [(0, .ref a0), (1, .long V1), (3, g_n v3), (4, g_n v4), (5, g_n v5), (6, g_n r8)]) rfl ?_
    refine r_aload_n x_61_21 rfl ?_
    obtain ⟨b10, hb11, h⟩ := h
    refine r_getR x_61_22 rfl (ci := 2) (k := 1) (ns := 0) (by decide +kernel) (by decide) rfl (kz := 1) rfl hO1 hb11 ?_
    refine r_iload x_61_25 rfl ?_
    refine r_invS x_61_27 (z := 108) (ns := 1) (by decide +kernel) (as := [.ref b10, g_n r8]) (r := []) rfl rfl rfl ?_
    refine r_callI h fun r15 M12 hx13 hok14 hr16 h => ?_
    replace h := h hx13 hok14 hr16
    replace hO1 := hO1.up hx13
    replace hO4 := hO4.up hx13
    refine r_iconst x_61_30 ?_
    refine r_ic_ne x_61_31 (t := 51) (by decide +kernel) hr16 (g_Rk rfl) (fun hc => ?_) (fun hc => ?_)
    · replace h := h.2 hc
      obtain ⟨h17, h⟩ := h
      refine r_iinc x_61_51 (by decide +kernel) rfl rfl (lv1 := [(0, .ref a0), (1, .long V1), (3, g_n v3), (4, g_n v4), (5, g_n (v5 + 1)), (6, g_n r8)]) rfl ?_
      refine r_goto x_61_54 (t := 3) (by decide +kernel) ?_
      refine g_drop [0, 1, 3, 4, 5] (lv1 := [(0, .ref a0), (1, .long V1), (3, g_n v3), (4, g_n v4), (5, g_n (v5 + 1))]) rfl ?_
      exact h
    · replace h := h.1 hc
      refine r_aload_n x_61_34 rfl ?_
      obtain ⟨b18, hb19, h⟩ := h
      refine r_getR x_61_35 rfl (ci := 2) (k := 1) (ns := 0) (by decide +kernel) (by decide) rfl (kz := 1) rfl hO1 hb19 ?_
      refine r_iload x_61_38 rfl ?_
      refine r_invS x_61_40 (z := 113) (ns := 1) (by decide +kernel) (as := [.ref b18, g_n r8]) (r := []) rfl rfl rfl ?_
      refine r_callI h fun r23 M20 hx21 hok22 hr24 h => ?_
      replace h := h hx21 hok22 hr24
      replace hO1 := hO1.up hx21
      replace hO4 := hO4.up hx21
      refine r_i2l x_61_43 hr24 ?_
      refine r_lload_n x_61_44 rfl ?_
      refine r_lcmp x_61_45 ?_
      refine r_if_ne x_61_46 (t := 51) (by decide +kernel) (g_InR_toInt _) (fun hc => ?_) (fun hc => ?_)
      · replace h := h.2 hc
        obtain ⟨h25, h⟩ := h
        refine r_iinc x_61_51 (by decide +kernel) rfl rfl (lv1 := [(0, .ref a0), (1, .long V1), (3, g_n v3), (4, g_n v4), (5, g_n (v5 + 1)), (6, g_n r8)]) rfl ?_
        refine r_goto x_61_54 (t := 3) (by decide +kernel) ?_
        refine g_drop [0, 1, 3, 4, 5] (lv1 := [(0, .ref a0), (1, .long V1), (3, g_n v3), (4, g_n v4), (5, g_n (v5 + 1))]) rfl ?_
        exact h
      · replace h := h.1 hc
        refine r_iconst x_61_49 ?_
        exact r_retZ x_61_50 rfl (Or.inr rfl) h
theorem m_X2_someHasItem {d : Nat} {M : g_M} {Q : Int → g_M → Prop} {a0 : Nat} {v1 : Int} (hv1 : g_InR v1) {v2 : Int} (hv2 : g_InR v2) {v3 : Int} (hv3 : g_InR v3) {v4 : Int} (hv4 : g_InR v4) (h : g_ok M → g_O M a0 2 ∧ ∃ b2, g_r M a0 1 = some b2 ∧ g_Call d 41 [.ref b2, g_n v1] M (g_qI fun r7 M4 => g_ext M M4 → g_ok M4 → g_InR r7 → g_Run d 62 13 [(0, .ref a0), (1, g_n v1), (2, g_n v2), (3, g_n v3), (4, g_n v4), (5, g_n r7), (6, g_n v2)] [] M4 (g_qI Q))) : g_Call (d + 1) 62 [.ref a0, g_n v1, g_n v2, g_n v3, g_n v4] M (g_qI Q) := by
  refine g_Call.ok fun hok0 => ?_
  replace h := h hok0
  refine r_body rfl (lv := [(0, .ref a0), (1, g_n v1), (2, g_n v2), (3, g_n v3), (4, g_n v4)]) rfl ?_
  refine g_Run.ok fun hok => ?_
  refine r_aload_n x_62_0 rfl ?_
  obtain ⟨hO1, h⟩ := h
  obtain ⟨b2, hb3, h⟩ := h
  refine r_getR x_62_1 rfl (ci := 2) (k := 1) (ns := 0) (by decide +kernel) (by decide) rfl (kz := 1) rfl hO1 hb3 ?_
  refine r_iload_n x_62_4 rfl ?_
  refine r_invS x_62_5 (z := 41) (ns := 0) (by decide +kernel) (as := [.ref b2, g_n v1]) (r := []) rfl rfl rfl ?_
  refine r_callI h fun r7 M4 hx5 hok6 hr8 h => ?_
  replace h := h hx5 hok6 hr8
  replace hO1 := hO1.up hx5
  refine r_istore x_62_8 (by decide +kernel) rfl (lv1 := [(0, .ref a0), (1, g_n v1), (2, g_n v2), (3, g_n v3), (4, g_n v4), (5, g_n r7)]) rfl ?_
  refine r_iload_n x_62_10 rfl ?_
  refine r_istore x_62_11 (by decide +kernel) rfl (lv1 := [(0, .ref a0), (1, g_n v1), (2, g_n v2), (3, g_n v3), (4, g_n v4), (5, g_n r7), (6, g_n v2)]) rfl ?_
  exact h
theorem s_X2_someHasItem_13 {d : Nat} {M : g_M} {Q : Int → g_M → Prop} {a0 : Nat} {v1 : Int} (hv1 : g_InR v1) {v2 : Int} (hv2 : g_InR v2) {v3 : Int} (hv3 : g_InR v3) {v4 : Int} (hv4 : g_InR v4) {v5 : Int} (hv5 : g_InR v5) {v6 : Int} (hv6 : g_InR v6) (h : g_ok M → ((v6 < v3 → g_O M a0 2 ∧ ∃ b2, g_r M a0 0 = some b2 ∧ g_O M b2 7 ∧ g_Call d 105 [.ref b2, g_n v6] M (g_qI fun r8 M5 => g_ext M M5 → g_ok M5 → g_InR r8 → ∃ b10, g_r M5 a0 1 = some b10 ∧ g_Call d 108 [.ref b10, g_n r8] M5 (g_qI fun r15 M12 => g_ext M5 M12 → g_ok M12 → g_InR r15 → ((r15 = 4 → ∃ b17, g_r M12 a0 1 = some b17 ∧ g_Call d 112 [.ref b17, g_n r8] M12 (g_qI fun r22 M19 => g_ext M12 M19 → g_ok M19 → g_InR r22 → g_Run d 62 60 [(0, .ref a0), (1, g_n v1), (2, g_n v2), (3, g_n v3), (4, g_n v4), (5, g_n v5), (6, g_n v6), (7, g_n r8), (8, g_n r22), (9, g_n 0)] [] M19 (g_qI Q))) ∧ (¬ r15 = 4 → g_InR (v6 + 1) ∧ g_Run d 62 13 [(0, .ref a0), (1, g_n v1), (2, g_n v2), (3, g_n v3), (4, g_n v4), (5, g_n v5), (6, g_n (v6 + 1))] [] M12 (g_qI Q)))))) ∧ (¬ v6 < v3 → Q 0 M))) : g_Run d 62 13 [(0, .ref a0), (1, g_n v1), (2, g_n v2), (3, g_n v3), (4, g_n v4), (5, g_n v5), (6, g_n v6)] [] M (g_qI Q) := by
  refine g_Run.ok fun hok => ?_
  replace h := h hok
  refine r_iload x_62_13 rfl ?_
  refine r_iload_n x_62_15 rfl ?_
  refine r_ic_ge x_62_16 (t := 149) (by decide +kernel) hv6 hv3 (fun hc => ?_) (fun hc => ?_)
  · replace h := h.2 hc
    refine r_iconst x_62_149 ?_
    exact r_retZ x_62_150 rfl (Or.inl rfl) h
  · replace h := h.1 hc
    refine r_aload_n x_62_19 rfl ?_
    obtain ⟨hO1, h⟩ := h
    obtain ⟨b2, hb3, h⟩ := h
    refine r_getR x_62_20 rfl (ci := 2) (k := 0) (ns := 0) (by decide +kernel) (by decide) rfl (kz := 0) rfl hO1 hb3 ?_
    refine r_iload x_62_23 rfl ?_
    obtain ⟨hO4, h⟩ := h
    refine r_invV x_62_25 (z := 105) (ns := 1) (by decide +kernel) (as := [g_n v6]) (r := []) rfl rfl rfl hO4 rfl rfl ?_
    refine r_callI h fun r8 M5 hx6 hok7 hr9 h => ?_
    replace h := h hx6 hok7 hr9
    replace hO1 := hO1.up hx6
    replace hO4 := hO4.up hx6
    refine r_istore x_62_28 (by decide +kernel) rfl (lv1 := [(0, .ref a0), (1, g_n v1), (2, g_n v2), (3, g_n v3), (4, g_n v4), (5, g_n v5), (6, g_n v6), (7, g_n r8)]) rfl ?_
    refine r_aload_n x_62_30 rfl ?_
    obtain ⟨b10, hb11, h⟩ := h
    refine r_getR x_62_31 rfl (ci := 2) (k := 1) (ns := 0) (by decide +kernel) (by decide) rfl (kz := 1) rfl hO1 hb11 ?_
    refine r_iload x_62_34 rfl ?_
    refine r_invS x_62_36 (z := 108) (ns := 1) (by decide +kernel) (as := [.ref b10, g_n r8]) (r := []) rfl rfl rfl ?_
    refine r_callI h fun r15 M12 hx13 hok14 hr16 h => ?_
    replace h := h hx13 hok14 hr16
    replace hO1 := hO1.up hx13
    replace hO4 := hO4.up hx13
    refine r_iconst x_62_39 ?_
    refine r_ic_eq x_62_40 (t := 46) (by decide +kernel) hr16 (g_Rk rfl) (fun hc => ?_) (fun hc => ?_)
    · replace h := h.1 hc
      refine r_aload_n x_62_46 rfl ?_
      obtain ⟨b17, hb18, h⟩ := h
      refine r_getR x_62_47 rfl (ci := 2) (k := 1) (ns := 0) (by decide +kernel) (by decide) rfl (kz := 1) rfl hO1 hb18 ?_
      refine r_iload x_62_50 rfl ?_
      refine r_invS x_62_52 (z := 112) (ns := 1) (by decide +kernel) (as := [.ref b17, g_n r8]) (r := []) rfl rfl rfl ?_
      refine r_callI h fun r22 M19 hx20 hok21 hr23 h => ?_
      replace h := h hx20 hok21 hr23
      replace hO1 := hO1.up hx20
      replace hO4 := hO4.up hx20
      refine r_istore x_62_55 (by decide +kernel) rfl (lv1 := [(0, .ref a0), (1, g_n v1), (2, g_n v2), (3, g_n v3), (4, g_n v4), (5, g_n v5), (6, g_n v6), (7, g_n r8), (8, g_n r22)]) rfl ?_
      refine r_iconst x_62_57 ?_
      refine r_istore x_62_58 (by decide +kernel) rfl (lv1 := [(0, .ref a0), (1, g_n v1), (2, g_n v2), (3, g_n v3), (4, g_n v4), (5, g_n v5), (6, g_n v6), (7, g_n r8), (8, g_n r22), (9, g_n 0)]) rfl ?_
      exact h
    · replace h := h.2 hc
      refine r_goto x_62_43 (t := 143) (by decide +kernel) ?_
      obtain ⟨h24, h⟩ := h
      refine r_iinc x_62_143 (by decide +kernel) rfl rfl (lv1 := [(0, .ref a0), (1, g_n v1), (2, g_n v2), (3, g_n v3), (4, g_n v4), (5, g_n v5), (6, g_n (v6 + 1)), (7, g_n r8)]) rfl ?_
      refine r_goto x_62_146 (t := 13) (by decide +kernel) ?_
      refine g_drop [0, 1, 2, 3, 4, 5, 6] (lv1 := [(0, .ref a0), (1, g_n v1), (2, g_n v2), (3, g_n v3), (4, g_n v4), (5, g_n v5), (6, g_n (v6 + 1))]) rfl ?_
      exact h
theorem s_X2_someHasItem_60 {d : Nat} {M : g_M} {Q : Int → g_M → Prop} {a0 : Nat} {v1 : Int} (hv1 : g_InR v1) {v2 : Int} (hv2 : g_InR v2) {v3 : Int} (hv3 : g_InR v3) {v4 : Int} (hv4 : g_InR v4) {v5 : Int} (hv5 : g_InR v5) {v6 : Int} (hv6 : g_InR v6) {v7 : Int} (hv7 : g_InR v7) {v8 : Int} (hv8 : g_InR v8) {v9 : Int} (hv9 : g_InR v9) (h : g_ok M → ((v9 < 100000 → g_O M a0 2 ∧ ∃ b3, g_r M a0 1 = some b3 ∧ g_Call d 108 [.ref b3, g_n v8] M (g_qI fun r8 M5 => g_ext M M5 → g_ok M5 → g_InR r8 → ((r8 = 0 → g_InR (v6 + 1) ∧ g_Run d 62 13 [(0, .ref a0), (1, g_n v1), (2, g_n v2), (3, g_n v3), (4, g_n v4), (5, g_n v5), (6, g_n (v6 + 1))] [] M5 (g_qI Q)) ∧ (¬ r8 = 0 → ((v5 = 0 → ∃ b11, g_r M5 a0 1 = some b11 ∧ g_Call d 108 [.ref b11, g_n v8] M5 (g_qI fun r16 M13 => g_ext M5 M13 → g_ok M13 → g_InR r16 → ((r16 = 3 → g_Call d 51 [.ref a0, g_n v1, g_n v8, g_n v4] M13 (g_qI fun r29 M26 => g_ext M13 M26 → g_ok M26 → g_InR r29 → ((r29 = 0 → ∃ b31, g_r M26 a0 1 = some b31 ∧ g_Call d 111 [.ref b31, g_n v8] M26 (g_qI fun r36 M33 => g_ext M26 M33 → g_ok M33 → g_InR r36 → g_InR (v9 + 1) ∧ g_Run d 62 60 [(0, .ref a0), (1, g_n v1), (2, g_n v2), (3, g_n v3), (4, g_n v4), (5, g_n v5), (6, g_n v6), (7, g_n v7), (8, g_n r36), (9, g_n (v9 + 1))] [] M33 (g_qI Q))) ∧ (¬ r29 = 0 → Q 1 M26)))) ∧ (¬ r16 = 3 → ∃ b18, g_r M13 a0 1 = some b18 ∧ g_Call d 111 [.ref b18, g_n v8] M13 (g_qI fun r23 M20 => g_ext M13 M20 → g_ok M20 → g_InR r23 → g_InR (v9 + 1) ∧ g_Run d 62 60 [(0, .ref a0), (1, g_n v1), (2, g_n v2), (3, g_n v3), (4, g_n v4), (5, g_n v5), (6, g_n v6), (7, g_n v7), (8, g_n r23), (9, g_n (v9 + 1))] [] M20 (g_qI Q)))))) ∧ (¬ v5 = 0 → g_Call d 63 [.ref a0, g_n v1, g_n v8, g_n v4] M5 (g_qI fun r42 M39 => g_ext M5 M39 → g_ok M39 → g_InR r42 → ((r42 = 0 → ∃ b44, g_r M39 a0 1 = some b44 ∧ g_Call d 111 [.ref b44, g_n v8] M39 (g_qI fun r49 M46 => g_ext M39 M46 → g_ok M46 → g_InR r49 → g_InR (v9 + 1) ∧ g_Run d 62 60 [(0, .ref a0), (1, g_n v1), (2, g_n v2), (3, g_n v3), (4, g_n v4), (5, g_n v5), (6, g_n v6), (7, g_n v7), (8, g_n r49), (9, g_n (v9 + 1))] [] M46 (g_qI Q))) ∧ (¬ r42 = 0 → Q 1 M39))))))))) ∧ (¬ v9 < 100000 → g_InR (v6 + 1) ∧ g_Run d 62 13 [(0, .ref a0), (1, g_n v1), (2, g_n v2), (3, g_n v3), (4, g_n v4), (5, g_n v5), (6, g_n (v6 + 1))] [] M (g_qI Q)))) : g_Run d 62 60 [(0, .ref a0), (1, g_n v1), (2, g_n v2), (3, g_n v3), (4, g_n v4), (5, g_n v5), (6, g_n v6), (7, g_n v7), (8, g_n v8), (9, g_n v9)] [] M (g_qI Q) := by
  refine g_Run.ok fun hok => ?_
  replace h := h hok
  refine r_iload x_62_60 rfl ?_
  refine r_ldc x_62_62 (v := g_n 100000) rfl ?_
  refine r_ic_ge x_62_64 (t := 143) (by decide +kernel) hv9 (g_Rk rfl) (fun hc => ?_) (fun hc => ?_)
  · replace h := h.2 hc
    obtain ⟨h1, h⟩ := h
    refine r_iinc x_62_143 (by decide +kernel) rfl rfl (lv1 := [(0, .ref a0), (1, g_n v1), (2, g_n v2), (3, g_n v3), (4, g_n v4), (5, g_n v5), (6, g_n (v6 + 1)), (7, g_n v7), (8, g_n v8), (9, g_n v9)]) rfl ?_
    refine r_goto x_62_146 (t := 13) (by decide +kernel) ?_
    refine g_drop [0, 1, 2, 3, 4, 5, 6] (lv1 := [(0, .ref a0), (1, g_n v1), (2, g_n v2), (3, g_n v3), (4, g_n v4), (5, g_n v5), (6, g_n (v6 + 1))]) rfl ?_
    exact h
  · replace h := h.1 hc
    refine r_aload_n x_62_67 rfl ?_
    obtain ⟨hO2, h⟩ := h
    obtain ⟨b3, hb4, h⟩ := h
    refine r_getR x_62_68 rfl (ci := 2) (k := 1) (ns := 0) (by decide +kernel) (by decide) rfl (kz := 1) rfl hO2 hb4 ?_
    refine r_iload x_62_71 rfl ?_
    refine r_invS x_62_73 (z := 108) (ns := 1) (by decide +kernel) (as := [.ref b3, g_n v8]) (r := []) rfl rfl rfl ?_
    refine r_callI h fun r8 M5 hx6 hok7 hr9 h => ?_
    replace h := h hx6 hok7 hr9
    replace hO2 := hO2.up hx6
    refine r_if_eq x_62_76 (t := 143) (by decide +kernel) hr9 (fun hc => ?_) (fun hc => ?_)
    · replace h := h.1 hc
      obtain ⟨h10, h⟩ := h
      refine r_iinc x_62_143 (by decide +kernel) rfl rfl (lv1 := [(0, .ref a0), (1, g_n v1), (2, g_n v2), (3, g_n v3), (4, g_n v4), (5, g_n v5), (6, g_n (v6 + 1)), (7, g_n v7), (8, g_n v8), (9, g_n v9)]) rfl ?_
      refine r_goto x_62_146 (t := 13) (by decide +kernel) ?_
      refine g_drop [0, 1, 2, 3, 4, 5, 6] (lv1 := [(0, .ref a0), (1, g_n v1), (2, g_n v2), (3, g_n v3), (4, g_n v4), (5, g_n v5), (6, g_n (v6 + 1))]) rfl ?_
      exact h
    · replace h := h.2 hc
      refine r_iload x_62_79 rfl ?_
      refine r_if_eq x_62_81 (t := 99) (by decide +kernel) hv5 (fun hc => ?_) (fun hc => ?_)
      · replace h := h.1 hc
        refine r_aload_n x_62_99 rfl ?_
        obtain ⟨b11, hb12, h⟩ := h
        refine r_getR x_62_100 rfl (ci := 2) (k := 1) (ns := 0) (by decide +kernel) (by decide) rfl (kz := 1) rfl hO2 hb12 ?_
        refine r_iload x_62_103 rfl ?_
        refine r_invS x_62_105 (z := 108) (ns := 1) (by decide +kernel) (as := [.ref b11, g_n v8]) (r := []) rfl rfl rfl ?_
        refine r_callI h fun r16 M13 hx14 hok15 hr17 h => ?_
        replace h := h hx14 hok15 hr17
        replace hO2 := hO2.up hx14
        refine r_iconst x_62_108 ?_
        refine r_ic_ne x_62_109 (t := 126) (by decide +kernel) hr17 (g_Rk rfl) (fun hc => ?_) (fun hc => ?_)
        · replace h := h.2 hc
          refine r_aload_n x_62_126 rfl ?_
          obtain ⟨b18, hb19, h⟩ := h
          refine r_getR x_62_127 rfl (ci := 2) (k := 1) (ns := 0) (by decide +kernel) (by decide) rfl (kz := 1) rfl hO2 hb19 ?_
          refine r_iload x_62_130 rfl ?_
          refine r_invS x_62_132 (z := 111) (ns := 1) (by decide +kernel) (as := [.ref b18, g_n v8]) (r := []) rfl rfl rfl ?_
          refine r_callI h fun r23 M20 hx21 hok22 hr24 h => ?_
          replace h := h hx21 hok22 hr24
          replace hO2 := hO2.up hx21
          refine r_istore x_62_135 (by decide +kernel) rfl (lv1 := [(0, .ref a0), (1, g_n v1), (2, g_n v2), (3, g_n v3), (4, g_n v4), (5, g_n v5), (6, g_n v6), (7, g_n v7), (8, g_n r23), (9, g_n v9)]) rfl ?_
          obtain ⟨h25, h⟩ := h
          refine r_iinc x_62_137 (by decide +kernel) rfl rfl (lv1 := [(0, .ref a0), (1, g_n v1), (2, g_n v2), (3, g_n v3), (4, g_n v4), (5, g_n v5), (6, g_n v6), (7, g_n v7), (8, g_n r23), (9, g_n (v9 + 1))]) rfl ?_
          refine r_goto x_62_140 (t := 60) (by decide +kernel) ?_
          exact h
        · replace h := h.1 hc
          refine r_aload_n x_62_112 rfl ?_
          refine r_iload_n x_62_113 rfl ?_
          refine r_iload x_62_114 rfl ?_
          refine r_iload x_62_116 rfl ?_
          refine r_invV x_62_118 (z := 51) (ns := 0) (by decide +kernel) (as := [g_n v1, g_n v8, g_n v4]) (r := []) rfl rfl rfl hO2 rfl rfl ?_
          refine r_callI h fun r29 M26 hx27 hok28 hr30 h => ?_
          replace h := h hx27 hok28 hr30
          replace hO2 := hO2.up hx27
          refine r_if_eq x_62_121 (t := 126) (by decide +kernel) hr30 (fun hc => ?_) (fun hc => ?_)
          · replace h := h.1 hc
            refine r_aload_n x_62_126 rfl ?_
            obtain ⟨b31, hb32, h⟩ := h
            refine r_getR x_62_127 rfl (ci := 2) (k := 1) (ns := 0) (by decide +kernel) (by decide) rfl (kz := 1) rfl hO2 hb32 ?_
            refine r_iload x_62_130 rfl ?_
            refine r_invS x_62_132 (z := 111) (ns := 1) (by decide +kernel) (as := [.ref b31, g_n v8]) (r := []) rfl rfl rfl ?_
            refine r_callI h fun r36 M33 hx34 hok35 hr37 h => ?_
            replace h := h hx34 hok35 hr37
            replace hO2 := hO2.up hx34
            refine r_istore x_62_135 (by decide +kernel) rfl (lv1 := [(0, .ref a0), (1, g_n v1), (2, g_n v2), (3, g_n v3), (4, g_n v4), (5, g_n v5), (6, g_n v6), (7, g_n v7), (8, g_n r36), (9, g_n v9)]) rfl ?_
            obtain ⟨h38, h⟩ := h
            refine r_iinc x_62_137 (by decide +kernel) rfl rfl (lv1 := [(0, .ref a0), (1, g_n v1), (2, g_n v2), (3, g_n v3), (4, g_n v4), (5, g_n v5), (6, g_n v6), (7, g_n v7), (8, g_n r36), (9, g_n (v9 + 1))]) rfl ?_
            refine r_goto x_62_140 (t := 60) (by decide +kernel) ?_
            exact h
          · replace h := h.2 hc
            refine r_iconst x_62_124 ?_
            exact r_retZ x_62_125 rfl (Or.inr rfl) h
      · replace h := h.2 hc
        refine r_aload_n x_62_84 rfl ?_
        refine r_iload_n x_62_85 rfl ?_
        refine r_iload x_62_86 rfl ?_
        refine r_iload x_62_88 rfl ?_
        refine r_invV x_62_90 (z := 63) (ns := 0) (by decide +kernel) (as := [g_n v1, g_n v8, g_n v4]) (r := []) rfl rfl rfl hO2 rfl rfl ?_
        refine r_callI h fun r42 M39 hx40 hok41 hr43 h => ?_
        replace h := h hx40 hok41 hr43
        replace hO2 := hO2.up hx40
        refine r_if_eq x_62_93 (t := 126) (by decide +kernel) hr43 (fun hc => ?_) (fun hc => ?_)
        · replace h := h.1 hc
          refine r_aload_n x_62_126 rfl ?_
          obtain ⟨b44, hb45, h⟩ := h
          refine r_getR x_62_127 rfl (ci := 2) (k := 1) (ns := 0) (by decide +kernel) (by decide) rfl (kz := 1) rfl hO2 hb45 ?_
          refine r_iload x_62_130 rfl ?_
          refine r_invS x_62_132 (z := 111) (ns := 1) (by decide +kernel) (as := [.ref b44, g_n v8]) (r := []) rfl rfl rfl ?_
          refine r_callI h fun r49 M46 hx47 hok48 hr50 h => ?_
          replace h := h hx47 hok48 hr50
          replace hO2 := hO2.up hx47
          refine r_istore x_62_135 (by decide +kernel) rfl (lv1 := [(0, .ref a0), (1, g_n v1), (2, g_n v2), (3, g_n v3), (4, g_n v4), (5, g_n v5), (6, g_n v6), (7, g_n v7), (8, g_n r49), (9, g_n v9)]) rfl ?_
          obtain ⟨h51, h⟩ := h
          refine r_iinc x_62_137 (by decide +kernel) rfl rfl (lv1 := [(0, .ref a0), (1, g_n v1), (2, g_n v2), (3, g_n v3), (4, g_n v4), (5, g_n v5), (6, g_n v6), (7, g_n v7), (8, g_n r49), (9, g_n (v9 + 1))]) rfl ?_
          refine r_goto x_62_140 (t := 60) (by decide +kernel) ?_
          exact h
        · replace h := h.2 hc
          refine r_goto x_62_96 (t := 124) (by decide +kernel) ?_
          refine r_iconst x_62_124 ?_
          exact r_retZ x_62_125 rfl (Or.inr rfl) h
theorem m_X2_conditionsHoldForItem {d : Nat} {M : g_M} {Q : Int → g_M → Prop} {a0 : Nat} {v1 : Int} (hv1 : g_InR v1) {v2 : Int} (hv2 : g_InR v2) {v3 : Int} (hv3 : g_InR v3) (h : g_ok M → g_O M a0 2 ∧ ∃ b2, g_r M a0 0 = some b2 ∧ g_O M b2 7 ∧ ∃ b5, g_r M a0 0 = some b5 ∧ g_O M b5 7 ∧ g_Call d 104 [.ref b5, g_n v2] M (g_qV fun M8 => g_ext M M8 → g_ok M8 → g_InR ((g_i M b2 2) + 1) ∧ g_Call d 54 [.ref a0, g_n v1, g_n (g_i M b2 2), g_n ((g_i M b2 2) + 1), g_n v3] M8 (g_qI fun r15 M12 => g_ext M8 M12 → g_ok M12 → g_InR r15 → ∃ b17, g_r M12 a0 0 = some b17 ∧ g_O M12 b17 7 ∧ (∀ M20, M20 = g_wi M12 b17 2 (g_i M b2 2) → g_ok M20 → (r15 = 0 ∨ r15 = 1) ∧ Q r15 M20)))) : g_Call (d + 1) 63 [.ref a0, g_n v1, g_n v2, g_n v3] M (g_qI Q) := by
  refine g_Call.ok fun hok0 => ?_
  replace h := h hok0
  refine r_body rfl (lv := [(0, .ref a0), (1, g_n v1), (2, g_n v2), (3, g_n v3)]) rfl ?_
  refine g_Run.ok fun hok => ?_
  refine r_aload_n x_63_0 rfl ?_
  obtain ⟨hO1, h⟩ := h
  obtain ⟨b2, hb3, h⟩ := h
  refine r_getR x_63_1 rfl (ci := 2) (k := 0) (ns := 0) (by decide +kernel) (by decide) rfl (kz := 0) rfl hO1 hb3 ?_
  obtain ⟨hO4, h⟩ := h
  refine r_getI x_63_4 rfl (ci := 7) (k := 2) (ns := 1) (by decide +kernel) (by decide) rfl (kz := 2) rfl hO4 ?_
  refine r_istore x_63_7 (by decide +kernel) rfl (lv1 := [(0, .ref a0), (1, g_n v1), (2, g_n v2), (3, g_n v3), (4, g_n (g_i M b2 2))]) rfl ?_
  refine r_aload_n x_63_9 rfl ?_
  obtain ⟨b5, hb6, h⟩ := h
  refine r_getR x_63_10 rfl (ci := 2) (k := 0) (ns := 0) (by decide +kernel) (by decide) rfl (kz := 0) rfl hO1 hb6 ?_
  refine r_iload_n x_63_13 rfl ?_
  obtain ⟨hO7, h⟩ := h
  refine r_invV x_63_14 (z := 104) (ns := 1) (by decide +kernel) (as := [g_n v2]) (r := []) rfl rfl rfl hO7 rfl rfl ?_
  refine r_callV h fun M8 hx9 hok10 h => ?_
  replace h := h hx9 hok10
  replace hO1 := hO1.up hx9
  replace hO4 := hO4.up hx9
  replace hO7 := hO7.up hx9
  refine r_aload_n x_63_17 rfl ?_
  refine r_iload_n x_63_18 rfl ?_
  refine r_iload x_63_19 rfl ?_
  refine r_iload x_63_21 rfl ?_
  refine r_iconst x_63_23 ?_
  refine r_iadd x_63_24 ?_
  obtain ⟨h11, h⟩ := h
  refine r_iload_n x_63_25 rfl ?_
  refine r_invV x_63_26 (z := 54) (ns := 0) (by decide +kernel) (as := [g_n v1, g_n (g_i M b2 2), g_n ((g_i M b2 2) + 1), g_n v3]) (r := []) rfl rfl rfl hO1 rfl rfl ?_
  refine r_callI h fun r15 M12 hx13 hok14 hr16 h => ?_
  replace h := h hx13 hok14 hr16
  replace hO1 := hO1.up hx13
  replace hO4 := hO4.up hx13
  replace hO7 := hO7.up hx13
  refine r_istore x_63_29 (by decide +kernel) rfl (lv1 := [(0, .ref a0), (1, g_n v1), (2, g_n v2), (3, g_n v3), (4, g_n (g_i M b2 2)), (5, g_n r15)]) rfl ?_
  refine r_aload_n x_63_31 rfl ?_
  obtain ⟨b17, hb18, h⟩ := h
  refine r_getR x_63_32 rfl (ci := 2) (k := 0) (ns := 0) (by decide +kernel) (by decide) rfl (kz := 0) rfl hO1 hb18 ?_
  refine r_iload x_63_35 rfl ?_
  obtain ⟨hO19, h⟩ := h
  refine r_putI x_63_37 (ci := 7) (k := 2) (ns := 1) (by decide +kernel) (by decide) (g_f0 (by decide +kernel)) rfl (hok.1 _ _) trivial (kz := 2) rfl hO19 ?_
  obtain ⟨M20, hM21⟩ : ∃ Mz, Mz = g_wi M12 b17 2 (g_i M b2 2) := ⟨_, rfl⟩
  rw [← hM21]
  refine g_Run.ok fun hok22 => ?_
  replace h := h M20 hM21 hok22
  have hx23 := g_extW hM21
  replace hO1 := hO1.up hx23
  replace hO4 := hO4.up hx23
  replace hO7 := hO7.up hx23
  replace hO19 := hO19.up hx23
  refine r_iload x_63_40 rfl ?_
  obtain ⟨hz, h⟩ := h
  exact r_retZ x_63_42 rfl hz h
