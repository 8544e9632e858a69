theorem x_18_0 : decode (q_code 18) 0 = .ok (.aload_n 0, 1) := by decide +kernel
theorem x_18_1 : decode (q_code 18) 1 = .ok (.iload_n 1, 1) := by decide +kernel
theorem x_18_2 : decode (q_code 18) 2 = .ok (.ldc 36, 2) := by decide +kernel
theorem x_18_4 : decode (q_code 18) 4 = .ok (.invokestatic 38, 3) := by decide +kernel
theorem x_18_7 : decode (q_code 18) 7 = .ok (.ifCond .eq 7, 3) := by decide +kernel
theorem x_18_10 : decode (q_code 18) 10 = .ok (.iconst 1, 1) := by decide +kernel
theorem x_18_11 : decode (q_code 18) 11 = .ok (.goto 75, 3) := by decide +kernel
theorem x_18_14 : decode (q_code 18) 14 = .ok (.aload_n 0, 1) := by decide +kernel
theorem x_18_15 : decode (q_code 18) 15 = .ok (.iload_n 1, 1) := by decide +kernel
theorem x_18_16 : decode (q_code 18) 16 = .ok (.ldc 44, 2) := by decide +kernel
theorem x_18_18 : decode (q_code 18) 18 = .ok (.invokestatic 38, 3) := by decide +kernel
theorem x_18_21 : decode (q_code 18) 21 = .ok (.ifCond .eq 7, 3) := by decide +kernel
theorem x_18_24 : decode (q_code 18) 24 = .ok (.iconst 2, 1) := by decide +kernel
theorem x_18_25 : decode (q_code 18) 25 = .ok (.goto 61, 3) := by decide +kernel
theorem x_18_28 : decode (q_code 18) 28 = .ok (.aload_n 0, 1) := by decide +kernel
theorem x_18_29 : decode (q_code 18) 29 = .ok (.iload_n 1, 1) := by decide +kernel
theorem x_18_30 : decode (q_code 18) 30 = .ok (.ldc 46, 2) := by decide +kernel
theorem x_18_32 : decode (q_code 18) 32 = .ok (.invokestatic 38, 3) := by decide +kernel
theorem x_18_35 : decode (q_code 18) 35 = .ok (.ifCond .eq 7, 3) := by decide +kernel
theorem x_18_38 : decode (q_code 18) 38 = .ok (.iconst 3, 1) := by decide +kernel
theorem x_18_39 : decode (q_code 18) 39 = .ok (.goto 47, 3) := by decide +kernel
theorem x_18_42 : decode (q_code 18) 42 = .ok (.aload_n 0, 1) := by decide +kernel
theorem x_18_43 : decode (q_code 18) 43 = .ok (.iload_n 1, 1) := by decide +kernel
theorem x_18_44 : decode (q_code 18) 44 = .ok (.ldc 48, 2) := by decide +kernel
theorem x_18_46 : decode (q_code 18) 46 = .ok (.invokestatic 38, 3) := by decide +kernel
theorem x_18_49 : decode (q_code 18) 49 = .ok (.ifCond .eq 7, 3) := by decide +kernel
theorem x_18_52 : decode (q_code 18) 52 = .ok (.iconst 4, 1) := by decide +kernel
theorem x_18_53 : decode (q_code 18) 53 = .ok (.goto 33, 3) := by decide +kernel
theorem x_18_56 : decode (q_code 18) 56 = .ok (.aload_n 0, 1) := by decide +kernel
theorem x_18_57 : decode (q_code 18) 57 = .ok (.iload_n 1, 1) := by decide +kernel
theorem x_18_58 : decode (q_code 18) 58 = .ok (.ldc 50, 2) := by decide +kernel
theorem x_18_60 : decode (q_code 18) 60 = .ok (.invokestatic 38, 3) := by decide +kernel
theorem x_18_63 : decode (q_code 18) 63 = .ok (.ifCond .eq 7, 3) := by decide +kernel
theorem x_18_66 : decode (q_code 18) 66 = .ok (.iconst 5, 1) := by decide +kernel
theorem x_18_67 : decode (q_code 18) 67 = .ok (.goto 19, 3) := by decide +kernel
theorem x_18_70 : decode (q_code 18) 70 = .ok (.aload_n 0, 1) := by decide +kernel
theorem x_18_71 : decode (q_code 18) 71 = .ok (.iload_n 1, 1) := by decide +kernel
theorem x_18_72 : decode (q_code 18) 72 = .ok (.ldc 52, 2) := by decide +kernel
theorem x_18_74 : decode (q_code 18) 74 = .ok (.invokestatic 38, 3) := by decide +kernel
theorem x_18_77 : decode (q_code 18) 77 = .ok (.ifCond .eq 8, 3) := by decide +kernel
theorem x_18_80 : decode (q_code 18) 80 = .ok (.bipush 6, 2) := by decide +kernel
theorem x_18_82 : decode (q_code 18) 82 = .ok (.goto 4, 3) := by decide +kernel
theorem x_18_85 : decode (q_code 18) 85 = .ok (.iconst 0, 1) := by decide +kernel
theorem x_18_86 : decode (q_code 18) 86 = .ok (.ireturn, 1) := by decide +kernel
theorem x_19_0 : decode (q_code 19) 0 = .ok (.aload_n 0, 1) := by decide +kernel
theorem x_19_1 : decode (q_code 19) 1 = .ok (.iload_n 1, 1) := by decide +kernel
theorem x_19_2 : decode (q_code 19) 2 = .ok (.putfield 54, 3) := by decide +kernel
theorem x_19_5 : decode (q_code 19) 5 = .ok (.aload_n 0, 1) := by decide +kernel
theorem x_19_6 : decode (q_code 19) 6 = .ok (.iload_n 2, 1) := by decide +kernel
theorem x_19_7 : decode (q_code 19) 7 = .ok (.putfield 58, 3) := by decide +kernel
theorem x_19_10 : decode (q_code 19) 10 = .ok (.iconst 0, 1) := by decide +kernel
theorem x_19_11 : decode (q_code 19) 11 = .ok (.ireturn, 1) := by decide +kernel
theorem x_20_0 : decode (q_code 20) 0 = .ok (.aload_n 0, 1) := by decide +kernel
theorem x_20_1 : decode (q_code 20) 1 = .ok (.getfield 9, 3) := by decide +kernel
theorem x_20_4 : decode (q_code 20) 4 = .ok (.iload_n 1, 1) := by decide +kernel
theorem x_20_5 : decode (q_code 20) 5 = .ok (.invokestatic 61, 3) := by decide +kernel
theorem x_20_8 : decode (q_code 20) 8 = .ok (.istore_n 2, 1) := by decide +kernel
theorem x_20_9 : decode (q_code 20) 9 = .ok (.iconst 0, 1) := by decide +kernel
theorem x_20_10 : decode (q_code 20) 10 = .ok (.istore_n 3, 1) := by decide +kernel
theorem x_20_11 : decode (q_code 20) 11 = .ok (.iload_n 3, 1) := by decide +kernel
theorem x_20_12 : decode (q_code 20) 12 = .ok (.sipush 2000, 3) := by decide +kernel
theorem x_20_15 : decode (q_code 20) 15 = .ok (.if_icmp .ge 188, 3) := by decide +kernel
theorem x_20_18 : decode (q_code 20) 18 = .ok (.aload_n 0, 1) := by decide +kernel
theorem x_20_19 : decode (q_code 20) 19 = .ok (.getfield 9, 3) := by decide +kernel
theorem x_20_22 : decode (q_code 20) 22 = .ok (.iload_n 2, 1) := by decide +kernel
theorem x_20_23 : decode (q_code 20) 23 = .ok (.invokestatic 65, 3) := by decide +kernel
theorem x_20_26 : decode (q_code 20) 26 = .ok (.ifCond .eq 177, 3) := by decide +kernel
theorem x_20_29 : decode (q_code 20) 29 = .ok (.aload_n 0, 1) := by decide +kernel
theorem x_20_30 : decode (q_code 20) 30 = .ok (.getfield 9, 3) := by decide +kernel
theorem x_20_33 : decode (q_code 20) 33 = .ok (.iload_n 2, 1) := by decide +kernel
theorem x_20_34 : decode (q_code 20) 34 = .ok (.invokestatic 68, 3) := by decide +kernel
theorem x_20_37 : decode (q_code 20) 37 = .ok (.istore 4, 2) := by decide +kernel
theorem x_20_39 : decode (q_code 20) 39 = .ok (.iload 4, 2) := by decide +kernel
theorem x_20_41 : decode (q_code 20) 41 = .ok (.ifCond .ne 10, 3) := by decide +kernel
theorem x_20_44 : decode (q_code 20) 44 = .ok (.aload_n 0, 1) := by decide +kernel
theorem x_20_45 : decode (q_code 20) 45 = .ok (.iconst 1, 1) := by decide +kernel
theorem x_20_46 : decode (q_code 20) 46 = .ok (.iload_n 2, 1) := by decide +kernel
theorem x_20_47 : decode (q_code 20) 47 = .ok (.invokevirtual 71, 3) := by decide +kernel
theorem x_20_50 : decode (q_code 20) 50 = .ok (.ireturn, 1) := by decide +kernel
theorem x_20_51 : decode (q_code 20) 51 = .ok (.aload_n 0, 1) := by decide +kernel
theorem x_20_52 : decode (q_code 20) 52 = .ok (.getfield 9, 3) := by decide +kernel
theorem x_20_55 : decode (q_code 20) 55 = .ok (.iload_n 2, 1) := by decide +kernel
theorem x_20_56 : decode (q_code 20) 56 = .ok (.invokestatic 65, 3) := by decide +kernel
theorem x_20_59 : decode (q_code 20) 59 = .ok (.iconst 3, 1) := by decide +kernel
theorem x_20_60 : decode (q_code 20) 60 = .ok (.if_icmp .eq 10, 3) := by decide +kernel
theorem x_20_63 : decode (q_code 20) 63 = .ok (.aload_n 0, 1) := by decide +kernel
theorem x_20_64 : decode (q_code 20) 64 = .ok (.iconst 2, 1) := by decide +kernel
theorem x_20_65 : decode (q_code 20) 65 = .ok (.iload_n 2, 1) := by decide +kernel
theorem x_20_66 : decode (q_code 20) 66 = .ok (.invokevirtual 71, 3) := by decide +kernel
theorem x_20_69 : decode (q_code 20) 69 = .ok (.ireturn, 1) := by decide +kernel
theorem x_20_70 : decode (q_code 20) 70 = .ok (.aload_n 0, 1) := by decide +kernel
theorem x_20_71 : decode (q_code 20) 71 = .ok (.getfield 9, 3) := by decide +kernel
theorem x_20_74 : decode (q_code 20) 74 = .ok (.iload_n 2, 1) := by decide +kernel
theorem x_20_75 : decode (q_code 20) 75 = .ok (.invokestatic 61, 3) := by decide +kernel
theorem x_20_78 : decode (q_code 20) 78 = .ok (.istore 5, 2) := by decide +kernel
theorem x_20_80 : decode (q_code 20) 80 = .ok (.iconst 0, 1) := by decide +kernel
theorem x_20_81 : decode (q_code 20) 81 = .ok (.istore 6, 2) := by decide +kernel
theorem x_20_83 : decode (q_code 20) 83 = .ok (.iload 6, 2) := by decide +kernel
theorem x_20_85 : decode (q_code 20) 85 = .ok (.sipush 2000, 3) := by decide +kernel
theorem x_20_88 : decode (q_code 20) 88 = .ok (.if_icmp .ge 100, 3) := by decide +kernel
theorem x_20_91 : decode (q_code 20) 91 = .ok (.aload_n 0, 1) := by decide +kernel
theorem x_20_92 : decode (q_code 20) 92 = .ok (.getfield 9, 3) := by decide +kernel
theorem x_20_95 : decode (q_code 20) 95 = .ok (.iload 5, 2) := by decide +kernel
theorem x_20_97 : decode (q_code 20) 97 = .ok (.invokestatic 65, 3) := by decide +kernel
theorem x_20_100 : decode (q_code 20) 100 = .ok (.ifCond .eq 88, 3) := by decide +kernel
theorem x_20_103 : decode (q_code 20) 103 = .ok (.aload_n 0, 1) := by decide +kernel
theorem x_20_104 : decode (q_code 20) 104 = .ok (.getfield 18, 3) := by decide +kernel
theorem x_20_107 : decode (q_code 20) 107 = .ok (.aload_n 0, 1) := by decide +kernel
theorem x_20_108 : decode (q_code 20) 108 = .ok (.getfield 9, 3) := by decide +kernel
theorem x_20_111 : decode (q_code 20) 111 = .ok (.iload 5, 2) := by decide +kernel
theorem x_20_113 : decode (q_code 20) 113 = .ok (.invokevirtual 75, 3) := by decide +kernel
theorem x_20_116 : decode (q_code 20) 116 = .ok (.ifCond .ne 11, 3) := by decide +kernel
theorem x_20_119 : decode (q_code 20) 119 = .ok (.aload_n 0, 1) := by decide +kernel
theorem x_20_120 : decode (q_code 20) 120 = .ok (.iconst 3, 1) := by decide +kernel
theorem x_20_121 : decode (q_code 20) 121 = .ok (.iload 5, 2) := by decide +kernel
theorem x_20_123 : decode (q_code 20) 123 = .ok (.invokevirtual 71, 3) := by decide +kernel
theorem x_20_126 : decode (q_code 20) 126 = .ok (.ireturn, 1) := by decide +kernel
theorem x_20_127 : decode (q_code 20) 127 = .ok (.iload 4, 2) := by decide +kernel
theorem x_20_129 : decode (q_code 20) 129 = .ok (.iconst 3, 1) := by decide +kernel
theorem x_20_130 : decode (q_code 20) 130 = .ok (.if_icmp .ne 23, 3) := by decide +kernel
theorem x_20_133 : decode (q_code 20) 133 = .ok (.aload_n 0, 1) := by decide +kernel
theorem x_20_134 : decode (q_code 20) 134 = .ok (.getfield 9, 3) := by decide +kernel
theorem x_20_137 : decode (q_code 20) 137 = .ok (.iload 5, 2) := by decide +kernel
theorem x_20_139 : decode (q_code 20) 139 = .ok (.invokestatic 79, 3) := by decide +kernel
theorem x_20_142 : decode (q_code 20) 142 = .ok (.ifCond .ne 11, 3) := by decide +kernel
theorem x_20_145 : decode (q_code 20) 145 = .ok (.aload_n 0, 1) := by decide +kernel
theorem x_20_146 : decode (q_code 20) 146 = .ok (.iconst 4, 1) := by decide +kernel
theorem x_20_147 : decode (q_code 20) 147 = .ok (.iload 5, 2) := by decide +kernel
theorem x_20_149 : decode (q_code 20) 149 = .ok (.invokevirtual 71, 3) := by decide +kernel
theorem x_20_152 : decode (q_code 20) 152 = .ok (.ireturn, 1) := by decide +kernel
theorem x_20_153 : decode (q_code 20) 153 = .ok (.aload_n 0, 1) := by decide +kernel
theorem x_20_154 : decode (q_code 20) 154 = .ok (.iload_n 1, 1) := by decide +kernel
theorem x_20_155 : decode (q_code 20) 155 = .ok (.iload 5, 2) := by decide +kernel
theorem x_20_157 : decode (q_code 20) 157 = .ok (.invokevirtual 82, 3) := by decide +kernel
theorem x_20_160 : decode (q_code 20) 160 = .ok (.ifCond .eq 11, 3) := by decide +kernel
theorem x_20_163 : decode (q_code 20) 163 = .ok (.aload_n 0, 1) := by decide +kernel
theorem x_20_164 : decode (q_code 20) 164 = .ok (.iconst 5, 1) := by decide +kernel
theorem x_20_165 : decode (q_code 20) 165 = .ok (.iload 5, 2) := by decide +kernel
theorem x_20_167 : decode (q_code 20) 167 = .ok (.invokevirtual 71, 3) := by decide +kernel
theorem x_20_170 : decode (q_code 20) 170 = .ok (.ireturn, 1) := by decide +kernel
theorem x_20_171 : decode (q_code 20) 171 = .ok (.aload_n 0, 1) := by decide +kernel
theorem x_20_172 : decode (q_code 20) 172 = .ok (.getfield 9, 3) := by decide +kernel
theorem x_20_175 : decode (q_code 20) 175 = .ok (.iload 5, 2) := by decide +kernel
theorem x_20_177 : decode (q_code 20) 177 = .ok (.invokestatic 85, 3) := by decide +kernel
theorem x_20_180 : decode (q_code 20) 180 = .ok (.istore 5, 2) := by decide +kernel
theorem x_20_182 : decode (q_code 20) 182 = .ok (.iinc 6 1, 3) := by decide +kernel
theorem x_20_185 : decode (q_code 20) 185 = .ok (.goto (-102), 3) := by decide +kernel
theorem x_20_188 : decode (q_code 20) 188 = .ok (.aload_n 0, 1) := by decide +kernel
theorem x_20_189 : decode (q_code 20) 189 = .ok (.getfield 9, 3) := by decide +kernel
theorem x_20_192 : decode (q_code 20) 192 = .ok (.iload_n 2, 1) := by decide +kernel
theorem x_20_193 : decode (q_code 20) 193 = .ok (.invokestatic 85, 3) := by decide +kernel
theorem x_20_196 : decode (q_code 20) 196 = .ok (.istore_n 2, 1) := by decide +kernel
theorem x_20_197 : decode (q_code 20) 197 = .ok (.iinc 3 1, 3) := by decide +kernel
theorem x_20_200 : decode (q_code 20) 200 = .ok (.goto (-189), 3) := by decide +kernel
theorem x_20_203 : decode (q_code 20) 203 = .ok (.iconst 1, 1) := by decide +kernel
theorem x_20_204 : decode (q_code 20) 204 = .ok (.ireturn, 1) := by decide +kernel
theorem x_21_0 : decode (q_code 21) 0 = .ok (.aload_n 0, 1) := by decide +kernel
theorem x_21_1 : decode (q_code 21) 1 = .ok (.getfield 9, 3) := by decide +kernel
theorem x_21_4 : decode (q_code 21) 4 = .ok (.iload_n 1, 1) := by decide +kernel
theorem x_21_5 : decode (q_code 21) 5 = .ok (.invokestatic 61, 3) := by decide +kernel
theorem x_21_8 : decode (q_code 21) 8 = .ok (.istore_n 3, 1) := by decide +kernel
theorem x_21_9 : decode (q_code 21) 9 = .ok (.iconst 0, 1) := by decide +kernel
theorem x_21_10 : decode (q_code 21) 10 = .ok (.istore 4, 2) := by decide +kernel
theorem x_21_12 : decode (q_code 21) 12 = .ok (.iload 4, 2) := by decide +kernel
theorem x_21_14 : decode (q_code 21) 14 = .ok (.sipush 2000, 3) := by decide +kernel
theorem x_21_17 : decode (q_code 21) 17 = .ok (.if_icmp .ge 102, 3) := by decide +kernel
theorem x_21_20 : decode (q_code 21) 20 = .ok (.aload_n 0, 1) := by decide +kernel
theorem x_21_21 : decode (q_code 21) 21 = .ok (.getfield 9, 3) := by decide +kernel
theorem x_21_24 : decode (q_code 21) 24 = .ok (.iload_n 3, 1) := by decide +kernel
theorem x_21_25 : decode (q_code 21) 25 = .ok (.invokestatic 65, 3) := by decide +kernel
theorem x_21_28 : decode (q_code 21) 28 = .ok (.ifCond .eq 91, 3) := by decide +kernel
theorem x_21_31 : decode (q_code 21) 31 = .ok (.iload_n 3, 1) := by decide +kernel
theorem x_21_32 : decode (q_code 21) 32 = .ok (.iload_n 2, 1) := by decide +kernel
theorem x_21_33 : decode (q_code 21) 33 = .ok (.if_icmp .ge 86, 3) := by decide +kernel
theorem x_21_36 : decode (q_code 21) 36 = .ok (.aload_n 0, 1) := by decide +kernel
theorem x_21_37 : decode (q_code 21) 37 = .ok (.getfield 9, 3) := by decide +kernel
theorem x_21_40 : decode (q_code 21) 40 = .ok (.iload_n 3, 1) := by decide +kernel
theorem x_21_41 : decode (q_code 21) 41 = .ok (.invokestatic 61, 3) := by decide +kernel
theorem x_21_44 : decode (q_code 21) 44 = .ok (.istore 5, 2) := by decide +kernel
theorem x_21_46 : decode (q_code 21) 46 = .ok (.iconst 0, 1) := by decide +kernel
theorem x_21_47 : decode (q_code 21) 47 = .ok (.istore 6, 2) := by decide +kernel
theorem x_21_49 : decode (q_code 21) 49 = .ok (.iload 6, 2) := by decide +kernel
theorem x_21_51 : decode (q_code 21) 51 = .ok (.sipush 2000, 3) := by decide +kernel
theorem x_21_54 : decode (q_code 21) 54 = .ok (.if_icmp .ge 50, 3) := by decide +kernel
theorem x_21_57 : decode (q_code 21) 57 = .ok (.aload_n 0, 1) := by decide +kernel
theorem x_21_58 : decode (q_code 21) 58 = .ok (.getfield 9, 3) := by decide +kernel
theorem x_21_61 : decode (q_code 21) 61 = .ok (.iload 5, 2) := by decide +kernel
theorem x_21_63 : decode (q_code 21) 63 = .ok (.invokestatic 65, 3) := by decide +kernel
theorem x_21_66 : decode (q_code 21) 66 = .ok (.ifCond .eq 38, 3) := by decide +kernel
theorem x_21_69 : decode (q_code 21) 69 = .ok (.iload 5, 2) := by decide +kernel
theorem x_21_71 : decode (q_code 21) 71 = .ok (.iload_n 2, 1) := by decide +kernel
theorem x_21_72 : decode (q_code 21) 72 = .ok (.if_icmp .ge 32, 3) := by decide +kernel
theorem x_21_75 : decode (q_code 21) 75 = .ok (.aload_n 0, 1) := by decide +kernel
theorem x_21_76 : decode (q_code 21) 76 = .ok (.iload 5, 2) := by decide +kernel
theorem x_21_78 : decode (q_code 21) 78 = .ok (.iload_n 2, 1) := by decide +kernel
theorem x_21_79 : decode (q_code 21) 79 = .ok (.invokevirtual 88, 3) := by decide +kernel
theorem x_21_82 : decode (q_code 21) 82 = .ok (.ifCond .eq 5, 3) := by decide +kernel
theorem x_21_85 : decode (q_code 21) 85 = .ok (.iconst 1, 1) := by decide +kernel
theorem x_21_86 : decode (q_code 21) 86 = .ok (.ireturn, 1) := by decide +kernel
theorem x_21_87 : decode (q_code 21) 87 = .ok (.aload_n 0, 1) := by decide +kernel
theorem x_21_88 : decode (q_code 21) 88 = .ok (.getfield 9, 3) := by decide +kernel
theorem x_21_91 : decode (q_code 21) 91 = .ok (.iload 5, 2) := by decide +kernel
theorem x_21_93 : decode (q_code 21) 93 = .ok (.invokestatic 85, 3) := by decide +kernel
theorem x_21_96 : decode (q_code 21) 96 = .ok (.istore 5, 2) := by decide +kernel
theorem x_21_98 : decode (q_code 21) 98 = .ok (.iinc 6 1, 3) := by decide +kernel
theorem x_21_101 : decode (q_code 21) 101 = .ok (.goto (-52), 3) := by decide +kernel
theorem x_21_104 : decode (q_code 21) 104 = .ok (.aload_n 0, 1) := by decide +kernel
theorem x_21_105 : decode (q_code 21) 105 = .ok (.getfield 9, 3) := by decide +kernel
theorem x_21_108 : decode (q_code 21) 108 = .ok (.iload_n 3, 1) := by decide +kernel
theorem x_21_109 : decode (q_code 21) 109 = .ok (.invokestatic 85, 3) := by decide +kernel
theorem x_21_112 : decode (q_code 21) 112 = .ok (.istore_n 3, 1) := by decide +kernel
theorem x_21_113 : decode (q_code 21) 113 = .ok (.iinc 4 1, 3) := by decide +kernel
theorem x_21_116 : decode (q_code 21) 116 = .ok (.goto (-104), 3) := by decide +kernel
theorem x_21_119 : decode (q_code 21) 119 = .ok (.iconst 0, 1) := by decide +kernel
theorem x_21_120 : decode (q_code 21) 120 = .ok (.ireturn, 1) := by decide +kernel
theorem x_22_0 : decode (q_code 22) 0 = .ok (.aload_n 0, 1) := by decide +kernel
theorem x_22_1 : decode (q_code 22) 1 = .ok (.getfield 9, 3) := by decide +kernel
theorem x_22_4 : decode (q_code 22) 4 = .ok (.iload_n 1, 1) := by decide +kernel
theorem x_22_5 : decode (q_code 22) 5 = .ok (.invokestatic 91, 3) := by decide +kernel
theorem x_22_8 : decode (q_code 22) 8 = .ok (.iconst 1, 1) := by decide +kernel
theorem x_22_9 : decode (q_code 22) 9 = .ok (.isub, 1) := by decide +kernel
theorem x_22_10 : decode (q_code 22) 10 = .ok (.iload_n 1, 1) := by decide +kernel
theorem x_22_11 : decode (q_code 22) 11 = .ok (.iconst 1, 1) := by decide +kernel
theorem x_22_12 : decode (q_code 22) 12 = .ok (.iadd, 1) := by decide +kernel
theorem x_22_13 : decode (q_code 22) 13 = .ok (.isub, 1) := by decide +kernel
theorem x_22_14 : decode (q_code 22) 14 = .ok (.istore_n 3, 1) := by decide +kernel
theorem x_22_15 : decode (q_code 22) 15 = .ok (.aload_n 0, 1) := by decide +kernel
theorem x_22_16 : decode (q_code 22) 16 = .ok (.getfield 9, 3) := by decide +kernel
theorem x_22_19 : decode (q_code 22) 19 = .ok (.iload_n 2, 1) := by decide +kernel
theorem x_22_20 : decode (q_code 22) 20 = .ok (.invokestatic 91, 3) := by decide +kernel
theorem x_22_23 : decode (q_code 22) 23 = .ok (.iconst 1, 1) := by decide +kernel
theorem x_22_24 : decode (q_code 22) 24 = .ok (.isub, 1) := by decide +kernel
theorem x_22_25 : decode (q_code 22) 25 = .ok (.iload_n 2, 1) := by decide +kernel
theorem x_22_26 : decode (q_code 22) 26 = .ok (.iconst 1, 1) := by decide +kernel
theorem x_22_27 : decode (q_code 22) 27 = .ok (.iadd, 1) := by decide +kernel
theorem x_22_28 : decode (q_code 22) 28 = .ok (.isub, 1) := by decide +kernel
theorem x_22_29 : decode (q_code 22) 29 = .ok (.istore 4, 2) := by decide +kernel
theorem x_22_31 : decode (q_code 22) 31 = .ok (.iload_n 3, 1) := by decide +kernel
theorem x_22_32 : decode (q_code 22) 32 = .ok (.iload 4, 2) := by decide +kernel
theorem x_22_34 : decode (q_code 22) 34 = .ok (.invokestatic 94, 3) := by decide +kernel
theorem x_22_37 : decode (q_code 22) 37 = .ok (.istore 5, 2) := by decide +kernel
theorem x_22_39 : decode (q_code 22) 39 = .ok (.aload_n 0, 1) := by decide +kernel
theorem x_22_40 : decode (q_code 22) 40 = .ok (.getfield 9, 3) := by decide +kernel
theorem x_22_43 : decode (q_code 22) 43 = .ok (.iload_n 1, 1) := by decide +kernel
theorem x_22_44 : decode (q_code 22) 44 = .ok (.iconst 1, 1) := by decide +kernel
theorem x_22_45 : decode (q_code 22) 45 = .ok (.iadd, 1) := by decide +kernel
theorem x_22_46 : decode (q_code 22) 46 = .ok (.iload_n 1, 1) := by decide +kernel
theorem x_22_47 : decode (q_code 22) 47 = .ok (.iconst 1, 1) := by decide +kernel
theorem x_22_48 : decode (q_code 22) 48 = .ok (.iadd, 1) := by decide +kernel
theorem x_22_49 : decode (q_code 22) 49 = .ok (.iload 5, 2) := by decide +kernel
theorem x_22_51 : decode (q_code 22) 51 = .ok (.iadd, 1) := by decide +kernel
theorem x_22_52 : decode (q_code 22) 52 = .ok (.aload_n 0, 1) := by decide +kernel
theorem x_22_53 : decode (q_code 22) 53 = .ok (.getfield 9, 3) := by decide +kernel
theorem x_22_56 : decode (q_code 22) 56 = .ok (.iload_n 2, 1) := by decide +kernel
theorem x_22_57 : decode (q_code 22) 57 = .ok (.iconst 1, 1) := by decide +kernel
theorem x_22_58 : decode (q_code 22) 58 = .ok (.iadd, 1) := by decide +kernel
theorem x_22_59 : decode (q_code 22) 59 = .ok (.iload_n 2, 1) := by decide +kernel
theorem x_22_60 : decode (q_code 22) 60 = .ok (.iconst 1, 1) := by decide +kernel
theorem x_22_61 : decode (q_code 22) 61 = .ok (.iadd, 1) := by decide +kernel
theorem x_22_62 : decode (q_code 22) 62 = .ok (.iload 5, 2) := by decide +kernel
theorem x_22_64 : decode (q_code 22) 64 = .ok (.iadd, 1) := by decide +kernel
theorem x_22_65 : decode (q_code 22) 65 = .ok (.invokestatic 100, 3) := by decide +kernel
theorem x_22_68 : decode (q_code 22) 68 = .ok (.ifCond .eq 5, 3) := by decide +kernel
theorem x_22_71 : decode (q_code 22) 71 = .ok (.iconst 0, 1) := by decide +kernel
theorem x_22_72 : decode (q_code 22) 72 = .ok (.ireturn, 1) := by decide +kernel
theorem x_22_73 : decode (q_code 22) 73 = .ok (.iload_n 3, 1) := by decide +kernel
theorem x_22_74 : decode (q_code 22) 74 = .ok (.iload 4, 2) := by decide +kernel
theorem x_22_76 : decode (q_code 22) 76 = .ok (.if_icmp .eq 31, 3) := by decide +kernel
theorem x_22_79 : decode (q_code 22) 79 = .ok (.aload_n 0, 1) := by decide +kernel
theorem x_22_80 : decode (q_code 22) 80 = .ok (.getfield 9, 3) := by decide +kernel
theorem x_22_83 : decode (q_code 22) 83 = .ok (.iload_n 3, 1) := by decide +kernel
theorem x_22_84 : decode (q_code 22) 84 = .ok (.iload 4, 2) := by decide +kernel
theorem x_22_86 : decode (q_code 22) 86 = .ok (.if_icmp .le 7, 3) := by decide +kernel
theorem x_22_89 : decode (q_code 22) 89 = .ok (.iload_n 1, 1) := by decide +kernel
theorem x_22_90 : decode (q_code 22) 90 = .ok (.goto 4, 3) := by decide +kernel
theorem x_22_93 : decode (q_code 22) 93 = .ok (.iload_n 2, 1) := by decide +kernel
theorem x_22_94 : decode (q_code 22) 94 = .ok (.iconst 1, 1) := by decide +kernel
theorem x_22_95 : decode (q_code 22) 95 = .ok (.iadd, 1) := by decide +kernel
theorem x_22_96 : decode (q_code 22) 96 = .ok (.iload 5, 2) := by decide +kernel
theorem x_22_98 : decode (q_code 22) 98 = .ok (.iadd, 1) := by decide +kernel
theorem x_22_99 : decode (q_code 22) 99 = .ok (.invokestatic 65, 3) := by decide +kernel
theorem x_22_102 : decode (q_code 22) 102 = .ok (.bipush 46, 2) := by decide +kernel
theorem x_22_104 : decode (q_code 22) 104 = .ok (.if_icmp .ne 7, 3) := by decide +kernel
theorem x_22_107 : decode (q_code 22) 107 = .ok (.iconst 1, 1) := by decide +kernel
theorem x_22_108 : decode (q_code 22) 108 = .ok (.goto 4, 3) := by decide +kernel
theorem x_22_111 : decode (q_code 22) 111 = .ok (.iconst 0, 1) := by decide +kernel
theorem x_22_112 : decode (q_code 22) 112 = .ok (.ireturn, 1) := by decide +kernel
theorem x_23_0 : decode (q_code 23) 0 = .ok (.aload_n 0, 1) := by decide +kernel
theorem x_23_1 : decode (q_code 23) 1 = .ok (.getfield 9, 3) := by decide +kernel
theorem x_23_4 : decode (q_code 23) 4 = .ok (.iload_n 1, 1) := by decide +kernel
theorem x_23_5 : decode (q_code 23) 5 = .ok (.invokestatic 85, 3) := by decide +kernel
theorem x_23_8 : decode (q_code 23) 8 = .ok (.iload_n 1, 1) := by decide +kernel
theorem x_23_9 : decode (q_code 23) 9 = .ok (.isub, 1) := by decide +kernel
theorem x_23_10 : decode (q_code 23) 10 = .ok (.istore_n 3, 1) := by decide +kernel
theorem x_23_11 : decode (q_code 23) 11 = .ok (.iload_n 1, 1) := by decide +kernel
theorem x_23_12 : decode (q_code 23) 12 = .ok (.ifCond .lt 24, 3) := by decide +kernel
theorem x_23_15 : decode (q_code 23) 15 = .ok (.iload_n 3, 1) := by decide +kernel
theorem x_23_16 : decode (q_code 23) 16 = .ok (.ifCond .lt 20, 3) := by decide +kernel
theorem x_23_19 : decode (q_code 23) 19 = .ok (.iload_n 3, 1) := by decide +kernel
theorem x_23_20 : decode (q_code 23) 20 = .ok (.ldc 104, 2) := by decide +kernel
theorem x_23_22 : decode (q_code 23) 22 = .ok (.if_icmp .gt 14, 3) := by decide +kernel
theorem x_23_25 : decode (q_code 23) 25 = .ok (.iload_n 1, 1) := by decide +kernel
theorem x_23_26 : decode (q_code 23) 26 = .ok (.iload_n 3, 1) := by decide +kernel
theorem x_23_27 : decode (q_code 23) 27 = .ok (.iadd, 1) := by decide +kernel
theorem x_23_28 : decode (q_code 23) 28 = .ok (.aload_n 0, 1) := by decide +kernel
theorem x_23_29 : decode (q_code 23) 29 = .ok (.getfield 9, 3) := by decide +kernel
theorem x_23_32 : decode (q_code 23) 32 = .ok (.arraylength, 1) := by decide +kernel
theorem x_23_33 : decode (q_code 23) 33 = .ok (.if_icmp .le 11, 3) := by decide +kernel
theorem x_23_36 : decode (q_code 23) 36 = .ok (.aload_n 0, 1) := by decide +kernel
theorem x_23_37 : decode (q_code 23) 37 = .ok (.bipush 9, 2) := by decide +kernel
theorem x_23_39 : decode (q_code 23) 39 = .ok (.iload_n 2, 1) := by decide +kernel
theorem x_23_40 : decode (q_code 23) 40 = .ok (.invokevirtual 71, 3) := by decide +kernel
theorem x_23_43 : decode (q_code 23) 43 = .ok (.ireturn, 1) := by decide +kernel
theorem x_23_44 : decode (q_code 23) 44 = .ok (.aload_n 0, 1) := by decide +kernel
theorem x_23_45 : decode (q_code 23) 45 = .ok (.getfield 9, 3) := by decide +kernel
theorem x_23_48 : decode (q_code 23) 48 = .ok (.iload_n 1, 1) := by decide +kernel
theorem x_23_49 : decode (q_code 23) 49 = .ok (.aload_n 0, 1) := by decide +kernel
theorem x_23_50 : decode (q_code 23) 50 = .ok (.getfield 9, 3) := by decide +kernel
theorem x_23_53 : decode (q_code 23) 53 = .ok (.ldc 28, 2) := by decide +kernel
theorem x_23_55 : decode (q_code 23) 55 = .ok (.iload_n 3, 1) := by decide +kernel
theorem x_23_56 : decode (q_code 23) 56 = .ok (.invokestatic 105, 3) := by decide +kernel
theorem x_23_59 : decode (q_code 23) 59 = .ok (.aload_n 0, 1) := by decide +kernel
theorem x_23_60 : decode (q_code 23) 60 = .ok (.ldc 28, 2) := by decide +kernel
theorem x_23_62 : decode (q_code 23) 62 = .ok (.iload_n 3, 1) := by decide +kernel
theorem x_23_63 : decode (q_code 23) 63 = .ok (.iadd, 1) := by decide +kernel
theorem x_23_64 : decode (q_code 23) 64 = .ok (.putfield 111, 3) := by decide +kernel
theorem x_23_67 : decode (q_code 23) 67 = .ok (.aload_n 0, 1) := by decide +kernel
theorem x_23_68 : decode (q_code 23) 68 = .ok (.iconst 0, 1) := by decide +kernel
theorem x_23_69 : decode (q_code 23) 69 = .ok (.putfield 114, 3) := by decide +kernel
theorem x_23_72 : decode (q_code 23) 72 = .ok (.aload_n 0, 1) := by decide +kernel
theorem x_23_73 : decode (q_code 23) 73 = .ok (.getfield 9, 3) := by decide +kernel
theorem x_23_76 : decode (q_code 23) 76 = .ok (.iload_n 2, 1) := by decide +kernel
theorem x_23_77 : decode (q_code 23) 77 = .ok (.invokestatic 61, 3) := by decide +kernel
theorem x_23_80 : decode (q_code 23) 80 = .ok (.istore 4, 2) := by decide +kernel
theorem x_23_82 : decode (q_code 23) 82 = .ok (.iconst 0, 1) := by decide +kernel
theorem x_23_83 : decode (q_code 23) 83 = .ok (.istore 5, 2) := by decide +kernel
theorem x_23_85 : decode (q_code 23) 85 = .ok (.iload 5, 2) := by decide +kernel
theorem x_23_87 : decode (q_code 23) 87 = .ok (.sipush 2000, 3) := by decide +kernel
theorem x_23_90 : decode (q_code 23) 90 = .ok (.if_icmp .ge 155, 3) := by decide +kernel
theorem x_23_93 : decode (q_code 23) 93 = .ok (.aload_n 0, 1) := by decide +kernel
theorem x_23_94 : decode (q_code 23) 94 = .ok (.getfield 9, 3) := by decide +kernel
theorem x_23_97 : decode (q_code 23) 97 = .ok (.iload 4, 2) := by decide +kernel
theorem x_23_99 : decode (q_code 23) 99 = .ok (.invokestatic 65, 3) := by decide +kernel
theorem x_23_102 : decode (q_code 23) 102 = .ok (.ifCond .eq 143, 3) := by decide +kernel
theorem x_23_105 : decode (q_code 23) 105 = .ok (.aload_n 0, 1) := by decide +kernel
theorem x_23_106 : decode (q_code 23) 106 = .ok (.getfield 9, 3) := by decide +kernel
theorem x_23_109 : decode (q_code 23) 109 = .ok (.iload 4, 2) := by decide +kernel
theorem x_23_111 : decode (q_code 23) 111 = .ok (.invokestatic 68, 3) := by decide +kernel
theorem x_23_114 : decode (q_code 23) 114 = .ok (.istore 6, 2) := by decide +kernel
theorem x_23_116 : decode (q_code 23) 116 = .ok (.aload_n 0, 1) := by decide +kernel
theorem x_23_117 : decode (q_code 23) 117 = .ok (.getfield 9, 3) := by decide +kernel
theorem x_23_120 : decode (q_code 23) 120 = .ok (.iload 4, 2) := by decide +kernel
theorem x_23_122 : decode (q_code 23) 122 = .ok (.invokestatic 61, 3) := by decide +kernel
theorem x_23_125 : decode (q_code 23) 125 = .ok (.istore 7, 2) := by decide +kernel
theorem x_23_127 : decode (q_code 23) 127 = .ok (.iconst 0, 1) := by decide +kernel
theorem x_23_128 : decode (q_code 23) 128 = .ok (.istore 8, 2) := by decide +kernel
theorem x_23_130 : decode (q_code 23) 130 = .ok (.iload 8, 2) := by decide +kernel
theorem x_23_132 : decode (q_code 23) 132 = .ok (.sipush 2000, 3) := by decide +kernel
theorem x_23_135 : decode (q_code 23) 135 = .ok (.if_icmp .ge 93, 3) := by decide +kernel
theorem x_23_138 : decode (q_code 23) 138 = .ok (.aload_n 0, 1) := by decide +kernel
theorem x_23_139 : decode (q_code 23) 139 = .ok (.getfield 9, 3) := by decide +kernel
theorem x_23_142 : decode (q_code 23) 142 = .ok (.iload 7, 2) := by decide +kernel
theorem x_23_144 : decode (q_code 23) 144 = .ok (.invokestatic 65, 3) := by decide +kernel
theorem x_23_147 : decode (q_code 23) 147 = .ok (.ifCond .eq 81, 3) := by decide +kernel
theorem x_23_150 : decode (q_code 23) 150 = .ok (.aload_n 0, 1) := by decide +kernel
theorem x_23_151 : decode (q_code 23) 151 = .ok (.getfield 18, 3) := by decide +kernel
theorem x_23_154 : decode (q_code 23) 154 = .ok (.aload_n 0, 1) := by decide +kernel
theorem x_23_155 : decode (q_code 23) 155 = .ok (.getfield 9, 3) := by decide +kernel
theorem x_23_158 : decode (q_code 23) 158 = .ok (.iload 7, 2) := by decide +kernel
theorem x_23_160 : decode (q_code 23) 160 = .ok (.invokevirtual 75, 3) := by decide +kernel
theorem x_23_163 : decode (q_code 23) 163 = .ok (.pop, 1) := by decide +kernel
theorem x_23_164 : decode (q_code 23) 164 = .ok (.iload 6, 2) := by decide +kernel
theorem x_23_166 : decode (q_code 23) 166 = .ok (.iconst 2, 1) := by decide +kernel
theorem x_23_167 : decode (q_code 23) 167 = .ok (.if_icmp .eq 9, 3) := by decide +kernel
theorem x_23_170 : decode (q_code 23) 170 = .ok (.iload 6, 2) := by decide +kernel
theorem x_23_172 : decode (q_code 23) 172 = .ok (.iconst 5, 1) := by decide +kernel
theorem x_23_173 : decode (q_code 23) 173 = .ok (.if_icmp .ne 14, 3) := by decide +kernel
theorem x_23_176 : decode (q_code 23) 176 = .ok (.aload_n 0, 1) := by decide +kernel
theorem x_23_177 : decode (q_code 23) 177 = .ok (.iload 6, 2) := by decide +kernel
theorem x_23_179 : decode (q_code 23) 179 = .ok (.iload 7, 2) := by decide +kernel
theorem x_23_181 : decode (q_code 23) 181 = .ok (.invokevirtual 118, 3) := by decide +kernel
theorem x_23_184 : decode (q_code 23) 184 = .ok (.goto 11, 3) := by decide +kernel
theorem x_23_187 : decode (q_code 23) 187 = .ok (.aload_n 0, 1) := by decide +kernel
theorem x_23_188 : decode (q_code 23) 188 = .ok (.iload 6, 2) := by decide +kernel
theorem x_23_190 : decode (q_code 23) 190 = .ok (.iload 7, 2) := by decide +kernel
theorem x_23_192 : decode (q_code 23) 192 = .ok (.invokevirtual 121, 3) := by decide +kernel
theorem x_23_195 : decode (q_code 23) 195 = .ok (.istore 9, 2) := by decide +kernel
theorem x_23_197 : decode (q_code 23) 197 = .ok (.iload 9, 2) := by decide +kernel
theorem x_23_199 : decode (q_code 23) 199 = .ok (.ifCond .eq 12, 3) := by decide +kernel
theorem x_23_202 : decode (q_code 23) 202 = .ok (.aload_n 0, 1) := by decide +kernel
theorem x_23_203 : decode (q_code 23) 203 = .ok (.iload 9, 2) := by decide +kernel
theorem x_23_205 : decode (q_code 23) 205 = .ok (.iload 7, 2) := by decide +kernel
theorem x_23_207 : decode (q_code 23) 207 = .ok (.invokevirtual 71, 3) := by decide +kernel
theorem x_23_210 : decode (q_code 23) 210 = .ok (.ireturn, 1) := by decide +kernel
theorem x_23_211 : decode (q_code 23) 211 = .ok (.aload_n 0, 1) := by decide +kernel
theorem x_23_212 : decode (q_code 23) 212 = .ok (.getfield 9, 3) := by decide +kernel
theorem x_23_215 : decode (q_code 23) 215 = .ok (.iload 7, 2) := by decide +kernel
theorem x_23_217 : decode (q_code 23) 217 = .ok (.invokestatic 85, 3) := by decide +kernel
theorem x_23_220 : decode (q_code 23) 220 = .ok (.istore 7, 2) := by decide +kernel
theorem x_23_222 : decode (q_code 23) 222 = .ok (.iinc 8 1, 3) := by decide +kernel
theorem x_23_225 : decode (q_code 23) 225 = .ok (.goto (-95), 3) := by decide +kernel
theorem x_23_228 : decode (q_code 23) 228 = .ok (.aload_n 0, 1) := by decide +kernel
theorem x_23_229 : decode (q_code 23) 229 = .ok (.getfield 9, 3) := by decide +kernel
theorem x_23_232 : decode (q_code 23) 232 = .ok (.iload 4, 2) := by decide +kernel
theorem x_23_234 : decode (q_code 23) 234 = .ok (.invokestatic 85, 3) := by decide +kernel
theorem x_23_237 : decode (q_code 23) 237 = .ok (.istore 4, 2) := by decide +kernel
theorem x_23_239 : decode (q_code 23) 239 = .ok (.iinc 5 1, 3) := by decide +kernel
theorem x_23_242 : decode (q_code 23) 242 = .ok (.goto (-157), 3) := by decide +kernel
theorem x_23_245 : decode (q_code 23) 245 = .ok (.aload_n 0, 1) := by decide +kernel
theorem x_23_246 : decode (q_code 23) 246 = .ok (.getfield 9, 3) := by decide +kernel
theorem x_23_249 : decode (q_code 23) 249 = .ok (.ldc 124, 2) := by decide +kernel
theorem x_23_251 : decode (q_code 23) 251 = .ok (.invokestatic 125, 3) := by decide +kernel
theorem x_23_254 : decode (q_code 23) 254 = .ok (.sipush 2000, 3) := by decide +kernel
theorem x_23_257 : decode (q_code 23) 257 = .ok (.if_icmp .gt 18, 3) := by decide +kernel
theorem x_23_260 : decode (q_code 23) 260 = .ok (.aload_n 0, 1) := by decide +kernel
theorem x_23_261 : decode (q_code 23) 261 = .ok (.getfield 9, 3) := by decide +kernel
theorem x_23_264 : decode (q_code 23) 264 = .ok (.ldc 28, 2) := by decide +kernel
theorem x_23_266 : decode (q_code 23) 266 = .ok (.iconst 1, 1) := by decide +kernel
theorem x_23_267 : decode (q_code 23) 267 = .ok (.invokestatic 128, 3) := by decide +kernel
theorem x_23_270 : decode (q_code 23) 270 = .ok (.bipush 16, 2) := by decide +kernel
theorem x_23_272 : decode (q_code 23) 272 = .ok (.if_icmp .le 11, 3) := by decide +kernel
theorem x_23_275 : decode (q_code 23) 275 = .ok (.aload_n 0, 1) := by decide +kernel
theorem x_23_276 : decode (q_code 23) 276 = .ok (.bipush 9, 2) := by decide +kernel
theorem x_23_278 : decode (q_code 23) 278 = .ok (.iload_n 2, 1) := by decide +kernel
theorem x_23_279 : decode (q_code 23) 279 = .ok (.invokevirtual 71, 3) := by decide +kernel
theorem x_23_282 : decode (q_code 23) 282 = .ok (.ireturn, 1) := by decide +kernel
theorem x_23_283 : decode (q_code 23) 283 = .ok (.iconst 1, 1) := by decide +kernel
theorem x_23_284 : decode (q_code 23) 284 = .ok (.ireturn, 1) := by decide +kernel
theorem x_24_0 : decode (q_code 24) 0 = .ok (.iload_n 3, 1) := by decide +kernel
theorem x_24_1 : decode (q_code 24) 1 = .ok (.iload_n 2, 1) := by decide +kernel
theorem x_24_2 : decode (q_code 24) 2 = .ok (.isub, 1) := by decide +kernel
theorem x_24_3 : decode (q_code 24) 3 = .ok (.istore 4, 2) := by decide +kernel
theorem x_24_5 : decode (q_code 24) 5 = .ok (.iload_n 1, 1) := by decide +kernel
theorem x_24_6 : decode (q_code 24) 6 = .ok (.ldc 28, 2) := by decide +kernel
theorem x_24_8 : decode (q_code 24) 8 = .ok (.if_icmp .lt 33, 3) := by decide +kernel
theorem x_24_11 : decode (q_code 24) 11 = .ok (.iload_n 2, 1) := by decide +kernel
theorem x_24_12 : decode (q_code 24) 12 = .ok (.ifCond .lt 29, 3) := by decide +kernel
theorem x_24_15 : decode (q_code 24) 15 = .ok (.iload_n 3, 1) := by decide +kernel
theorem x_24_16 : decode (q_code 24) 16 = .ok (.ifCond .lt 25, 3) := by decide +kernel
theorem x_24_19 : decode (q_code 24) 19 = .ok (.iload_n 1, 1) := by decide +kernel
theorem x_24_20 : decode (q_code 24) 20 = .ok (.iload_n 2, 1) := by decide +kernel
theorem x_24_21 : decode (q_code 24) 21 = .ok (.iadd, 1) := by decide +kernel
theorem x_24_22 : decode (q_code 24) 22 = .ok (.aload_n 0, 1) := by decide +kernel
theorem x_24_23 : decode (q_code 24) 23 = .ok (.getfield 111, 3) := by decide +kernel
theorem x_24_26 : decode (q_code 24) 26 = .ok (.if_icmp .gt 15, 3) := by decide +kernel
theorem x_24_29 : decode (q_code 24) 29 = .ok (.aload_n 0, 1) := by decide +kernel
theorem x_24_30 : decode (q_code 24) 30 = .ok (.getfield 111, 3) := by decide +kernel
theorem x_24_33 : decode (q_code 24) 33 = .ok (.iload 4, 2) := by decide +kernel
theorem x_24_35 : decode (q_code 24) 35 = .ok (.iadd, 1) := by decide +kernel
theorem x_24_36 : decode (q_code 24) 36 = .ok (.ldc 132, 2) := by decide +kernel
theorem x_24_38 : decode (q_code 24) 38 = .ok (.if_icmp .le 5, 3) := by decide +kernel
theorem x_24_41 : decode (q_code 24) 41 = .ok (.iconst 0, 1) := by decide +kernel
theorem x_24_42 : decode (q_code 24) 42 = .ok (.ireturn, 1) := by decide +kernel
theorem x_24_43 : decode (q_code 24) 43 = .ok (.aload_n 0, 1) := by decide +kernel
theorem x_24_44 : decode (q_code 24) 44 = .ok (.getfield 9, 3) := by decide +kernel
theorem x_24_47 : decode (q_code 24) 47 = .ok (.iload_n 1, 1) := by decide +kernel
theorem x_24_48 : decode (q_code 24) 48 = .ok (.iload_n 2, 1) := by decide +kernel
theorem x_24_49 : decode (q_code 24) 49 = .ok (.iadd, 1) := by decide +kernel
theorem x_24_50 : decode (q_code 24) 50 = .ok (.aload_n 0, 1) := by decide +kernel
theorem x_24_51 : decode (q_code 24) 51 = .ok (.getfield 9, 3) := by decide +kernel
theorem x_24_54 : decode (q_code 24) 54 = .ok (.iload_n 1, 1) := by decide +kernel
theorem x_24_55 : decode (q_code 24) 55 = .ok (.iload_n 3, 1) := by decide +kernel
theorem x_24_56 : decode (q_code 24) 56 = .ok (.iadd, 1) := by decide +kernel
theorem x_24_57 : decode (q_code 24) 57 = .ok (.aload_n 0, 1) := by decide +kernel
theorem x_24_58 : decode (q_code 24) 58 = .ok (.getfield 111, 3) := by decide +kernel
theorem x_24_61 : decode (q_code 24) 61 = .ok (.iload_n 1, 1) := by decide +kernel
theorem x_24_62 : decode (q_code 24) 62 = .ok (.isub, 1) := by decide +kernel
theorem x_24_63 : decode (q_code 24) 63 = .ok (.iload_n 2, 1) := by decide +kernel
theorem x_24_64 : decode (q_code 24) 64 = .ok (.isub, 1) := by decide +kernel
theorem x_24_65 : decode (q_code 24) 65 = .ok (.invokestatic 105, 3) := by decide +kernel
theorem x_24_68 : decode (q_code 24) 68 = .ok (.aload_n 0, 1) := by decide +kernel
theorem x_24_69 : decode (q_code 24) 69 = .ok (.dup, 1) := by decide +kernel
theorem x_24_70 : decode (q_code 24) 70 = .ok (.getfield 111, 3) := by decide +kernel
theorem x_24_73 : decode (q_code 24) 73 = .ok (.iload 4, 2) := by decide +kernel
theorem x_24_75 : decode (q_code 24) 75 = .ok (.iadd, 1) := by decide +kernel
theorem x_24_76 : decode (q_code 24) 76 = .ok (.putfield 111, 3) := by decide +kernel
theorem x_24_79 : decode (q_code 24) 79 = .ok (.aload_n 0, 1) := by decide +kernel
theorem x_24_80 : decode (q_code 24) 80 = .ok (.getfield 32, 3) := by decide +kernel
theorem x_24_83 : decode (q_code 24) 83 = .ok (.iload_n 1, 1) := by decide +kernel
theorem x_24_84 : decode (q_code 24) 84 = .ok (.iload_n 1, 1) := by decide +kernel
theorem x_24_85 : decode (q_code 24) 85 = .ok (.iload_n 3, 1) := by decide +kernel
theorem x_24_86 : decode (q_code 24) 86 = .ok (.iadd, 1) := by decide +kernel
theorem x_24_87 : decode (q_code 24) 87 = .ok (.invokevirtual 133, 3) := by decide +kernel
theorem x_24_90 : decode (q_code 24) 90 = .ok (.iconst 0, 1) := by decide +kernel
theorem x_24_91 : decode (q_code 24) 91 = .ok (.istore 5, 2) := by decide +kernel
theorem x_24_93 : decode (q_code 24) 93 = .ok (.iload 5, 2) := by decide +kernel
theorem x_24_95 : decode (q_code 24) 95 = .ok (.aload_n 0, 1) := by decide +kernel
theorem x_24_96 : decode (q_code 24) 96 = .ok (.getfield 137, 3) := by decide +kernel
theorem x_24_99 : decode (q_code 24) 99 = .ok (.if_icmp .ge 56, 3) := by decide +kernel
theorem x_24_102 : decode (q_code 24) 102 = .ok (.iload 5, 2) := by decide +kernel
theorem x_24_104 : decode (q_code 24) 104 = .ok (.aload_n 0, 1) := by decide +kernel
theorem x_24_105 : decode (q_code 24) 105 = .ok (.getfield 22, 3) := by decide +kernel
theorem x_24_108 : decode (q_code 24) 108 = .ok (.arraylength, 1) := by decide +kernel
theorem x_24_109 : decode (q_code 24) 109 = .ok (.if_icmp .ge 46, 3) := by decide +kernel
theorem x_24_112 : decode (q_code 24) 112 = .ok (.aload_n 0, 1) := by decide +kernel
theorem x_24_113 : decode (q_code 24) 113 = .ok (.getfield 9, 3) := by decide +kernel
theorem x_24_116 : decode (q_code 24) 116 = .ok (.aload_n 0, 1) := by decide +kernel
theorem x_24_117 : decode (q_code 24) 117 = .ok (.getfield 22, 3) := by decide +kernel
theorem x_24_120 : decode (q_code 24) 120 = .ok (.iload 5, 2) := by decide +kernel
theorem x_24_122 : decode (q_code 24) 122 = .ok (.iaload, 1) := by decide +kernel
theorem x_24_123 : decode (q_code 24) 123 = .ok (.invokestatic 91, 3) := by decide +kernel
theorem x_24_126 : decode (q_code 24) 126 = .ok (.istore 6, 2) := by decide +kernel
theorem x_24_128 : decode (q_code 24) 128 = .ok (.aload_n 0, 1) := by decide +kernel
theorem x_24_129 : decode (q_code 24) 129 = .ok (.getfield 32, 3) := by decide +kernel
theorem x_24_132 : decode (q_code 24) 132 = .ok (.iload 6, 2) := by decide +kernel
theorem x_24_134 : decode (q_code 24) 134 = .ok (.aload_n 0, 1) := by decide +kernel
theorem x_24_135 : decode (q_code 24) 135 = .ok (.getfield 9, 3) := by decide +kernel
theorem x_24_138 : decode (q_code 24) 138 = .ok (.iload 6, 2) := by decide +kernel
theorem x_24_140 : decode (q_code 24) 140 = .ok (.invokestatic 125, 3) := by decide +kernel
theorem x_24_143 : decode (q_code 24) 143 = .ok (.iload 4, 2) := by decide +kernel
theorem x_24_145 : decode (q_code 24) 145 = .ok (.iadd, 1) := by decide +kernel
theorem x_24_146 : decode (q_code 24) 146 = .ok (.invokevirtual 140, 3) := by decide +kernel
theorem x_24_149 : decode (q_code 24) 149 = .ok (.iinc 5 1, 3) := by decide +kernel
theorem x_24_152 : decode (q_code 24) 152 = .ok (.goto (-59), 3) := by decide +kernel
theorem x_24_155 : decode (q_code 24) 155 = .ok (.aload_n 0, 1) := by decide +kernel
theorem x_24_156 : decode (q_code 24) 156 = .ok (.iconst 1, 1) := by decide +kernel
theorem x_24_157 : decode (q_code 24) 157 = .ok (.putfield 114, 3) := by decide +kernel
theorem x_24_160 : decode (q_code 24) 160 = .ok (.iconst 1, 1) := by decide +kernel
theorem x_24_161 : decode (q_code 24) 161 = .ok (.ireturn, 1) := by decide +kernel
theorem x_25_0 : decode (q_code 25) 0 = .ok (.aload_n 0, 1) := by decide +kernel
theorem x_25_1 : decode (q_code 25) 1 = .ok (.getfield 137, 3) := by decide +kernel
theorem x_25_4 : decode (q_code 25) 4 = .ok (.aload_n 0, 1) := by decide +kernel
theorem x_25_5 : decode (q_code 25) 5 = .ok (.getfield 22, 3) := by decide +kernel
theorem x_25_8 : decode (q_code 25) 8 = .ok (.arraylength, 1) := by decide +kernel
theorem x_25_9 : decode (q_code 25) 9 = .ok (.if_icmp .ge 23, 3) := by decide +kernel
theorem x_25_12 : decode (q_code 25) 12 = .ok (.aload_n 0, 1) := by decide +kernel
theorem x_25_13 : decode (q_code 25) 13 = .ok (.getfield 22, 3) := by decide +kernel
theorem x_25_16 : decode (q_code 25) 16 = .ok (.aload_n 0, 1) := by decide +kernel
theorem x_25_17 : decode (q_code 25) 17 = .ok (.getfield 137, 3) := by decide +kernel
theorem x_25_20 : decode (q_code 25) 20 = .ok (.iload_n 1, 1) := by decide +kernel
theorem x_25_21 : decode (q_code 25) 21 = .ok (.iastore, 1) := by decide +kernel
theorem x_25_22 : decode (q_code 25) 22 = .ok (.aload_n 0, 1) := by decide +kernel
theorem x_25_23 : decode (q_code 25) 23 = .ok (.dup, 1) := by decide +kernel
theorem x_25_24 : decode (q_code 25) 24 = .ok (.getfield 137, 3) := by decide +kernel
theorem x_25_27 : decode (q_code 25) 27 = .ok (.iconst 1, 1) := by decide +kernel
theorem x_25_28 : decode (q_code 25) 28 = .ok (.iadd, 1) := by decide +kernel
theorem x_25_29 : decode (q_code 25) 29 = .ok (.putfield 137, 3) := by decide +kernel
theorem x_25_32 : decode (q_code 25) 32 = .ok (.return_, 1) := by decide +kernel
theorem x_26_0 : decode (q_code 26) 0 = .ok (.ldc 28, 2) := by decide +kernel
theorem x_26_2 : decode (q_code 26) 2 = .ok (.istore_n 3, 1) := by decide +kernel
theorem x_26_3 : decode (q_code 26) 3 = .ok (.aload_n 0, 1) := by decide +kernel
theorem x_26_4 : decode (q_code 26) 4 = .ok (.iconst 0, 1) := by decide +kernel
theorem x_26_5 : decode (q_code 26) 5 = .ok (.putfield 137, 3) := by decide +kernel
theorem x_26_8 : decode (q_code 26) 8 = .ok (.iconst 0, 1) := by decide +kernel
theorem x_26_9 : decode (q_code 26) 9 = .ok (.istore 4, 2) := by decide +kernel
theorem x_26_11 : decode (q_code 26) 11 = .ok (.iload 4, 2) := by decide +kernel
theorem x_26_13 : decode (q_code 26) 13 = .ok (.aload_n 0, 1) := by decide +kernel
theorem x_26_14 : decode (q_code 26) 14 = .ok (.getfield 18, 3) := by decide +kernel
theorem x_26_17 : decode (q_code 26) 17 = .ok (.getfield 143, 3) := by decide +kernel
theorem x_26_20 : decode (q_code 26) 20 = .ok (.if_icmp .ge 187, 3) := by decide +kernel
theorem x_26_23 : decode (q_code 26) 23 = .ok (.aload_n 0, 1) := by decide +kernel
theorem x_26_24 : decode (q_code 26) 24 = .ok (.getfield 9, 3) := by decide +kernel
theorem x_26_27 : decode (q_code 26) 27 = .ok (.iload_n 3, 1) := by decide +kernel
theorem x_26_28 : decode (q_code 26) 28 = .ok (.invokestatic 65, 3) := by decide +kernel
theorem x_26_31 : decode (q_code 26) 31 = .ok (.istore 5, 2) := by decide +kernel
theorem x_26_33 : decode (q_code 26) 33 = .ok (.iload 5, 2) := by decide +kernel
theorem x_26_35 : decode (q_code 26) 35 = .ok (.iconst 3, 1) := by decide +kernel
theorem x_26_36 : decode (q_code 26) 36 = .ok (.if_icmp .eq 12, 3) := by decide +kernel
theorem x_26_39 : decode (q_code 26) 39 = .ok (.iload 5, 2) := by decide +kernel
theorem x_26_41 : decode (q_code 26) 41 = .ok (.iconst 4, 1) := by decide +kernel
theorem x_26_42 : decode (q_code 26) 42 = .ok (.if_icmp .eq 6, 3) := by decide +kernel
theorem x_26_45 : decode (q_code 26) 45 = .ok (.bipush 6, 2) := by decide +kernel
theorem x_26_47 : decode (q_code 26) 47 = .ok (.ireturn, 1) := by decide +kernel
theorem x_26_48 : decode (q_code 26) 48 = .ok (.aload_n 0, 1) := by decide +kernel
theorem x_26_49 : decode (q_code 26) 49 = .ok (.iload_n 3, 1) := by decide +kernel
theorem x_26_50 : decode (q_code 26) 50 = .ok (.invokevirtual 146, 3) := by decide +kernel
theorem x_26_53 : decode (q_code 26) 53 = .ok (.aload_n 0, 1) := by decide +kernel
theorem x_26_54 : decode (q_code 26) 54 = .ok (.getfield 9, 3) := by decide +kernel
theorem x_26_57 : decode (q_code 26) 57 = .ok (.iload_n 3, 1) := by decide +kernel
theorem x_26_58 : decode (q_code 26) 58 = .ok (.aload_n 0, 1) := by decide +kernel
theorem x_26_59 : decode (q_code 26) 59 = .ok (.getfield 18, 3) := by decide +kernel
theorem x_26_62 : decode (q_code 26) 62 = .ok (.getfield 150, 3) := by decide +kernel
theorem x_26_65 : decode (q_code 26) 65 = .ok (.aload_n 0, 1) := by decide +kernel
theorem x_26_66 : decode (q_code 26) 66 = .ok (.getfield 18, 3) := by decide +kernel
theorem x_26_69 : decode (q_code 26) 69 = .ok (.getfield 151, 3) := by decide +kernel
theorem x_26_72 : decode (q_code 26) 72 = .ok (.iload 4, 2) := by decide +kernel
theorem x_26_74 : decode (q_code 26) 74 = .ok (.iaload, 1) := by decide +kernel
theorem x_26_75 : decode (q_code 26) 75 = .ok (.aload_n 0, 1) := by decide +kernel
theorem x_26_76 : decode (q_code 26) 76 = .ok (.getfield 18, 3) := by decide +kernel
theorem x_26_79 : decode (q_code 26) 79 = .ok (.getfield 154, 3) := by decide +kernel
theorem x_26_82 : decode (q_code 26) 82 = .ok (.iload 4, 2) := by decide +kernel
theorem x_26_84 : decode (q_code 26) 84 = .ok (.iaload, 1) := by decide +kernel
theorem x_26_85 : decode (q_code 26) 85 = .ok (.invokestatic 157, 3) := by decide +kernel
theorem x_26_88 : decode (q_code 26) 88 = .ok (.istore 6, 2) := by decide +kernel
theorem x_26_90 : decode (q_code 26) 90 = .ok (.iload 6, 2) := by decide +kernel
theorem x_26_92 : decode (q_code 26) 92 = .ok (.ifCond .ge 53, 3) := by decide +kernel
theorem x_26_95 : decode (q_code 26) 95 = .ok (.iload 5, 2) := by decide +kernel
theorem x_26_97 : decode (q_code 26) 97 = .ok (.iconst 4, 1) := by decide +kernel
theorem x_26_98 : decode (q_code 26) 98 = .ok (.if_icmp .ne 47, 3) := by decide +kernel
theorem x_26_101 : decode (q_code 26) 101 = .ok (.aload_n 0, 1) := by decide +kernel
theorem x_26_102 : decode (q_code 26) 102 = .ok (.getfield 18, 3) := by decide +kernel
theorem x_26_105 : decode (q_code 26) 105 = .ok (.getfield 150, 3) := by decide +kernel
theorem x_26_108 : decode (q_code 26) 108 = .ok (.aload_n 0, 1) := by decide +kernel
theorem x_26_109 : decode (q_code 26) 109 = .ok (.getfield 18, 3) := by decide +kernel
theorem x_26_112 : decode (q_code 26) 112 = .ok (.getfield 151, 3) := by decide +kernel
theorem x_26_115 : decode (q_code 26) 115 = .ok (.iload 4, 2) := by decide +kernel
theorem x_26_117 : decode (q_code 26) 117 = .ok (.iaload, 1) := by decide +kernel
theorem x_26_118 : decode (q_code 26) 118 = .ok (.aload_n 0, 1) := by decide +kernel
theorem x_26_119 : decode (q_code 26) 119 = .ok (.getfield 18, 3) := by decide +kernel
theorem x_26_122 : decode (q_code 26) 122 = .ok (.getfield 154, 3) := by decide +kernel
theorem x_26_125 : decode (q_code 26) 125 = .ok (.iload 4, 2) := by decide +kernel
theorem x_26_127 : decode (q_code 26) 127 = .ok (.iaload, 1) := by decide +kernel
theorem x_26_128 : decode (q_code 26) 128 = .ok (.aload_n 0, 1) := by decide +kernel
theorem x_26_129 : decode (q_code 26) 129 = .ok (.getfield 9, 3) := by decide +kernel
theorem x_26_132 : decode (q_code 26) 132 = .ok (.iload_n 3, 1) := by decide +kernel
theorem x_26_133 : decode (q_code 26) 133 = .ok (.invokestatic 161, 3) := by decide +kernel
theorem x_26_136 : decode (q_code 26) 136 = .ok (.invokestatic 164, 3) := by decide +kernel
theorem x_26_139 : decode (q_code 26) 139 = .ok (.ifCond .ne 6, 3) := by decide +kernel
theorem x_26_142 : decode (q_code 26) 142 = .ok (.bipush 6, 2) := by decide +kernel
theorem x_26_144 : decode (q_code 26) 144 = .ok (.ireturn, 1) := by decide +kernel
theorem x_26_145 : decode (q_code 26) 145 = .ok (.iload 4, 2) := by decide +kernel
theorem x_26_147 : decode (q_code 26) 147 = .ok (.aload_n 0, 1) := by decide +kernel
theorem x_26_148 : decode (q_code 26) 148 = .ok (.getfield 18, 3) := by decide +kernel
theorem x_26_151 : decode (q_code 26) 151 = .ok (.getfield 143, 3) := by decide +kernel
theorem x_26_154 : decode (q_code 26) 154 = .ok (.iconst 1, 1) := by decide +kernel
theorem x_26_155 : decode (q_code 26) 155 = .ok (.isub, 1) := by decide +kernel
theorem x_26_156 : decode (q_code 26) 156 = .ok (.if_icmp .ne 28, 3) := by decide +kernel
theorem x_26_159 : decode (q_code 26) 159 = .ok (.iload 6, 2) := by decide +kernel
theorem x_26_161 : decode (q_code 26) 161 = .ok (.ifCond .ge 14, 3) := by decide +kernel
theorem x_26_164 : decode (q_code 26) 164 = .ok (.aload_n 0, 1) := by decide +kernel
theorem x_26_165 : decode (q_code 26) 165 = .ok (.iload_n 1, 1) := by decide +kernel
theorem x_26_166 : decode (q_code 26) 166 = .ok (.iload_n 2, 1) := by decide +kernel
theorem x_26_167 : decode (q_code 26) 167 = .ok (.iload 4, 2) := by decide +kernel
theorem x_26_169 : decode (q_code 26) 169 = .ok (.invokevirtual 168, 3) := by decide +kernel
theorem x_26_172 : decode (q_code 26) 172 = .ok (.goto 11, 3) := by decide +kernel
theorem x_26_175 : decode (q_code 26) 175 = .ok (.aload_n 0, 1) := by decide +kernel
theorem x_26_176 : decode (q_code 26) 176 = .ok (.iload_n 1, 1) := by decide +kernel
theorem x_26_177 : decode (q_code 26) 177 = .ok (.iload_n 2, 1) := by decide +kernel
theorem x_26_178 : decode (q_code 26) 178 = .ok (.iload 6, 2) := by decide +kernel
theorem x_26_180 : decode (q_code 26) 180 = .ok (.invokevirtual 172, 3) := by decide +kernel
theorem x_26_183 : decode (q_code 26) 183 = .ok (.ireturn, 1) := by decide +kernel
theorem x_26_184 : decode (q_code 26) 184 = .ok (.iload 6, 2) := by decide +kernel
theorem x_26_186 : decode (q_code 26) 186 = .ok (.ifCond .ge 12, 3) := by decide +kernel
theorem x_26_189 : decode (q_code 26) 189 = .ok (.aload_n 0, 1) := by decide +kernel
theorem x_26_190 : decode (q_code 26) 190 = .ok (.iload 4, 2) := by decide +kernel
theorem x_26_192 : decode (q_code 26) 192 = .ok (.invokevirtual 175, 3) := by decide +kernel
theorem x_26_195 : decode (q_code 26) 195 = .ok (.goto 5, 3) := by decide +kernel
theorem x_26_198 : decode (q_code 26) 198 = .ok (.iload 6, 2) := by decide +kernel
theorem x_26_200 : decode (q_code 26) 200 = .ok (.istore_n 3, 1) := by decide +kernel
theorem x_26_201 : decode (q_code 26) 201 = .ok (.iinc 4 1, 3) := by decide +kernel
theorem x_26_204 : decode (q_code 26) 204 = .ok (.goto (-193), 3) := by decide +kernel
theorem x_26_207 : decode (q_code 26) 207 = .ok (.iconst 0, 1) := by decide +kernel
theorem x_26_208 : decode (q_code 26) 208 = .ok (.ireturn, 1) := by decide +kernel
theorem x_27_0 : decode (q_code 27) 0 = .ok (.aload_n 0, 1) := by decide +kernel
theorem x_27_1 : decode (q_code 27) 1 = .ok (.getfield 9, 3) := by decide +kernel
theorem x_27_4 : decode (q_code 27) 4 = .ok (.aload_n 0, 1) := by decide +kernel
theorem x_27_5 : decode (q_code 27) 5 = .ok (.getfield 137, 3) := by decide +kernel
theorem x_27_8 : decode (q_code 27) 8 = .ok (.ifCond .le 17, 3) := by decide +kernel
theorem x_27_11 : decode (q_code 27) 11 = .ok (.aload_n 0, 1) := by decide +kernel
theorem x_27_12 : decode (q_code 27) 12 = .ok (.getfield 22, 3) := by decide +kernel
theorem x_27_15 : decode (q_code 27) 15 = .ok (.aload_n 0, 1) := by decide +kernel
theorem x_27_16 : decode (q_code 27) 16 = .ok (.getfield 137, 3) := by decide +kernel
theorem x_27_19 : decode (q_code 27) 19 = .ok (.iconst 1, 1) := by decide +kernel
theorem x_27_20 : decode (q_code 27) 20 = .ok (.isub, 1) := by decide +kernel
theorem x_27_21 : decode (q_code 27) 21 = .ok (.iaload, 1) := by decide +kernel
theorem x_27_22 : decode (q_code 27) 22 = .ok (.goto 5, 3) := by decide +kernel
theorem x_27_25 : decode (q_code 27) 25 = .ok (.ldc 28, 2) := by decide +kernel
theorem x_27_27 : decode (q_code 27) 27 = .ok (.invokestatic 91, 3) := by decide +kernel
theorem x_27_30 : decode (q_code 27) 30 = .ok (.istore_n 1, 1) := by decide +kernel
theorem x_27_31 : decode (q_code 27) 31 = .ok (.iload_n 1, 1) := by decide +kernel
theorem x_27_32 : decode (q_code 27) 32 = .ok (.aload_n 0, 1) := by decide +kernel
theorem x_27_33 : decode (q_code 27) 33 = .ok (.getfield 9, 3) := by decide +kernel
theorem x_27_36 : decode (q_code 27) 36 = .ok (.iload_n 1, 1) := by decide +kernel
theorem x_27_37 : decode (q_code 27) 37 = .ok (.invokestatic 125, 3) := by decide +kernel
theorem x_27_40 : decode (q_code 27) 40 = .ok (.iadd, 1) := by decide +kernel
theorem x_27_41 : decode (q_code 27) 41 = .ok (.iconst 1, 1) := by decide +kernel
theorem x_27_42 : decode (q_code 27) 42 = .ok (.isub, 1) := by decide +kernel
theorem x_27_43 : decode (q_code 27) 43 = .ok (.ireturn, 1) := by decide +kernel
theorem x_28_0 : decode (q_code 28) 0 = .ok (.aload_n 0, 1) := by decide +kernel
theorem x_28_1 : decode (q_code 28) 1 = .ok (.invokevirtual 179, 3) := by decide +kernel
theorem x_28_4 : decode (q_code 28) 4 = .ok (.istore_n 2, 1) := by decide +kernel
theorem x_28_5 : decode (q_code 28) 5 = .ok (.aload_n 0, 1) := by decide +kernel
theorem x_28_6 : decode (q_code 28) 6 = .ok (.iload_n 2, 1) := by decide +kernel
theorem x_28_7 : decode (q_code 28) 7 = .ok (.iconst 0, 1) := by decide +kernel
theorem x_28_8 : decode (q_code 28) 8 = .ok (.aload_n 0, 1) := by decide +kernel
theorem x_28_9 : decode (q_code 28) 9 = .ok (.getfield 18, 3) := by decide +kernel
theorem x_28_12 : decode (q_code 28) 12 = .ok (.getfield 154, 3) := by decide +kernel
theorem x_28_15 : decode (q_code 28) 15 = .ok (.iload_n 1, 1) := by decide +kernel
theorem x_28_16 : decode (q_code 28) 16 = .ok (.iaload, 1) := by decide +kernel
theorem x_28_17 : decode (q_code 28) 17 = .ok (.aload_n 0, 1) := by decide +kernel
theorem x_28_18 : decode (q_code 28) 18 = .ok (.getfield 18, 3) := by decide +kernel
theorem x_28_21 : decode (q_code 28) 21 = .ok (.getfield 151, 3) := by decide +kernel
theorem x_28_24 : decode (q_code 28) 24 = .ok (.iload_n 1, 1) := by decide +kernel
theorem x_28_25 : decode (q_code 28) 25 = .ok (.iaload, 1) := by decide +kernel
theorem x_28_26 : decode (q_code 28) 26 = .ok (.isub, 1) := by decide +kernel
theorem x_28_27 : decode (q_code 28) 27 = .ok (.bipush 7, 2) := by decide +kernel
theorem x_28_29 : decode (q_code 28) 29 = .ok (.iadd, 1) := by decide +kernel
theorem x_28_30 : decode (q_code 28) 30 = .ok (.invokevirtual 183, 3) := by decide +kernel
theorem x_28_33 : decode (q_code 28) 33 = .ok (.ifCond .eq 52, 3) := by decide +kernel
theorem x_28_36 : decode (q_code 28) 36 = .ok (.aload_n 0, 1) := by decide +kernel
theorem x_28_37 : decode (q_code 28) 37 = .ok (.getfield 32, 3) := by decide +kernel
theorem x_28_40 : decode (q_code 28) 40 = .ok (.iconst 3, 1) := by decide +kernel
theorem x_28_41 : decode (q_code 28) 41 = .ok (.aload_n 0, 1) := by decide +kernel
theorem x_28_42 : decode (q_code 28) 42 = .ok (.getfield 18, 3) := by decide +kernel
theorem x_28_45 : decode (q_code 28) 45 = .ok (.getfield 150, 3) := by decide +kernel
theorem x_28_48 : decode (q_code 28) 48 = .ok (.aload_n 0, 1) := by decide +kernel
theorem x_28_49 : decode (q_code 28) 49 = .ok (.getfield 18, 3) := by decide +kernel
theorem x_28_52 : decode (q_code 28) 52 = .ok (.getfield 151, 3) := by decide +kernel
theorem x_28_55 : decode (q_code 28) 55 = .ok (.iload_n 1, 1) := by decide +kernel
theorem x_28_56 : decode (q_code 28) 56 = .ok (.iaload, 1) := by decide +kernel
theorem x_28_57 : decode (q_code 28) 57 = .ok (.aload_n 0, 1) := by decide +kernel
theorem x_28_58 : decode (q_code 28) 58 = .ok (.getfield 18, 3) := by decide +kernel
theorem x_28_61 : decode (q_code 28) 61 = .ok (.getfield 154, 3) := by decide +kernel
theorem x_28_64 : decode (q_code 28) 64 = .ok (.iload_n 1, 1) := by decide +kernel
theorem x_28_65 : decode (q_code 28) 65 = .ok (.iaload, 1) := by decide +kernel
theorem x_28_66 : decode (q_code 28) 66 = .ok (.invokevirtual 187, 3) := by decide +kernel
theorem x_28_69 : decode (q_code 28) 69 = .ok (.aload_n 0, 1) := by decide +kernel
theorem x_28_70 : decode (q_code 28) 70 = .ok (.getfield 32, 3) := by decide +kernel
theorem x_28_73 : decode (q_code 28) 73 = .ok (.iconst 5, 1) := by decide +kernel
theorem x_28_74 : decode (q_code 28) 74 = .ok (.invokevirtual 191, 3) := by decide +kernel
theorem x_28_77 : decode (q_code 28) 77 = .ok (.aload_n 0, 1) := by decide +kernel
theorem x_28_78 : decode (q_code 28) 78 = .ok (.getfield 32, 3) := by decide +kernel
theorem x_28_81 : decode (q_code 28) 81 = .ok (.iconst 0, 1) := by decide +kernel
theorem x_28_82 : decode (q_code 28) 82 = .ok (.invokevirtual 194, 3) := by decide +kernel
theorem x_28_85 : decode (q_code 28) 85 = .ok (.iload_n 2, 1) := by decide +kernel
theorem x_28_86 : decode (q_code 28) 86 = .ok (.ireturn, 1) := by decide +kernel
theorem x_29_0 : decode (q_code 29) 0 = .ok (.aload_n 0, 1) := by decide +kernel
theorem x_29_1 : decode (q_code 29) 1 = .ok (.getfield 9, 3) := by decide +kernel
theorem x_29_4 : decode (q_code 29) 4 = .ok (.iload_n 2, 1) := by decide +kernel
theorem x_29_5 : decode (q_code 29) 5 = .ok (.invokestatic 65, 3) := by decide +kernel
theorem x_29_8 : decode (q_code 29) 8 = .ok (.istore 4, 2) := by decide +kernel
theorem x_29_10 : decode (q_code 29) 10 = .ok (.aload_n 0, 1) := by decide +kernel
theorem x_29_11 : decode (q_code 29) 11 = .ok (.getfield 18, 3) := by decide +kernel
theorem x_29_14 : decode (q_code 29) 14 = .ok (.getfield 154, 3) := by decide +kernel
theorem x_29_17 : decode (q_code 29) 17 = .ok (.iload_n 3, 1) := by decide +kernel
theorem x_29_18 : decode (q_code 29) 18 = .ok (.iaload, 1) := by decide +kernel
theorem x_29_19 : decode (q_code 29) 19 = .ok (.aload_n 0, 1) := by decide +kernel
theorem x_29_20 : decode (q_code 29) 20 = .ok (.getfield 18, 3) := by decide +kernel
theorem x_29_23 : decode (q_code 29) 23 = .ok (.getfield 151, 3) := by decide +kernel
theorem x_29_26 : decode (q_code 29) 26 = .ok (.iload_n 3, 1) := by decide +kernel
theorem x_29_27 : decode (q_code 29) 27 = .ok (.iaload, 1) := by decide +kernel
theorem x_29_28 : decode (q_code 29) 28 = .ok (.isub, 1) := by decide +kernel
theorem x_29_29 : decode (q_code 29) 29 = .ok (.istore 5, 2) := by decide +kernel
theorem x_29_31 : decode (q_code 29) 31 = .ok (.aload_n 0, 1) := by decide +kernel
theorem x_29_32 : decode (q_code 29) 32 = .ok (.getfield 9, 3) := by decide +kernel
theorem x_29_35 : decode (q_code 29) 35 = .ok (.iload_n 2, 1) := by decide +kernel
theorem x_29_36 : decode (q_code 29) 36 = .ok (.invokestatic 85, 3) := by decide +kernel
theorem x_29_39 : decode (q_code 29) 39 = .ok (.aload_n 0, 1) := by decide +kernel
theorem x_29_40 : decode (q_code 29) 40 = .ok (.getfield 9, 3) := by decide +kernel
theorem x_29_43 : decode (q_code 29) 43 = .ok (.iload_n 2, 1) := by decide +kernel
theorem x_29_44 : decode (q_code 29) 44 = .ok (.invokestatic 91, 3) := by decide +kernel
theorem x_29_47 : decode (q_code 29) 47 = .ok (.isub, 1) := by decide +kernel
theorem x_29_48 : decode (q_code 29) 48 = .ok (.istore 6, 2) := by decide +kernel
theorem x_29_50 : decode (q_code 29) 50 = .ok (.iload_n 1, 1) := by decide +kernel
theorem x_29_51 : decode (q_code 29) 51 = .ok (.iconst 4, 1) := by decide +kernel
theorem x_29_52 : decode (q_code 29) 52 = .ok (.if_icmp .eq 9, 3) := by decide +kernel
theorem x_29_55 : decode (q_code 29) 55 = .ok (.iload_n 1, 1) := by decide +kernel
theorem x_29_56 : decode (q_code 29) 56 = .ok (.bipush 6, 2) := by decide +kernel
theorem x_29_58 : decode (q_code 29) 58 = .ok (.if_icmp .ne 7, 3) := by decide +kernel
theorem x_29_61 : decode (q_code 29) 61 = .ok (.iconst 1, 1) := by decide +kernel
theorem x_29_62 : decode (q_code 29) 62 = .ok (.goto 4, 3) := by decide +kernel
theorem x_29_65 : decode (q_code 29) 65 = .ok (.iconst 0, 1) := by decide +kernel
theorem x_29_66 : decode (q_code 29) 66 = .ok (.istore 7, 2) := by decide +kernel
theorem x_29_68 : decode (q_code 29) 68 = .ok (.aload_n 0, 1) := by decide +kernel
theorem x_29_69 : decode (q_code 29) 69 = .ok (.aload_n 0, 1) := by decide +kernel
theorem x_29_70 : decode (q_code 29) 70 = .ok (.invokevirtual 179, 3) := by decide +kernel
theorem x_29_73 : decode (q_code 29) 73 = .ok (.iconst 0, 1) := by decide +kernel
theorem x_29_74 : decode (q_code 29) 74 = .ok (.iload 5, 2) := by decide +kernel
theorem x_29_76 : decode (q_code 29) 76 = .ok (.iconst 2, 1) := by decide +kernel
theorem x_29_77 : decode (q_code 29) 77 = .ok (.iadd, 1) := by decide +kernel
theorem x_29_78 : decode (q_code 29) 78 = .ok (.iload 6, 2) := by decide +kernel
theorem x_29_80 : decode (q_code 29) 80 = .ok (.iadd, 1) := by decide +kernel
theorem x_29_81 : decode (q_code 29) 81 = .ok (.iload 7, 2) := by decide +kernel
theorem x_29_83 : decode (q_code 29) 83 = .ok (.ifCond .eq 8, 3) := by decide +kernel
theorem x_29_86 : decode (q_code 29) 86 = .ok (.bipush 8, 2) := by decide +kernel
theorem x_29_88 : decode (q_code 29) 88 = .ok (.goto 4, 3) := by decide +kernel
theorem x_29_91 : decode (q_code 29) 91 = .ok (.iconst 0, 1) := by decide +kernel
theorem x_29_92 : decode (q_code 29) 92 = .ok (.iadd, 1) := by decide +kernel
theorem x_29_93 : decode (q_code 29) 93 = .ok (.invokevirtual 183, 3) := by decide +kernel
theorem x_29_96 : decode (q_code 29) 96 = .ok (.ifCond .ne 6, 3) := by decide +kernel
theorem x_29_99 : decode (q_code 29) 99 = .ok (.bipush 9, 2) := by decide +kernel
theorem x_29_101 : decode (q_code 29) 101 = .ok (.ireturn, 1) := by decide +kernel
theorem x_29_102 : decode (q_code 29) 102 = .ok (.aload_n 0, 1) := by decide +kernel
theorem x_29_103 : decode (q_code 29) 103 = .ok (.getfield 32, 3) := by decide +kernel
theorem x_29_106 : decode (q_code 29) 106 = .ok (.iload 7, 2) := by decide +kernel
theorem x_29_108 : decode (q_code 29) 108 = .ok (.ifCond .eq 7, 3) := by decide +kernel
theorem x_29_111 : decode (q_code 29) 111 = .ok (.iconst 4, 1) := by decide +kernel
theorem x_29_112 : decode (q_code 29) 112 = .ok (.goto 5, 3) := by decide +kernel
theorem x_29_115 : decode (q_code 29) 115 = .ok (.iload 4, 2) := by decide +kernel
theorem x_29_117 : decode (q_code 29) 117 = .ok (.aload_n 0, 1) := by decide +kernel
theorem x_29_118 : decode (q_code 29) 118 = .ok (.getfield 18, 3) := by decide +kernel
theorem x_29_121 : decode (q_code 29) 121 = .ok (.getfield 150, 3) := by decide +kernel
theorem x_29_124 : decode (q_code 29) 124 = .ok (.aload_n 0, 1) := by decide +kernel
theorem x_29_125 : decode (q_code 29) 125 = .ok (.getfield 18, 3) := by decide +kernel
theorem x_29_128 : decode (q_code 29) 128 = .ok (.getfield 151, 3) := by decide +kernel
theorem x_29_131 : decode (q_code 29) 131 = .ok (.iload_n 3, 1) := by decide +kernel
theorem x_29_132 : decode (q_code 29) 132 = .ok (.iaload, 1) := by decide +kernel
theorem x_29_133 : decode (q_code 29) 133 = .ok (.aload_n 0, 1) := by decide +kernel
theorem x_29_134 : decode (q_code 29) 134 = .ok (.getfield 18, 3) := by decide +kernel
theorem x_29_137 : decode (q_code 29) 137 = .ok (.getfield 154, 3) := by decide +kernel
theorem x_29_140 : decode (q_code 29) 140 = .ok (.iload_n 3, 1) := by decide +kernel
theorem x_29_141 : decode (q_code 29) 141 = .ok (.iaload, 1) := by decide +kernel
theorem x_29_142 : decode (q_code 29) 142 = .ok (.invokevirtual 187, 3) := by decide +kernel
theorem x_29_145 : decode (q_code 29) 145 = .ok (.iload 7, 2) := by decide +kernel
theorem x_29_147 : decode (q_code 29) 147 = .ok (.ifCond .eq 46, 3) := by decide +kernel
theorem x_29_150 : decode (q_code 29) 150 = .ok (.aload_n 0, 1) := by decide +kernel
theorem x_29_151 : decode (q_code 29) 151 = .ok (.getfield 32, 3) := by decide +kernel
theorem x_29_154 : decode (q_code 29) 154 = .ok (.invokevirtual 197, 3) := by decide +kernel
theorem x_29_157 : decode (q_code 29) 157 = .ok (.istore 8, 2) := by decide +kernel
theorem x_29_159 : decode (q_code 29) 159 = .ok (.aload_n 0, 1) := by decide +kernel
theorem x_29_160 : decode (q_code 29) 160 = .ok (.getfield 32, 3) := by decide +kernel
theorem x_29_163 : decode (q_code 29) 163 = .ok (.iload 4, 2) := by decide +kernel
theorem x_29_165 : decode (q_code 29) 165 = .ok (.iconst 0, 1) := by decide +kernel
theorem x_29_166 : decode (q_code 29) 166 = .ok (.invokevirtual 200, 3) := by decide +kernel
theorem x_29_169 : decode (q_code 29) 169 = .ok (.aload_n 0, 1) := by decide +kernel
theorem x_29_170 : decode (q_code 29) 170 = .ok (.getfield 32, 3) := by decide +kernel
theorem x_29_173 : decode (q_code 29) 173 = .ok (.aload_n 0, 1) := by decide +kernel
theorem x_29_174 : decode (q_code 29) 174 = .ok (.getfield 9, 3) := by decide +kernel
theorem x_29_177 : decode (q_code 29) 177 = .ok (.iload_n 2, 1) := by decide +kernel
theorem x_29_178 : decode (q_code 29) 178 = .ok (.invokevirtual 203, 3) := by decide +kernel
theorem x_29_181 : decode (q_code 29) 181 = .ok (.aload_n 0, 1) := by decide +kernel
theorem x_29_182 : decode (q_code 29) 182 = .ok (.getfield 32, 3) := by decide +kernel
theorem x_29_185 : decode (q_code 29) 185 = .ok (.iload 8, 2) := by decide +kernel
theorem x_29_187 : decode (q_code 29) 187 = .ok (.invokevirtual 207, 3) := by decide +kernel
theorem x_29_190 : decode (q_code 29) 190 = .ok (.goto 15, 3) := by decide +kernel
theorem x_29_193 : decode (q_code 29) 193 = .ok (.aload_n 0, 1) := by decide +kernel
theorem x_29_194 : decode (q_code 29) 194 = .ok (.getfield 32, 3) := by decide +kernel
theorem x_29_197 : decode (q_code 29) 197 = .ok (.aload_n 0, 1) := by decide +kernel
theorem x_29_198 : decode (q_code 29) 198 = .ok (.getfield 9, 3) := by decide +kernel
theorem x_29_201 : decode (q_code 29) 201 = .ok (.iload_n 2, 1) := by decide +kernel
theorem x_29_202 : decode (q_code 29) 202 = .ok (.invokevirtual 203, 3) := by decide +kernel
theorem x_29_205 : decode (q_code 29) 205 = .ok (.iconst 0, 1) := by decide +kernel
theorem x_29_206 : decode (q_code 29) 206 = .ok (.ireturn, 1) := by decide +kernel
theorem x_30_0 : decode (q_code 30) 0 = .ok (.iload_n 1, 1) := by decide +kernel
theorem x_30_1 : decode (q_code 30) 1 = .ok (.iconst 1, 1) := by decide +kernel
theorem x_30_2 : decode (q_code 30) 2 = .ok (.if_icmp .ne 10, 3) := by decide +kernel
theorem x_30_5 : decode (q_code 30) 5 = .ok (.aload_n 0, 1) := by decide +kernel
theorem x_30_6 : decode (q_code 30) 6 = .ok (.iload_n 2, 1) := by decide +kernel
theorem x_30_7 : decode (q_code 30) 7 = .ok (.iload_n 3, 1) := by decide +kernel
theorem x_30_8 : decode (q_code 30) 8 = .ok (.invokevirtual 210, 3) := by decide +kernel
theorem x_30_11 : decode (q_code 30) 11 = .ok (.ireturn, 1) := by decide +kernel
theorem x_30_12 : decode (q_code 30) 12 = .ok (.iload_n 1, 1) := by decide +kernel
theorem x_30_13 : decode (q_code 30) 13 = .ok (.iconst 3, 1) := by decide +kernel
theorem x_30_14 : decode (q_code 30) 14 = .ok (.if_icmp .ne 26, 3) := by decide +kernel
theorem x_30_17 : decode (q_code 30) 17 = .ok (.aload_n 0, 1) := by decide +kernel
theorem x_30_18 : decode (q_code 30) 18 = .ok (.getfield 9, 3) := by decide +kernel
theorem x_30_21 : decode (q_code 30) 21 = .ok (.iload_n 3, 1) := by decide +kernel
theorem x_30_22 : decode (q_code 30) 22 = .ok (.invokestatic 79, 3) := by decide +kernel
theorem x_30_25 : decode (q_code 30) 25 = .ok (.ifCond .eq 12, 3) := by decide +kernel
theorem x_30_28 : decode (q_code 30) 28 = .ok (.aload_n 0, 1) := by decide +kernel
theorem x_30_29 : decode (q_code 30) 29 = .ok (.iload_n 2, 1) := by decide +kernel
theorem x_30_30 : decode (q_code 30) 30 = .ok (.iload_n 3, 1) := by decide +kernel
theorem x_30_31 : decode (q_code 30) 31 = .ok (.invokevirtual 213, 3) := by decide +kernel
theorem x_30_34 : decode (q_code 30) 34 = .ok (.goto 5, 3) := by decide +kernel
theorem x_30_37 : decode (q_code 30) 37 = .ok (.bipush 7, 2) := by decide +kernel
theorem x_30_39 : decode (q_code 30) 39 = .ok (.ireturn, 1) := by decide +kernel
theorem x_30_40 : decode (q_code 30) 40 = .ok (.aload_n 0, 1) := by decide +kernel
theorem x_30_41 : decode (q_code 30) 41 = .ok (.getfield 9, 3) := by decide +kernel
theorem x_30_44 : decode (q_code 30) 44 = .ok (.iload_n 3, 1) := by decide +kernel
theorem x_30_45 : decode (q_code 30) 45 = .ok (.invokestatic 65, 3) := by decide +kernel
theorem x_30_48 : decode (q_code 30) 48 = .ok (.iconst 4, 1) := by decide +kernel
theorem x_30_49 : decode (q_code 30) 49 = .ok (.if_icmp .eq 6, 3) := by decide +kernel
theorem x_30_52 : decode (q_code 30) 52 = .ok (.bipush 7, 2) := by decide +kernel
theorem x_30_54 : decode (q_code 30) 54 = .ok (.ireturn, 1) := by decide +kernel
theorem x_30_55 : decode (q_code 30) 55 = .ok (.iconst 0, 1) := by decide +kernel
theorem x_30_56 : decode (q_code 30) 56 = .ok (.istore 4, 2) := by decide +kernel
theorem x_30_58 : decode (q_code 30) 58 = .ok (.aload_n 0, 1) := by decide +kernel
theorem x_30_59 : decode (q_code 30) 59 = .ok (.getfield 9, 3) := by decide +kernel
theorem x_30_62 : decode (q_code 30) 62 = .ok (.iload_n 3, 1) := by decide +kernel
theorem x_30_63 : decode (q_code 30) 63 = .ok (.invokestatic 61, 3) := by decide +kernel
theorem x_30_66 : decode (q_code 30) 66 = .ok (.istore 5, 2) := by decide +kernel
theorem x_30_68 : decode (q_code 30) 68 = .ok (.iconst 0, 1) := by decide +kernel
theorem x_30_69 : decode (q_code 30) 69 = .ok (.istore 6, 2) := by decide +kernel
theorem x_30_71 : decode (q_code 30) 71 = .ok (.iload 6, 2) := by decide +kernel
theorem x_30_73 : decode (q_code 30) 73 = .ok (.ldc 216, 2) := by decide +kernel
theorem x_30_75 : decode (q_code 30) 75 = .ok (.if_icmp .ge 61, 3) := by decide +kernel
theorem x_30_78 : decode (q_code 30) 78 = .ok (.aload_n 0, 1) := by decide +kernel
theorem x_30_79 : decode (q_code 30) 79 = .ok (.getfield 9, 3) := by decide +kernel
theorem x_30_82 : decode (q_code 30) 82 = .ok (.iload 5, 2) := by decide +kernel
theorem x_30_84 : decode (q_code 30) 84 = .ok (.invokestatic 65, 3) := by decide +kernel
theorem x_30_87 : decode (q_code 30) 87 = .ok (.ifCond .eq 49, 3) := by decide +kernel
theorem x_30_90 : decode (q_code 30) 90 = .ok (.iload_n 1, 1) := by decide +kernel
theorem x_30_91 : decode (q_code 30) 91 = .ok (.bipush 6, 2) := by decide +kernel
theorem x_30_93 : decode (q_code 30) 93 = .ok (.if_icmp .ne 23, 3) := by decide +kernel
theorem x_30_96 : decode (q_code 30) 96 = .ok (.aload_n 0, 1) := by decide +kernel
theorem x_30_97 : decode (q_code 30) 97 = .ok (.getfield 9, 3) := by decide +kernel
theorem x_30_100 : decode (q_code 30) 100 = .ok (.iload 5, 2) := by decide +kernel
theorem x_30_102 : decode (q_code 30) 102 = .ok (.aload_n 0, 1) := by decide +kernel
theorem x_30_103 : decode (q_code 30) 103 = .ok (.getfield 9, 3) := by decide +kernel
theorem x_30_106 : decode (q_code 30) 106 = .ok (.iload_n 2, 1) := by decide +kernel
theorem x_30_107 : decode (q_code 30) 107 = .ok (.iconst 0, 1) := by decide +kernel
theorem x_30_108 : decode (q_code 30) 108 = .ok (.invokestatic 217, 3) := by decide +kernel
theorem x_30_111 : decode (q_code 30) 111 = .ok (.ifCond .ne 5, 3) := by decide +kernel
theorem x_30_114 : decode (q_code 30) 114 = .ok (.iconst 0, 1) := by decide +kernel
theorem x_30_115 : decode (q_code 30) 115 = .ok (.ireturn, 1) := by decide +kernel
theorem x_30_116 : decode (q_code 30) 116 = .ok (.iinc 4 1, 3) := by decide +kernel
theorem x_30_119 : decode (q_code 30) 119 = .ok (.aload_n 0, 1) := by decide +kernel
theorem x_30_120 : decode (q_code 30) 120 = .ok (.getfield 9, 3) := by decide +kernel
theorem x_30_123 : decode (q_code 30) 123 = .ok (.iload 5, 2) := by decide +kernel
theorem x_30_125 : decode (q_code 30) 125 = .ok (.invokestatic 85, 3) := by decide +kernel
theorem x_30_128 : decode (q_code 30) 128 = .ok (.istore 5, 2) := by decide +kernel
theorem x_30_130 : decode (q_code 30) 130 = .ok (.iinc 6 1, 3) := by decide +kernel
theorem x_30_133 : decode (q_code 30) 133 = .ok (.goto (-62), 3) := by decide +kernel
theorem x_30_136 : decode (q_code 30) 136 = .ok (.aload_n 0, 1) := by decide +kernel
theorem x_30_137 : decode (q_code 30) 137 = .ok (.iload_n 3, 1) := by decide +kernel
theorem x_30_138 : decode (q_code 30) 138 = .ok (.invokevirtual 146, 3) := by decide +kernel
theorem x_30_141 : decode (q_code 30) 141 = .ok (.aload_n 0, 1) := by decide +kernel
theorem x_30_142 : decode (q_code 30) 142 = .ok (.getfield 9, 3) := by decide +kernel
theorem x_30_145 : decode (q_code 30) 145 = .ok (.iload_n 2, 1) := by decide +kernel
theorem x_30_146 : decode (q_code 30) 146 = .ok (.invokestatic 85, 3) := by decide +kernel
theorem x_30_149 : decode (q_code 30) 149 = .ok (.aload_n 0, 1) := by decide +kernel
theorem x_30_150 : decode (q_code 30) 150 = .ok (.getfield 9, 3) := by decide +kernel
theorem x_30_153 : decode (q_code 30) 153 = .ok (.iload_n 2, 1) := by decide +kernel
theorem x_30_154 : decode (q_code 30) 154 = .ok (.invokestatic 91, 3) := by decide +kernel
theorem x_30_157 : decode (q_code 30) 157 = .ok (.isub, 1) := by decide +kernel
theorem x_30_158 : decode (q_code 30) 158 = .ok (.istore 6, 2) := by decide +kernel
theorem x_30_160 : decode (q_code 30) 160 = .ok (.aload_n 0, 1) := by decide +kernel
theorem x_30_161 : decode (q_code 30) 161 = .ok (.iload 5, 2) := by decide +kernel
theorem x_30_163 : decode (q_code 30) 163 = .ok (.iconst 0, 1) := by decide +kernel
theorem x_30_164 : decode (q_code 30) 164 = .ok (.iload 4, 2) := by decide +kernel
theorem x_30_166 : decode (q_code 30) 166 = .ok (.invokestatic 220, 3) := by decide +kernel
theorem x_30_169 : decode (q_code 30) 169 = .ok (.iconst 2, 1) := by decide +kernel
theorem x_30_170 : decode (q_code 30) 170 = .ok (.iadd, 1) := by decide +kernel
theorem x_30_171 : decode (q_code 30) 171 = .ok (.iload 6, 2) := by decide +kernel
theorem x_30_173 : decode (q_code 30) 173 = .ok (.iadd, 1) := by decide +kernel
theorem x_30_174 : decode (q_code 30) 174 = .ok (.invokevirtual 183, 3) := by decide +kernel
theorem x_30_177 : decode (q_code 30) 177 = .ok (.ifCond .ne 6, 3) := by decide +kernel
theorem x_30_180 : decode (q_code 30) 180 = .ok (.bipush 9, 2) := by decide +kernel
theorem x_30_182 : decode (q_code 30) 182 = .ok (.ireturn, 1) := by decide +kernel
theorem x_30_183 : decode (q_code 30) 183 = .ok (.aload_n 0, 1) := by decide +kernel
theorem x_30_184 : decode (q_code 30) 184 = .ok (.getfield 32, 3) := by decide +kernel
theorem x_30_187 : decode (q_code 30) 187 = .ok (.aload_n 0, 1) := by decide +kernel
theorem x_30_188 : decode (q_code 30) 188 = .ok (.getfield 9, 3) := by decide +kernel
theorem x_30_191 : decode (q_code 30) 191 = .ok (.iload_n 2, 1) := by decide +kernel
theorem x_30_192 : decode (q_code 30) 192 = .ok (.invokestatic 65, 3) := by decide +kernel
theorem x_30_195 : decode (q_code 30) 195 = .ok (.iload 4, 2) := by decide +kernel
theorem x_30_197 : decode (q_code 30) 197 = .ok (.invokevirtual 200, 3) := by decide +kernel
theorem x_30_200 : decode (q_code 30) 200 = .ok (.aload_n 0, 1) := by decide +kernel
theorem x_30_201 : decode (q_code 30) 201 = .ok (.getfield 32, 3) := by decide +kernel
theorem x_30_204 : decode (q_code 30) 204 = .ok (.aload_n 0, 1) := by decide +kernel
theorem x_30_205 : decode (q_code 30) 205 = .ok (.getfield 9, 3) := by decide +kernel
theorem x_30_208 : decode (q_code 30) 208 = .ok (.iload_n 2, 1) := by decide +kernel
theorem x_30_209 : decode (q_code 30) 209 = .ok (.invokevirtual 203, 3) := by decide +kernel
theorem x_30_212 : decode (q_code 30) 212 = .ok (.iconst 0, 1) := by decide +kernel
theorem x_30_213 : decode (q_code 30) 213 = .ok (.ireturn, 1) := by decide +kernel
theorem x_31_0 : decode (q_code 31) 0 = .ok (.iload_n 0, 1) := by decide +kernel
theorem x_31_1 : decode (q_code 31) 1 = .ok (.bipush 10, 2) := by decide +kernel
theorem x_31_3 : decode (q_code 31) 3 = .ok (.if_icmp .ge 7, 3) := by decide +kernel
theorem x_31_6 : decode (q_code 31) 6 = .ok (.iconst 1, 1) := by decide +kernel
theorem x_31_7 : decode (q_code 31) 7 = .ok (.goto 36, 3) := by decide +kernel
theorem x_31_10 : decode (q_code 31) 10 = .ok (.iload_n 0, 1) := by decide +kernel
theorem x_31_11 : decode (q_code 31) 11 = .ok (.bipush 100, 2) := by decide +kernel
theorem x_31_13 : decode (q_code 31) 13 = .ok (.if_icmp .ge 7, 3) := by decide +kernel
theorem x_31_16 : decode (q_code 31) 16 = .ok (.iconst 2, 1) := by decide +kernel
theorem x_31_17 : decode (q_code 31) 17 = .ok (.goto 26, 3) := by decide +kernel
theorem x_31_20 : decode (q_code 31) 20 = .ok (.iload_n 0, 1) := by decide +kernel
theorem x_31_21 : decode (q_code 31) 21 = .ok (.sipush 1000, 3) := by decide +kernel
theorem x_31_24 : decode (q_code 31) 24 = .ok (.if_icmp .ge 7, 3) := by decide +kernel
theorem x_31_27 : decode (q_code 31) 27 = .ok (.iconst 3, 1) := by decide +kernel
theorem x_31_28 : decode (q_code 31) 28 = .ok (.goto 15, 3) := by decide +kernel
theorem x_31_31 : decode (q_code 31) 31 = .ok (.iload_n 0, 1) := by decide +kernel
theorem x_31_32 : decode (q_code 31) 32 = .ok (.sipush 10000, 3) := by decide +kernel
theorem x_31_35 : decode (q_code 31) 35 = .ok (.if_icmp .ge 7, 3) := by decide +kernel
theorem x_31_38 : decode (q_code 31) 38 = .ok (.iconst 4, 1) := by decide +kernel
theorem x_31_39 : decode (q_code 31) 39 = .ok (.goto 4, 3) := by decide +kernel
theorem x_31_42 : decode (q_code 31) 42 = .ok (.iconst 5, 1) := by decide +kernel
theorem x_31_43 : decode (q_code 31) 43 = .ok (.ireturn, 1) := by decide +kernel
theorem x_32_0 : decode (q_code 32) 0 = .ok (.aload_n 0, 1) := by decide +kernel
theorem x_32_1 : decode (q_code 32) 1 = .ok (.getfield 9, 3) := by decide +kernel
theorem x_32_4 : decode (q_code 32) 4 = .ok (.iload_n 1, 1) := by decide +kernel
theorem x_32_5 : decode (q_code 32) 5 = .ok (.invokestatic 91, 3) := by decide +kernel
theorem x_32_8 : decode (q_code 32) 8 = .ok (.istore_n 3, 1) := by decide +kernel
theorem x_32_9 : decode (q_code 32) 9 = .ok (.aload_n 0, 1) := by decide +kernel
theorem x_32_10 : decode (q_code 32) 10 = .ok (.getfield 9, 3) := by decide +kernel
theorem x_32_13 : decode (q_code 32) 13 = .ok (.iload_n 1, 1) := by decide +kernel
theorem x_32_14 : decode (q_code 32) 14 = .ok (.invokestatic 85, 3) := by decide +kernel
theorem x_32_17 : decode (q_code 32) 17 = .ok (.istore 4, 2) := by decide +kernel
theorem x_32_19 : decode (q_code 32) 19 = .ok (.aload_n 0, 1) := by decide +kernel
theorem x_32_20 : decode (q_code 32) 20 = .ok (.getfield 9, 3) := by decide +kernel
theorem x_32_23 : decode (q_code 32) 23 = .ok (.iload_n 2, 1) := by decide +kernel
theorem x_32_24 : decode (q_code 32) 24 = .ok (.invokestatic 91, 3) := by decide +kernel
theorem x_32_27 : decode (q_code 32) 27 = .ok (.istore 5, 2) := by decide +kernel
theorem x_32_29 : decode (q_code 32) 29 = .ok (.aload_n 0, 1) := by decide +kernel
theorem x_32_30 : decode (q_code 32) 30 = .ok (.getfield 9, 3) := by decide +kernel
theorem x_32_33 : decode (q_code 32) 33 = .ok (.iload_n 2, 1) := by decide +kernel
theorem x_32_34 : decode (q_code 32) 34 = .ok (.invokestatic 85, 3) := by decide +kernel
theorem x_32_37 : decode (q_code 32) 37 = .ok (.istore 6, 2) := by decide +kernel
theorem x_32_39 : decode (q_code 32) 39 = .ok (.aload_n 0, 1) := by decide +kernel
theorem x_32_40 : decode (q_code 32) 40 = .ok (.getfield 9, 3) := by decide +kernel
theorem x_32_43 : decode (q_code 32) 43 = .ok (.iload_n 1, 1) := by decide +kernel
theorem x_32_44 : decode (q_code 32) 44 = .ok (.baload, 1) := by decide +kernel
theorem x_32_45 : decode (q_code 32) 45 = .ok (.aload_n 0, 1) := by decide +kernel
theorem x_32_46 : decode (q_code 32) 46 = .ok (.getfield 9, 3) := by decide +kernel
theorem x_32_49 : decode (q_code 32) 49 = .ok (.iload_n 2, 1) := by decide +kernel
theorem x_32_50 : decode (q_code 32) 50 = .ok (.baload, 1) := by decide +kernel
theorem x_32_51 : decode (q_code 32) 51 = .ok (.if_icmp .ne 26, 3) := by decide +kernel
theorem x_32_54 : decode (q_code 32) 54 = .ok (.aload_n 0, 1) := by decide +kernel
theorem x_32_55 : decode (q_code 32) 55 = .ok (.getfield 9, 3) := by decide +kernel
theorem x_32_58 : decode (q_code 32) 58 = .ok (.iload_n 3, 1) := by decide +kernel
theorem x_32_59 : decode (q_code 32) 59 = .ok (.iload 4, 2) := by decide +kernel
theorem x_32_61 : decode (q_code 32) 61 = .ok (.aload_n 0, 1) := by decide +kernel
theorem x_32_62 : decode (q_code 32) 62 = .ok (.getfield 9, 3) := by decide +kernel
theorem x_32_65 : decode (q_code 32) 65 = .ok (.iload 5, 2) := by decide +kernel
theorem x_32_67 : decode (q_code 32) 67 = .ok (.iload 6, 2) := by decide +kernel
theorem x_32_69 : decode (q_code 32) 69 = .ok (.invokestatic 100, 3) := by decide +kernel
theorem x_32_72 : decode (q_code 32) 72 = .ok (.ifCond .ne 5, 3) := by decide +kernel
theorem x_32_75 : decode (q_code 32) 75 = .ok (.iconst 0, 1) := by decide +kernel
theorem x_32_76 : decode (q_code 32) 76 = .ok (.ireturn, 1) := by decide +kernel
theorem x_32_77 : decode (q_code 32) 77 = .ok (.aload_n 0, 1) := by decide +kernel
theorem x_32_78 : decode (q_code 32) 78 = .ok (.iload 5, 2) := by decide +kernel
theorem x_32_80 : decode (q_code 32) 80 = .ok (.iload 6, 2) := by decide +kernel
theorem x_32_82 : decode (q_code 32) 82 = .ok (.iload 5, 2) := by decide +kernel
theorem x_32_84 : decode (q_code 32) 84 = .ok (.isub, 1) := by decide +kernel
theorem x_32_85 : decode (q_code 32) 85 = .ok (.iload 4, 2) := by decide +kernel
theorem x_32_87 : decode (q_code 32) 87 = .ok (.iload_n 3, 1) := by decide +kernel
theorem x_32_88 : decode (q_code 32) 88 = .ok (.isub, 1) := by decide +kernel
theorem x_32_89 : decode (q_code 32) 89 = .ok (.invokevirtual 183, 3) := by decide +kernel
theorem x_32_92 : decode (q_code 32) 92 = .ok (.ifCond .ne 6, 3) := by decide +kernel
theorem x_32_95 : decode (q_code 32) 95 = .ok (.bipush 9, 2) := by decide +kernel
theorem x_32_97 : decode (q_code 32) 97 = .ok (.ireturn, 1) := by decide +kernel
theorem x_32_98 : decode (q_code 32) 98 = .ok (.aload_n 0, 1) := by decide +kernel
theorem x_32_99 : decode (q_code 32) 99 = .ok (.getfield 32, 3) := by decide +kernel
theorem x_32_102 : decode (q_code 32) 102 = .ok (.aload_n 0, 1) := by decide +kernel
theorem x_32_103 : decode (q_code 32) 103 = .ok (.getfield 9, 3) := by decide +kernel
theorem x_32_106 : decode (q_code 32) 106 = .ok (.iload_n 1, 1) := by decide +kernel
theorem x_32_107 : decode (q_code 32) 107 = .ok (.invokevirtual 203, 3) := by decide +kernel
theorem x_32_110 : decode (q_code 32) 110 = .ok (.aload_n 0, 1) := by decide +kernel
theorem x_32_111 : decode (q_code 32) 111 = .ok (.getfield 9, 3) := by decide +kernel
theorem x_32_114 : decode (q_code 32) 114 = .ok (.iload_n 2, 1) := by decide +kernel
theorem x_32_115 : decode (q_code 32) 115 = .ok (.aload_n 0, 1) := by decide +kernel
theorem x_32_116 : decode (q_code 32) 116 = .ok (.getfield 9, 3) := by decide +kernel
theorem x_32_119 : decode (q_code 32) 119 = .ok (.iload_n 1, 1) := by decide +kernel
theorem x_32_120 : decode (q_code 32) 120 = .ok (.baload, 1) := by decide +kernel
theorem x_32_121 : decode (q_code 32) 121 = .ok (.bastore, 1) := by decide +kernel
theorem x_32_122 : decode (q_code 32) 122 = .ok (.iconst 0, 1) := by decide +kernel
theorem x_32_123 : decode (q_code 32) 123 = .ok (.ireturn, 1) := by decide +kernel
theorem x_33_0 : decode (q_code 33) 0 = .ok (.aload_n 0, 1) := by decide +kernel
theorem x_33_1 : decode (q_code 33) 1 = .ok (.getfield 9, 3) := by decide +kernel
theorem x_33_4 : decode (q_code 33) 4 = .ok (.iload_n 2, 1) := by decide +kernel
theorem x_33_5 : decode (q_code 33) 5 = .ok (.invokestatic 223, 3) := by decide +kernel
theorem x_33_8 : decode (q_code 33) 8 = .ok (.lstore_n 3, 1) := by decide +kernel
theorem x_33_9 : decode (q_code 33) 9 = .ok (.aload_n 0, 1) := by decide +kernel
theorem x_33_10 : decode (q_code 33) 10 = .ok (.getfield 9, 3) := by decide +kernel
theorem x_33_13 : decode (q_code 33) 13 = .ok (.iload_n 1, 1) := by decide +kernel
theorem x_33_14 : decode (q_code 33) 14 = .ok (.invokestatic 223, 3) := by decide +kernel
theorem x_33_17 : decode (q_code 33) 17 = .ok (.lstore 5, 2) := by decide +kernel
theorem x_33_19 : decode (q_code 33) 19 = .ok (.lload_n 3, 1) := by decide +kernel
theorem x_33_20 : decode (q_code 33) 20 = .ok (.lload 5, 2) := by decide +kernel
theorem x_33_22 : decode (q_code 33) 22 = .ok (.ladd, 1) := by decide +kernel
theorem x_33_23 : decode (q_code 33) 23 = .ok (.lstore 7, 2) := by decide +kernel
theorem x_33_25 : decode (q_code 33) 25 = .ok (.lload_n 3, 1) := by decide +kernel
theorem x_33_26 : decode (q_code 33) 26 = .ok (.lload 7, 2) := by decide +kernel
theorem x_33_28 : decode (q_code 33) 28 = .ok (.lxor, 1) := by decide +kernel
theorem x_33_29 : decode (q_code 33) 29 = .ok (.lload 5, 2) := by decide +kernel
theorem x_33_31 : decode (q_code 33) 31 = .ok (.lload 7, 2) := by decide +kernel
theorem x_33_33 : decode (q_code 33) 33 = .ok (.lxor, 1) := by decide +kernel
theorem x_33_34 : decode (q_code 33) 34 = .ok (.land, 1) := by decide +kernel
theorem x_33_35 : decode (q_code 33) 35 = .ok (.lconst 0, 1) := by decide +kernel
theorem x_33_36 : decode (q_code 33) 36 = .ok (.lcmp, 1) := by decide +kernel
theorem x_33_37 : decode (q_code 33) 37 = .ok (.ifCond .ge 6, 3) := by decide +kernel
theorem x_33_40 : decode (q_code 33) 40 = .ok (.bipush 8, 2) := by decide +kernel
theorem x_33_42 : decode (q_code 33) 42 = .ok (.ireturn, 1) := by decide +kernel
theorem x_33_43 : decode (q_code 33) 43 = .ok (.aload_n 0, 1) := by decide +kernel
theorem x_33_44 : decode (q_code 33) 44 = .ok (.getfield 9, 3) := by decide +kernel
theorem x_33_47 : decode (q_code 33) 47 = .ok (.iload_n 2, 1) := by decide +kernel
theorem x_33_48 : decode (q_code 33) 48 = .ok (.baload, 1) := by decide +kernel
theorem x_33_49 : decode (q_code 33) 49 = .ok (.bipush 16, 2) := by decide +kernel
theorem x_33_51 : decode (q_code 33) 51 = .ok (.if_icmp .ne 28, 3) := by decide +kernel
theorem x_33_54 : decode (q_code 33) 54 = .ok (.aload_n 0, 1) := by decide +kernel
theorem x_33_55 : decode (q_code 33) 55 = .ok (.getfield 9, 3) := by decide +kernel
theorem x_33_58 : decode (q_code 33) 58 = .ok (.iload_n 1, 1) := by decide +kernel
theorem x_33_59 : decode (q_code 33) 59 = .ok (.baload, 1) := by decide +kernel
theorem x_33_60 : decode (q_code 33) 60 = .ok (.bipush 16, 2) := by decide +kernel
theorem x_33_62 : decode (q_code 33) 62 = .ok (.if_icmp .ne 17, 3) := by decide +kernel
theorem x_33_65 : decode (q_code 33) 65 = .ok (.lload 7, 2) := by decide +kernel
theorem x_33_67 : decode (q_code 33) 67 = .ok (.lload 7, 2) := by decide +kernel
theorem x_33_69 : decode (q_code 33) 69 = .ok (.l2i, 1) := by decide +kernel
theorem x_33_70 : decode (q_code 33) 70 = .ok (.i2l, 1) := by decide +kernel
theorem x_33_71 : decode (q_code 33) 71 = .ok (.lcmp, 1) := by decide +kernel
theorem x_33_72 : decode (q_code 33) 72 = .ok (.ifCond .ne 7, 3) := by decide +kernel
theorem x_33_75 : decode (q_code 33) 75 = .ok (.iconst 1, 1) := by decide +kernel
theorem x_33_76 : decode (q_code 33) 76 = .ok (.goto 4, 3) := by decide +kernel
theorem x_33_79 : decode (q_code 33) 79 = .ok (.iconst 0, 1) := by decide +kernel
theorem x_33_80 : decode (q_code 33) 80 = .ok (.istore 9, 2) := by decide +kernel
theorem x_33_82 : decode (q_code 33) 82 = .ok (.iload 9, 2) := by decide +kernel
theorem x_33_84 : decode (q_code 33) 84 = .ok (.ifCond .eq 8, 3) := by decide +kernel
theorem x_33_87 : decode (q_code 33) 87 = .ok (.bipush 16, 2) := by decide +kernel
theorem x_33_89 : decode (q_code 33) 89 = .ok (.goto 5, 3) := by decide +kernel
theorem x_33_92 : decode (q_code 33) 92 = .ok (.bipush 18, 2) := by decide +kernel
theorem x_33_94 : decode (q_code 33) 94 = .ok (.istore 10, 2) := by decide +kernel
theorem x_33_96 : decode (q_code 33) 96 = .ok (.iload 10, 2) := by decide +kernel
theorem x_33_98 : decode (q_code 33) 98 = .ok (.aload_n 0, 1) := by decide +kernel
theorem x_33_99 : decode (q_code 33) 99 = .ok (.getfield 9, 3) := by decide +kernel
theorem x_33_102 : decode (q_code 33) 102 = .ok (.iload_n 2, 1) := by decide +kernel
theorem x_33_103 : decode (q_code 33) 103 = .ok (.baload, 1) := by decide +kernel
theorem x_33_104 : decode (q_code 33) 104 = .ok (.if_icmp .ne 12, 3) := by decide +kernel
theorem x_33_107 : decode (q_code 33) 107 = .ok (.lload 5, 2) := by decide +kernel
theorem x_33_109 : decode (q_code 33) 109 = .ok (.lconst 0, 1) := by decide +kernel
theorem x_33_110 : decode (q_code 33) 110 = .ok (.lcmp, 1) := by decide +kernel
theorem x_33_111 : decode (q_code 33) 111 = .ok (.ifCond .ne 5, 3) := by decide +kernel
theorem x_33_114 : decode (q_code 33) 114 = .ok (.iconst 0, 1) := by decide +kernel
theorem x_33_115 : decode (q_code 33) 115 = .ok (.ireturn, 1) := by decide +kernel
theorem x_33_116 : decode (q_code 33) 116 = .ok (.aload_n 0, 1) := by decide +kernel
theorem x_33_117 : decode (q_code 33) 117 = .ok (.aload_n 0, 1) := by decide +kernel
theorem x_33_118 : decode (q_code 33) 118 = .ok (.getfield 9, 3) := by decide +kernel
theorem x_33_121 : decode (q_code 33) 121 = .ok (.iload_n 2, 1) := by decide +kernel
theorem x_33_122 : decode (q_code 33) 122 = .ok (.invokestatic 91, 3) := by decide +kernel
theorem x_33_125 : decode (q_code 33) 125 = .ok (.aload_n 0, 1) := by decide +kernel
theorem x_33_126 : decode (q_code 33) 126 = .ok (.getfield 9, 3) := by decide +kernel
theorem x_33_129 : decode (q_code 33) 129 = .ok (.iload_n 2, 1) := by decide +kernel
theorem x_33_130 : decode (q_code 33) 130 = .ok (.baload, 1) := by decide +kernel
theorem x_33_131 : decode (q_code 33) 131 = .ok (.bipush 16, 2) := by decide +kernel
theorem x_33_133 : decode (q_code 33) 133 = .ok (.if_icmp .ne 7, 3) := by decide +kernel
theorem x_33_136 : decode (q_code 33) 136 = .ok (.iconst 4, 1) := by decide +kernel
theorem x_33_137 : decode (q_code 33) 137 = .ok (.goto 5, 3) := by decide +kernel
theorem x_33_140 : decode (q_code 33) 140 = .ok (.bipush 8, 2) := by decide +kernel
theorem x_33_142 : decode (q_code 33) 142 = .ok (.iload 9, 2) := by decide +kernel
theorem x_33_144 : decode (q_code 33) 144 = .ok (.ifCond .eq 7, 3) := by decide +kernel
theorem x_33_147 : decode (q_code 33) 147 = .ok (.iconst 4, 1) := by decide +kernel
theorem x_33_148 : decode (q_code 33) 148 = .ok (.goto 5, 3) := by decide +kernel
theorem x_33_151 : decode (q_code 33) 151 = .ok (.bipush 8, 2) := by decide +kernel
theorem x_33_153 : decode (q_code 33) 153 = .ok (.invokevirtual 183, 3) := by decide +kernel
theorem x_33_156 : decode (q_code 33) 156 = .ok (.ifCond .ne 6, 3) := by decide +kernel
theorem x_33_159 : decode (q_code 33) 159 = .ok (.bipush 9, 2) := by decide +kernel
theorem x_33_161 : decode (q_code 33) 161 = .ok (.ireturn, 1) := by decide +kernel
theorem x_33_162 : decode (q_code 33) 162 = .ok (.aload_n 0, 1) := by decide +kernel
theorem x_33_163 : decode (q_code 33) 163 = .ok (.getfield 9, 3) := by decide +kernel
theorem x_33_166 : decode (q_code 33) 166 = .ok (.iload_n 2, 1) := by decide +kernel
theorem x_33_167 : decode (q_code 33) 167 = .ok (.iload 10, 2) := by decide +kernel
theorem x_33_169 : decode (q_code 33) 169 = .ok (.i2b, 1) := by decide +kernel
theorem x_33_170 : decode (q_code 33) 170 = .ok (.bastore, 1) := by decide +kernel
theorem x_33_171 : decode (q_code 33) 171 = .ok (.iload 9, 2) := by decide +kernel
theorem x_33_173 : decode (q_code 33) 173 = .ok (.ifCond .eq 16, 3) := by decide +kernel
theorem x_33_176 : decode (q_code 33) 176 = .ok (.aload_n 0, 1) := by decide +kernel
theorem x_33_177 : decode (q_code 33) 177 = .ok (.getfield 32, 3) := by decide +kernel
theorem x_33_180 : decode (q_code 33) 180 = .ok (.lload 7, 2) := by decide +kernel
theorem x_33_182 : decode (q_code 33) 182 = .ok (.l2i, 1) := by decide +kernel
theorem x_33_183 : decode (q_code 33) 183 = .ok (.invokevirtual 191, 3) := by decide +kernel
theorem x_33_186 : decode (q_code 33) 186 = .ok (.goto 12, 3) := by decide +kernel
theorem x_33_189 : decode (q_code 33) 189 = .ok (.aload_n 0, 1) := by decide +kernel
theorem x_33_190 : decode (q_code 33) 190 = .ok (.getfield 32, 3) := by decide +kernel
theorem x_33_193 : decode (q_code 33) 193 = .ok (.lload 7, 2) := by decide +kernel
theorem x_33_195 : decode (q_code 33) 195 = .ok (.invokevirtual 227, 3) := by decide +kernel
theorem x_33_198 : decode (q_code 33) 198 = .ok (.iconst 0, 1) := by decide +kernel
theorem x_33_199 : decode (q_code 33) 199 = .ok (.ireturn, 1) := by decide +kernel
theorem x_34_0 : decode (q_code 34) 0 = .ok (.ldc 28, 2) := by decide +kernel
theorem x_34_2 : decode (q_code 34) 2 = .ok (.istore_n 3, 1) := by decide +kernel
theorem x_34_3 : decode (q_code 34) 3 = .ok (.aload_n 0, 1) := by decide +kernel
theorem x_34_4 : decode (q_code 34) 4 = .ok (.iconst 0, 1) := by decide +kernel
theorem x_34_5 : decode (q_code 34) 5 = .ok (.putfield 137, 3) := by decide +kernel
theorem x_34_8 : decode (q_code 34) 8 = .ok (.iconst 0, 1) := by decide +kernel
theorem x_34_9 : decode (q_code 34) 9 = .ok (.istore 4, 2) := by decide +kernel
theorem x_34_11 : decode (q_code 34) 11 = .ok (.iload 4, 2) := by decide +kernel
theorem x_34_13 : decode (q_code 34) 13 = .ok (.aload_n 0, 1) := by decide +kernel
theorem x_34_14 : decode (q_code 34) 14 = .ok (.getfield 18, 3) := by decide +kernel
theorem x_34_17 : decode (q_code 34) 17 = .ok (.getfield 143, 3) := by decide +kernel
theorem x_34_20 : decode (q_code 34) 20 = .ok (.if_icmp .ge 80, 3) := by decide +kernel
theorem x_34_23 : decode (q_code 34) 23 = .ok (.aload_n 0, 1) := by decide +kernel
theorem x_34_24 : decode (q_code 34) 24 = .ok (.getfield 9, 3) := by decide +kernel
theorem x_34_27 : decode (q_code 34) 27 = .ok (.iload_n 3, 1) := by decide +kernel
theorem x_34_28 : decode (q_code 34) 28 = .ok (.invokestatic 65, 3) := by decide +kernel
theorem x_34_31 : decode (q_code 34) 31 = .ok (.istore 5, 2) := by decide +kernel
theorem x_34_33 : decode (q_code 34) 33 = .ok (.iload 5, 2) := by decide +kernel
theorem x_34_35 : decode (q_code 34) 35 = .ok (.iconst 3, 1) := by decide +kernel
theorem x_34_36 : decode (q_code 34) 36 = .ok (.if_icmp .eq 11, 3) := by decide +kernel
theorem x_34_39 : decode (q_code 34) 39 = .ok (.iload 5, 2) := by decide +kernel
theorem x_34_41 : decode (q_code 34) 41 = .ok (.iconst 4, 1) := by decide +kernel
theorem x_34_42 : decode (q_code 34) 42 = .ok (.if_icmp .eq 5, 3) := by decide +kernel
theorem x_34_45 : decode (q_code 34) 45 = .ok (.iconst 0, 1) := by decide +kernel
theorem x_34_46 : decode (q_code 34) 46 = .ok (.ireturn, 1) := by decide +kernel
theorem x_34_47 : decode (q_code 34) 47 = .ok (.aload_n 0, 1) := by decide +kernel
theorem x_34_48 : decode (q_code 34) 48 = .ok (.iload_n 3, 1) := by decide +kernel
theorem x_34_49 : decode (q_code 34) 49 = .ok (.invokevirtual 146, 3) := by decide +kernel
theorem x_34_52 : decode (q_code 34) 52 = .ok (.aload_n 0, 1) := by decide +kernel
theorem x_34_53 : decode (q_code 34) 53 = .ok (.getfield 9, 3) := by decide +kernel
theorem x_34_56 : decode (q_code 34) 56 = .ok (.iload_n 3, 1) := by decide +kernel
theorem x_34_57 : decode (q_code 34) 57 = .ok (.aload_n 0, 1) := by decide +kernel
theorem x_34_58 : decode (q_code 34) 58 = .ok (.getfield 18, 3) := by decide +kernel
theorem x_34_61 : decode (q_code 34) 61 = .ok (.getfield 150, 3) := by decide +kernel
theorem x_34_64 : decode (q_code 34) 64 = .ok (.aload_n 0, 1) := by decide +kernel
theorem x_34_65 : decode (q_code 34) 65 = .ok (.getfield 18, 3) := by decide +kernel
theorem x_34_68 : decode (q_code 34) 68 = .ok (.getfield 151, 3) := by decide +kernel
theorem x_34_71 : decode (q_code 34) 71 = .ok (.iload 4, 2) := by decide +kernel
theorem x_34_73 : decode (q_code 34) 73 = .ok (.iaload, 1) := by decide +kernel
theorem x_34_74 : decode (q_code 34) 74 = .ok (.aload_n 0, 1) := by decide +kernel
theorem x_34_75 : decode (q_code 34) 75 = .ok (.getfield 18, 3) := by decide +kernel
theorem x_34_78 : decode (q_code 34) 78 = .ok (.getfield 154, 3) := by decide +kernel
theorem x_34_81 : decode (q_code 34) 81 = .ok (.iload 4, 2) := by decide +kernel
theorem x_34_83 : decode (q_code 34) 83 = .ok (.iaload, 1) := by decide +kernel
theorem x_34_84 : decode (q_code 34) 84 = .ok (.invokestatic 157, 3) := by decide +kernel
theorem x_34_87 : decode (q_code 34) 87 = .ok (.istore_n 3, 1) := by decide +kernel
theorem x_34_88 : decode (q_code 34) 88 = .ok (.iload_n 3, 1) := by decide +kernel
theorem x_34_89 : decode (q_code 34) 89 = .ok (.ifCond .ge 5, 3) := by decide +kernel
theorem x_34_92 : decode (q_code 34) 92 = .ok (.iconst 0, 1) := by decide +kernel
theorem x_34_93 : decode (q_code 34) 93 = .ok (.ireturn, 1) := by decide +kernel
theorem x_34_94 : decode (q_code 34) 94 = .ok (.iinc 4 1, 3) := by decide +kernel
theorem x_34_97 : decode (q_code 34) 97 = .ok (.goto (-86), 3) := by decide +kernel
theorem x_34_100 : decode (q_code 34) 100 = .ok (.iload_n 1, 1) := by decide +kernel
theorem x_34_101 : decode (q_code 34) 101 = .ok (.iconst 2, 1) := by decide +kernel
theorem x_34_102 : decode (q_code 34) 102 = .ok (.if_icmp .ne 10, 3) := by decide +kernel
theorem x_34_105 : decode (q_code 34) 105 = .ok (.aload_n 0, 1) := by decide +kernel
theorem x_34_106 : decode (q_code 34) 106 = .ok (.iload_n 3, 1) := by decide +kernel
theorem x_34_107 : decode (q_code 34) 107 = .ok (.invokevirtual 231, 3) := by decide +kernel
theorem x_34_110 : decode (q_code 34) 110 = .ok (.iconst 0, 1) := by decide +kernel
theorem x_34_111 : decode (q_code 34) 111 = .ok (.ireturn, 1) := by decide +kernel
theorem x_34_112 : decode (q_code 34) 112 = .ok (.aload_n 0, 1) := by decide +kernel
theorem x_34_113 : decode (q_code 34) 113 = .ok (.getfield 9, 3) := by decide +kernel
theorem x_34_116 : decode (q_code 34) 116 = .ok (.iload_n 3, 1) := by decide +kernel
theorem x_34_117 : decode (q_code 34) 117 = .ok (.invokestatic 65, 3) := by decide +kernel
theorem x_34_120 : decode (q_code 34) 120 = .ok (.iconst 4, 1) := by decide +kernel
theorem x_34_121 : decode (q_code 34) 121 = .ok (.if_icmp .ne 12, 3) := by decide +kernel
theorem x_34_124 : decode (q_code 34) 124 = .ok (.aload_n 0, 1) := by decide +kernel
theorem x_34_125 : decode (q_code 34) 125 = .ok (.iload_n 2, 1) := by decide +kernel
theorem x_34_126 : decode (q_code 34) 126 = .ok (.iload_n 3, 1) := by decide +kernel
theorem x_34_127 : decode (q_code 34) 127 = .ok (.invokevirtual 234, 3) := by decide +kernel
theorem x_34_130 : decode (q_code 34) 130 = .ok (.goto 5, 3) := by decide +kernel
theorem x_34_133 : decode (q_code 34) 133 = .ok (.bipush 7, 2) := by decide +kernel
theorem x_34_135 : decode (q_code 34) 135 = .ok (.ireturn, 1) := by decide +kernel
theorem x_35_0 : decode (q_code 35) 0 = .ok (.aload_n 0, 1) := by decide +kernel
theorem x_35_1 : decode (q_code 35) 1 = .ok (.getfield 137, 3) := by decide +kernel
theorem x_35_4 : decode (q_code 35) 4 = .ok (.ifCond .le 17, 3) := by decide +kernel
theorem x_35_7 : decode (q_code 35) 7 = .ok (.aload_n 0, 1) := by decide +kernel
theorem x_35_8 : decode (q_code 35) 8 = .ok (.getfield 22, 3) := by decide +kernel
theorem x_35_11 : decode (q_code 35) 11 = .ok (.aload_n 0, 1) := by decide +kernel
theorem x_35_12 : decode (q_code 35) 12 = .ok (.getfield 137, 3) := by decide +kernel
theorem x_35_15 : decode (q_code 35) 15 = .ok (.iconst 1, 1) := by decide +kernel
theorem x_35_16 : decode (q_code 35) 16 = .ok (.isub, 1) := by decide +kernel
theorem x_35_17 : decode (q_code 35) 17 = .ok (.iaload, 1) := by decide +kernel
theorem x_35_18 : decode (q_code 35) 18 = .ok (.goto 5, 3) := by decide +kernel
theorem x_35_21 : decode (q_code 35) 21 = .ok (.ldc 28, 2) := by decide +kernel
theorem x_35_23 : decode (q_code 35) 23 = .ok (.istore_n 2, 1) := by decide +kernel
theorem x_35_24 : decode (q_code 35) 24 = .ok (.aload_n 0, 1) := by decide +kernel
theorem x_35_25 : decode (q_code 35) 25 = .ok (.getfield 9, 3) := by decide +kernel
theorem x_35_28 : decode (q_code 35) 28 = .ok (.iload_n 2, 1) := by decide +kernel
theorem x_35_29 : decode (q_code 35) 29 = .ok (.invokestatic 65, 3) := by decide +kernel
theorem x_35_32 : decode (q_code 35) 32 = .ok (.iconst 3, 1) := by decide +kernel
theorem x_35_33 : decode (q_code 35) 33 = .ok (.if_icmp .ne 23, 3) := by decide +kernel
theorem x_35_36 : decode (q_code 35) 36 = .ok (.aload_n 0, 1) := by decide +kernel
theorem x_35_37 : decode (q_code 35) 37 = .ok (.iload_n 1, 1) := by decide +kernel
theorem x_35_38 : decode (q_code 35) 38 = .ok (.aload_n 0, 1) := by decide +kernel
theorem x_35_39 : decode (q_code 35) 39 = .ok (.getfield 9, 3) := by decide +kernel
theorem x_35_42 : decode (q_code 35) 42 = .ok (.iload_n 1, 1) := by decide +kernel
theorem x_35_43 : decode (q_code 35) 43 = .ok (.invokestatic 85, 3) := by decide +kernel
theorem x_35_46 : decode (q_code 35) 46 = .ok (.iload_n 1, 1) := by decide +kernel
theorem x_35_47 : decode (q_code 35) 47 = .ok (.isub, 1) := by decide +kernel
theorem x_35_48 : decode (q_code 35) 48 = .ok (.iconst 0, 1) := by decide +kernel
theorem x_35_49 : decode (q_code 35) 49 = .ok (.invokevirtual 183, 3) := by decide +kernel
theorem x_35_52 : decode (q_code 35) 52 = .ok (.pop, 1) := by decide +kernel
theorem x_35_53 : decode (q_code 35) 53 = .ok (.goto 48, 3) := by decide +kernel
theorem x_35_56 : decode (q_code 35) 56 = .ok (.aload_n 0, 1) := by decide +kernel
theorem x_35_57 : decode (q_code 35) 57 = .ok (.getfield 9, 3) := by decide +kernel
theorem x_35_60 : decode (q_code 35) 60 = .ok (.iload_n 1, 1) := by decide +kernel
theorem x_35_61 : decode (q_code 35) 61 = .ok (.baload, 1) := by decide +kernel
theorem x_35_62 : decode (q_code 35) 62 = .ok (.bipush 10, 2) := by decide +kernel
theorem x_35_64 : decode (q_code 35) 64 = .ok (.if_icmp .eq 37, 3) := by decide +kernel
theorem x_35_67 : decode (q_code 35) 67 = .ok (.aload_n 0, 1) := by decide +kernel
theorem x_35_68 : decode (q_code 35) 68 = .ok (.getfield 9, 3) := by decide +kernel
theorem x_35_71 : decode (q_code 35) 71 = .ok (.iload_n 1, 1) := by decide +kernel
theorem x_35_72 : decode (q_code 35) 72 = .ok (.invokestatic 91, 3) := by decide +kernel
theorem x_35_75 : decode (q_code 35) 75 = .ok (.istore_n 3, 1) := by decide +kernel
theorem x_35_76 : decode (q_code 35) 76 = .ok (.aload_n 0, 1) := by decide +kernel
theorem x_35_77 : decode (q_code 35) 77 = .ok (.iload_n 3, 1) := by decide +kernel
theorem x_35_78 : decode (q_code 35) 78 = .ok (.aload_n 0, 1) := by decide +kernel
theorem x_35_79 : decode (q_code 35) 79 = .ok (.getfield 9, 3) := by decide +kernel
theorem x_35_82 : decode (q_code 35) 82 = .ok (.iload_n 1, 1) := by decide +kernel
theorem x_35_83 : decode (q_code 35) 83 = .ok (.invokestatic 85, 3) := by decide +kernel
theorem x_35_86 : decode (q_code 35) 86 = .ok (.iload_n 3, 1) := by decide +kernel
theorem x_35_87 : decode (q_code 35) 87 = .ok (.isub, 1) := by decide +kernel
theorem x_35_88 : decode (q_code 35) 88 = .ok (.iconst 0, 1) := by decide +kernel
theorem x_35_89 : decode (q_code 35) 89 = .ok (.invokevirtual 183, 3) := by decide +kernel
theorem x_35_92 : decode (q_code 35) 92 = .ok (.pop, 1) := by decide +kernel
theorem x_35_93 : decode (q_code 35) 93 = .ok (.aload_n 0, 1) := by decide +kernel
theorem x_35_94 : decode (q_code 35) 94 = .ok (.getfield 9, 3) := by decide +kernel
theorem x_35_97 : decode (q_code 35) 97 = .ok (.iload_n 1, 1) := by decide +kernel
theorem x_35_98 : decode (q_code 35) 98 = .ok (.bipush 10, 2) := by decide +kernel
theorem x_35_100 : decode (q_code 35) 100 = .ok (.bastore, 1) := by decide +kernel
theorem x_35_101 : decode (q_code 35) 101 = .ok (.return_, 1) := by decide +kernel
theorem x_36_0 : decode (q_code 36) 0 = .ok (.aload_n 0, 1) := by decide +kernel
theorem x_36_1 : decode (q_code 36) 1 = .ok (.iload_n 2, 1) := by decide +kernel
theorem x_36_2 : decode (q_code 36) 2 = .ok (.invokevirtual 146, 3) := by decide +kernel
theorem x_36_5 : decode (q_code 36) 5 = .ok (.iconst 0, 1) := by decide +kernel
theorem x_36_6 : decode (q_code 36) 6 = .ok (.istore_n 3, 1) := by decide +kernel
theorem x_36_7 : decode (q_code 36) 7 = .ok (.aload_n 0, 1) := by decide +kernel
theorem x_36_8 : decode (q_code 36) 8 = .ok (.getfield 9, 3) := by decide +kernel
theorem x_36_11 : decode (q_code 36) 11 = .ok (.iload_n 2, 1) := by decide +kernel
theorem x_36_12 : decode (q_code 36) 12 = .ok (.invokestatic 61, 3) := by decide +kernel
theorem x_36_15 : decode (q_code 36) 15 = .ok (.istore 4, 2) := by decide +kernel
theorem x_36_17 : decode (q_code 36) 17 = .ok (.iconst 0, 1) := by decide +kernel
theorem x_36_18 : decode (q_code 36) 18 = .ok (.istore 5, 2) := by decide +kernel
theorem x_36_20 : decode (q_code 36) 20 = .ok (.iload 5, 2) := by decide +kernel
theorem x_36_22 : decode (q_code 36) 22 = .ok (.ldc 216, 2) := by decide +kernel
theorem x_36_24 : decode (q_code 36) 24 = .ok (.if_icmp .ge 149, 3) := by decide +kernel
theorem x_36_27 : decode (q_code 36) 27 = .ok (.aload_n 0, 1) := by decide +kernel
theorem x_36_28 : decode (q_code 36) 28 = .ok (.getfield 9, 3) := by decide +kernel
theorem x_36_31 : decode (q_code 36) 31 = .ok (.iload 4, 2) := by decide +kernel
theorem x_36_33 : decode (q_code 36) 33 = .ok (.invokestatic 65, 3) := by decide +kernel
theorem x_36_36 : decode (q_code 36) 36 = .ok (.ifCond .eq 137, 3) := by decide +kernel
theorem x_36_39 : decode (q_code 36) 39 = .ok (.aload_n 0, 1) := by decide +kernel
theorem x_36_40 : decode (q_code 36) 40 = .ok (.getfield 9, 3) := by decide +kernel
theorem x_36_43 : decode (q_code 36) 43 = .ok (.iload 4, 2) := by decide +kernel
theorem x_36_45 : decode (q_code 36) 45 = .ok (.aload_n 0, 1) := by decide +kernel
theorem x_36_46 : decode (q_code 36) 46 = .ok (.getfield 9, 3) := by decide +kernel
theorem x_36_49 : decode (q_code 36) 49 = .ok (.iload_n 1, 1) := by decide +kernel
theorem x_36_50 : decode (q_code 36) 50 = .ok (.iconst 0, 1) := by decide +kernel
theorem x_36_51 : decode (q_code 36) 51 = .ok (.invokestatic 217, 3) := by decide +kernel
theorem x_36_54 : decode (q_code 36) 54 = .ok (.ifCond .ne 26, 3) := by decide +kernel
theorem x_36_57 : decode (q_code 36) 57 = .ok (.aload_n 0, 1) := by decide +kernel
theorem x_36_58 : decode (q_code 36) 58 = .ok (.iload 4, 2) := by decide +kernel
theorem x_36_60 : decode (q_code 36) 60 = .ok (.aload_n 0, 1) := by decide +kernel
theorem x_36_61 : decode (q_code 36) 61 = .ok (.getfield 9, 3) := by decide +kernel
theorem x_36_64 : decode (q_code 36) 64 = .ok (.iload 4, 2) := by decide +kernel
theorem x_36_66 : decode (q_code 36) 66 = .ok (.invokestatic 85, 3) := by decide +kernel
theorem x_36_69 : decode (q_code 36) 69 = .ok (.iload 4, 2) := by decide +kernel
theorem x_36_71 : decode (q_code 36) 71 = .ok (.isub, 1) := by decide +kernel
theorem x_36_72 : decode (q_code 36) 72 = .ok (.iconst 0, 1) := by decide +kernel
theorem x_36_73 : decode (q_code 36) 73 = .ok (.invokevirtual 183, 3) := by decide +kernel
theorem x_36_76 : decode (q_code 36) 76 = .ok (.pop, 1) := by decide +kernel
theorem x_36_77 : decode (q_code 36) 77 = .ok (.goto 90, 3) := by decide +kernel
theorem x_36_80 : decode (q_code 36) 80 = .ok (.iload 4, 2) := by decide +kernel
theorem x_36_82 : decode (q_code 36) 82 = .ok (.iconst 1, 1) := by decide +kernel
theorem x_36_83 : decode (q_code 36) 83 = .ok (.iadd, 1) := by decide +kernel
theorem x_36_84 : decode (q_code 36) 84 = .ok (.istore 6, 2) := by decide +kernel
theorem x_36_86 : decode (q_code 36) 86 = .ok (.aload_n 0, 1) := by decide +kernel
theorem x_36_87 : decode (q_code 36) 87 = .ok (.getfield 9, 3) := by decide +kernel
theorem x_36_90 : decode (q_code 36) 90 = .ok (.iload 4, 2) := by decide +kernel
theorem x_36_92 : decode (q_code 36) 92 = .ok (.invokestatic 91, 3) := by decide +kernel
theorem x_36_95 : decode (q_code 36) 95 = .ok (.iconst 1, 1) := by decide +kernel
theorem x_36_96 : decode (q_code 36) 96 = .ok (.isub, 1) := by decide +kernel
theorem x_36_97 : decode (q_code 36) 97 = .ok (.istore 7, 2) := by decide +kernel
theorem x_36_99 : decode (q_code 36) 99 = .ok (.aload_n 0, 1) := by decide +kernel
theorem x_36_100 : decode (q_code 36) 100 = .ok (.getfield 9, 3) := by decide +kernel
theorem x_36_103 : decode (q_code 36) 103 = .ok (.iload 6, 2) := by decide +kernel
theorem x_36_105 : decode (q_code 36) 105 = .ok (.iload 7, 2) := by decide +kernel
theorem x_36_107 : decode (q_code 36) 107 = .ok (.iload_n 3, 1) := by decide +kernel
theorem x_36_108 : decode (q_code 36) 108 = .ok (.invokestatic 164, 3) := by decide +kernel
theorem x_36_111 : decode (q_code 36) 111 = .ok (.ifCond .ne 42, 3) := by decide +kernel
theorem x_36_114 : decode (q_code 36) 114 = .ok (.aload_n 0, 1) := by decide +kernel
theorem x_36_115 : decode (q_code 36) 115 = .ok (.iload 4, 2) := by decide +kernel
theorem x_36_117 : decode (q_code 36) 117 = .ok (.iload 7, 2) := by decide +kernel
theorem x_36_119 : decode (q_code 36) 119 = .ok (.iconst 1, 1) := by decide +kernel
theorem x_36_120 : decode (q_code 36) 120 = .ok (.iadd, 1) := by decide +kernel
theorem x_36_121 : decode (q_code 36) 121 = .ok (.iload 4, 2) := by decide +kernel
theorem x_36_123 : decode (q_code 36) 123 = .ok (.isub, 1) := by decide +kernel
theorem x_36_124 : decode (q_code 36) 124 = .ok (.iload_n 3, 1) := by decide +kernel
theorem x_36_125 : decode (q_code 36) 125 = .ok (.invokestatic 220, 3) := by decide +kernel
theorem x_36_128 : decode (q_code 36) 128 = .ok (.iconst 2, 1) := by decide +kernel
theorem x_36_129 : decode (q_code 36) 129 = .ok (.iadd, 1) := by decide +kernel
theorem x_36_130 : decode (q_code 36) 130 = .ok (.invokevirtual 183, 3) := by decide +kernel
theorem x_36_133 : decode (q_code 36) 133 = .ok (.ifCond .eq 20, 3) := by decide +kernel
theorem x_36_136 : decode (q_code 36) 136 = .ok (.aload_n 0, 1) := by decide +kernel
theorem x_36_137 : decode (q_code 36) 137 = .ok (.getfield 32, 3) := by decide +kernel
theorem x_36_140 : decode (q_code 36) 140 = .ok (.aload_n 0, 1) := by decide +kernel
theorem x_36_141 : decode (q_code 36) 141 = .ok (.getfield 9, 3) := by decide +kernel
theorem x_36_144 : decode (q_code 36) 144 = .ok (.iload 4, 2) := by decide +kernel
theorem x_36_146 : decode (q_code 36) 146 = .ok (.invokestatic 65, 3) := by decide +kernel
theorem x_36_149 : decode (q_code 36) 149 = .ok (.iload_n 3, 1) := by decide +kernel
theorem x_36_150 : decode (q_code 36) 150 = .ok (.invokevirtual 200, 3) := by decide +kernel
theorem x_36_153 : decode (q_code 36) 153 = .ok (.iinc 3 1, 3) := by decide +kernel
theorem x_36_156 : decode (q_code 36) 156 = .ok (.aload_n 0, 1) := by decide +kernel
theorem x_36_157 : decode (q_code 36) 157 = .ok (.getfield 9, 3) := by decide +kernel
theorem x_36_160 : decode (q_code 36) 160 = .ok (.iload 4, 2) := by decide +kernel
theorem x_36_162 : decode (q_code 36) 162 = .ok (.invokestatic 85, 3) := by decide +kernel
theorem x_36_165 : decode (q_code 36) 165 = .ok (.istore 4, 2) := by decide +kernel
theorem x_36_167 : decode (q_code 36) 167 = .ok (.iinc 5 1, 3) := by decide +kernel
theorem x_36_170 : decode (q_code 36) 170 = .ok (.goto (-150), 3) := by decide +kernel
theorem x_36_173 : decode (q_code 36) 173 = .ok (.iconst 0, 1) := by decide +kernel
theorem x_36_174 : decode (q_code 36) 174 = .ok (.ireturn, 1) := by decide +kernel
theorem m_X1_operatorOf {d : Nat} {M : g_M} {Q : Int → g_M → Prop} {a0 : Nat} {v1 : Int} (hv1 : g_InR v1) (h : g_ok M → g_Call d 115 [.ref a0, g_n v1, .ref (4 * 32 + 1)] M (g_qI fun r4 M1 => g_ext M M1 → g_ok M1 → g_InR r4 → ((r4 = 0 → g_Call d 115 [.ref a0, g_n v1, .ref (4 * 33 + 1)] M1 (g_qI fun r9 M6 => g_ext M1 M6 → g_ok M6 → g_InR r9 → ((r9 = 0 → g_Call d 115 [.ref a0, g_n v1, .ref (4 * 34 + 1)] M6 (g_qI fun r14 M11 => g_ext M6 M11 → g_ok M11 → g_InR r14 → ((r14 = 0 → g_Call d 115 [.ref a0, g_n v1, .ref (4 * 35 + 1)] M11 (g_qI fun r19 M16 => g_ext M11 M16 → g_ok M16 → g_InR r19 → ((r19 = 0 → g_Call d 115 [.ref a0, g_n v1, .ref (4 * 36 + 1)] M16 (g_qI fun r24 M21 => g_ext M16 M21 → g_ok M21 → g_InR r24 → ((r24 = 0 → g_Call d 115 [.ref a0, g_n v1, .ref (4 * 37 + 1)] M21 (g_qI fun r29 M26 => g_ext M21 M26 → g_ok M26 → g_InR r29 → ((r29 = 0 → Q 0 M26) ∧ (¬ r29 = 0 → Q 6 M26)))) ∧ (¬ r24 = 0 → Q 5 M21)))) ∧ (¬ r19 = 0 → Q 4 M16)))) ∧ (¬ r14 = 0 → Q 3 M11)))) ∧ (¬ r9 = 0 → Q 2 M6)))) ∧ (¬ r4 = 0 → Q 1 M1)))) : g_Call (d + 1) 18 [.ref a0, g_n v1] M (g_qI Q) := by
  refine g_Call.ok fun hok0 => ?_
  replace h := h hok0
  refine r_body rfl (lv := [(0, .ref a0), (1, g_n v1)]) rfl ?_
  refine g_Run.ok fun hok => ?_
  refine r_aload_n x_18_0 rfl ?_
  refine r_iload_n x_18_1 rfl ?_
  refine r_ldc x_18_2 (v := .ref (4 * 32 + 1)) rfl ?_
  refine r_invS x_18_4 (z := 115) (ns := 1) (by decide +kernel) (as := [.ref a0, g_n v1, .ref (4 * 32 + 1)]) (r := []) rfl rfl rfl ?_
  refine r_callI h fun r4 M1 hx2 hok3 hr5 h => ?_
  replace h := h hx2 hok3 hr5
  refine r_if_eq x_18_7 (t := 14) (by decide +kernel) hr5 (fun hc => ?_) (fun hc => ?_)
  · replace h := h.1 hc
    refine r_aload_n x_18_14 rfl ?_
    refine r_iload_n x_18_15 rfl ?_
    refine r_ldc x_18_16 (v := .ref (4 * 33 + 1)) rfl ?_
    refine r_invS x_18_18 (z := 115) (ns := 1) (by decide +kernel) (as := [.ref a0, g_n v1, .ref (4 * 33 + 1)]) (r := []) rfl rfl rfl ?_
    refine r_callI h fun r9 M6 hx7 hok8 hr10 h => ?_
    replace h := h hx7 hok8 hr10
    refine r_if_eq x_18_21 (t := 28) (by decide +kernel) hr10 (fun hc => ?_) (fun hc => ?_)
    · replace h := h.1 hc
      refine r_aload_n x_18_28 rfl ?_
      refine r_iload_n x_18_29 rfl ?_
      refine r_ldc x_18_30 (v := .ref (4 * 34 + 1)) rfl ?_
      refine r_invS x_18_32 (z := 115) (ns := 1) (by decide +kernel) (as := [.ref a0, g_n v1, .ref (4 * 34 + 1)]) (r := []) rfl rfl rfl ?_
      refine r_callI h fun r14 M11 hx12 hok13 hr15 h => ?_
      replace h := h hx12 hok13 hr15
      refine r_if_eq x_18_35 (t := 42) (by decide +kernel) hr15 (fun hc => ?_) (fun hc => ?_)
      · replace h := h.1 hc
        refine r_aload_n x_18_42 rfl ?_
        refine r_iload_n x_18_43 rfl ?_
        refine r_ldc x_18_44 (v := .ref (4 * 35 + 1)) rfl ?_
        refine r_invS x_18_46 (z := 115) (ns := 1) (by decide +kernel) (as := [.ref a0, g_n v1, .ref (4 * 35 + 1)]) (r := []) rfl rfl rfl ?_
        refine r_callI h fun r19 M16 hx17 hok18 hr20 h => ?_
        replace h := h hx17 hok18 hr20
        refine r_if_eq x_18_49 (t := 56) (by decide +kernel) hr20 (fun hc => ?_) (fun hc => ?_)
        · replace h := h.1 hc
          refine r_aload_n x_18_56 rfl ?_
          refine r_iload_n x_18_57 rfl ?_
          refine r_ldc x_18_58 (v := .ref (4 * 36 + 1)) rfl ?_
          refine r_invS x_18_60 (z := 115) (ns := 1) (by decide +kernel) (as := [.ref a0, g_n v1, .ref (4 * 36 + 1)]) (r := []) rfl rfl rfl ?_
          refine r_callI h fun r24 M21 hx22 hok23 hr25 h => ?_
          replace h := h hx22 hok23 hr25
          refine r_if_eq x_18_63 (t := 70) (by decide +kernel) hr25 (fun hc => ?_) (fun hc => ?_)
          · replace h := h.1 hc
            refine r_aload_n x_18_70 rfl ?_
            refine r_iload_n x_18_71 rfl ?_
            refine r_ldc x_18_72 (v := .ref (4 * 37 + 1)) rfl ?_
            refine r_invS x_18_74 (z := 115) (ns := 1) (by decide +kernel) (as := [.ref a0, g_n v1, .ref (4 * 37 + 1)]) (r := []) rfl rfl rfl ?_
            refine r_callI h fun r29 M26 hx27 hok28 hr30 h => ?_
            replace h := h hx27 hok28 hr30
            refine r_if_eq x_18_77 (t := 85) (by decide +kernel) hr30 (fun hc => ?_) (fun hc => ?_)
            · replace h := h.1 hc
              refine r_iconst x_18_85 ?_
              exact r_retI x_18_86 rfl (g_Rk rfl) h
            · replace h := h.2 hc
              refine r_bipush x_18_80 (x := 6) rfl ?_
              refine r_goto x_18_82 (t := 86) (by decide +kernel) ?_
              exact r_retI x_18_86 rfl (g_Rk rfl) h
          · replace h := h.2 hc
            refine r_iconst x_18_66 ?_
            refine r_goto x_18_67 (t := 86) (by decide +kernel) ?_
            exact r_retI x_18_86 rfl (g_Rk rfl) h
        · replace h := h.2 hc
          refine r_iconst x_18_52 ?_
          refine r_goto x_18_53 (t := 86) (by decide +kernel) ?_
          exact r_retI x_18_86 rfl (g_Rk rfl) h
      · replace h := h.2 hc
        refine r_iconst x_18_38 ?_
        refine r_goto x_18_39 (t := 86) (by decide +kernel) ?_
        exact r_retI x_18_86 rfl (g_Rk rfl) h
    · replace h := h.2 hc
      refine r_iconst x_18_24 ?_
      refine r_goto x_18_25 (t := 86) (by decide +kernel) ?_
      exact r_retI x_18_86 rfl (g_Rk rfl) h
  · replace h := h.2 hc
    refine r_iconst x_18_10 ?_
    refine r_goto x_18_11 (t := 86) (by decide +kernel) ?_
    exact r_retI x_18_86 rfl (g_Rk rfl) h
theorem m_X1_fails {d : Nat} {M : g_M} {Q : Int → g_M → Prop} {a0 : Nat} {v1 : Int} (hv1 : g_InR v1) {v2 : Int} (hv2 : g_InR v2) (h : g_ok M → g_O M a0 1 ∧ (∀ M2, M2 = g_wi M a0 7 v1 → g_ok M2 → (∀ M6, M6 = g_wi M2 a0 8 v2 → g_ok M6 → Q 0 M6))) : g_Call (d + 1) 19 [.ref a0, g_n v1, g_n v2] M (g_qI Q) := by
  refine g_Call.ok fun hok0 => ?_
  replace h := h hok0
  refine r_body rfl (lv := [(0, .ref a0), (1, g_n v1), (2, g_n v2)]) rfl ?_
  refine g_Run.ok fun hok => ?_
  refine r_aload_n x_19_0 rfl ?_
  refine r_iload_n x_19_1 rfl ?_
  obtain ⟨hO1, h⟩ := h
  refine r_putI x_19_2 (ci := 1) (k := 7) (ns := 0) (by decide +kernel) (by decide) (g_f0 (by decide +kernel)) rfl hv1 trivial (kz := 7) rfl hO1 ?_
  obtain ⟨M2, hM3⟩ : ∃ Mz, Mz = g_wi M a0 7 v1 := ⟨_, rfl⟩
  rw [← hM3]
  refine g_Run.ok fun hok4 => ?_
  replace h := h M2 hM3 hok4
  have hx5 := g_extW hM3
  replace hO1 := hO1.up hx5
  refine r_aload_n x_19_5 rfl ?_
  refine r_iload_n x_19_6 rfl ?_
  refine r_putI x_19_7 (ci := 1) (k := 8) (ns := 0) (by decide +kernel) (by decide) (g_f0 (by decide +kernel)) rfl hv2 trivial (kz := 8) rfl hO1 ?_
  obtain ⟨M6, hM7⟩ : ∃ Mz, Mz = g_wi M2 a0 8 v2 := ⟨_, rfl⟩
  rw [← hM7]
  refine g_Run.ok fun hok8 => ?_
  replace h := h M6 hM7 hok8
  have hx9 := g_extW hM7
  replace hO1 := hO1.up hx9
  refine r_iconst x_19_10 ?_
  exact r_retZ x_19_11 rfl (Or.inl rfl) h
theorem m_X1_isRight {d : Nat} {M : g_M} {Q : Int → g_M → Prop} {a0 : Nat} {v1 : Int} (hv1 : g_InR v1) (h : g_ok M → g_O M a0 1 ∧ ∃ b2, g_r M a0 0 = some b2 ∧ g_Call d 112 [.ref b2, g_n v1] M (g_qI fun r7 M4 => g_ext M M4 → g_ok M4 → g_InR r7 → g_Run d 20 11 [(0, .ref a0), (1, g_n v1), (2, g_n r7), (3, g_n 0)] [] M4 (g_qI Q))) : g_Call (d + 1) 20 [.ref a0, g_n v1] M (g_qI Q) := by
  refine g_Call.ok fun hok0 => ?_
  replace h := h hok0
  refine r_body rfl (lv := [(0, .ref a0), (1, g_n v1)]) rfl ?_
  refine g_Run.ok fun hok => ?_
  refine r_aload_n x_20_0 rfl ?_
  obtain ⟨hO1, h⟩ := h
  obtain ⟨b2, hb3, h⟩ := h
  refine r_getR x_20_1 rfl (ci := 1) (k := 0) (ns := 0) (by decide +kernel) (by decide) rfl (kz := 0) rfl hO1 hb3 ?_
  refine r_iload_n x_20_4 rfl ?_
  refine r_invS x_20_5 (z := 112) (ns := 1) (by decide +kernel) (as := [.ref b2, g_n v1]) (r := []) rfl rfl rfl ?_
  refine r_callI h fun r7 M4 hx5 hok6 hr8 h => ?_
  replace h := h hx5 hok6 hr8
  replace hO1 := hO1.up hx5
  refine r_istore_n x_20_8 (by decide +kernel) rfl (lv1 := [(0, .ref a0), (1, g_n v1), (2, g_n r7)]) rfl ?_
  refine r_iconst x_20_9 ?_
  refine r_istore_n x_20_10 (by decide +kernel) rfl (lv1 := [(0, .ref a0), (1, g_n v1), (2, g_n r7), (3, g_n 0)]) rfl ?_
  exact h
theorem s_X1_isRight_11 {d : Nat} {M : g_M} {Q : Int → g_M → Prop} {a0 : Nat} {v1 : Int} (hv1 : g_InR v1) {v2 : Int} (hv2 : g_InR v2) {v3 : Int} (hv3 : g_InR v3) (h : g_ok M → ((v3 < 2000 → g_O M a0 1 ∧ ∃ b2, g_r M a0 0 = some b2 ∧ g_Call d 108 [.ref b2, g_n v2] M (g_qI fun r7 M4 => g_ext M M4 → g_ok M4 → g_InR r7 → ((r7 = 0 → Q 1 M4) ∧ (¬ r7 = 0 → ∃ b9, g_r M4 a0 0 = some b9 ∧ g_Call d 18 [.ref b9, g_n v2] M4 (g_qI fun r14 M11 => g_ext M4 M11 → g_ok M11 → g_InR r14 → ((r14 = 0 → g_Call d 19 [.ref a0, g_n 1, g_n v2] M11 (g_qI fun r38 M35 => g_ext M11 M35 → g_ok M35 → g_InR r38 → (r38 = 0 ∨ r38 = 1) ∧ Q r38 M35)) ∧ (¬ r14 = 0 → ∃ b16, g_r M11 a0 0 = some b16 ∧ g_Call d 108 [.ref b16, g_n v2] M11 (g_qI fun r21 M18 => g_ext M11 M18 → g_ok M18 → g_InR r21 → ((r21 = 3 → ∃ b23, g_r M18 a0 0 = some b23 ∧ g_Call d 112 [.ref b23, g_n v2] M18 (g_qI fun r28 M25 => g_ext M18 M25 → g_ok M25 → g_InR r28 → g_Run d 20 83 [(0, .ref a0), (1, g_n v1), (2, g_n v2), (3, g_n v3), (4, g_n r14), (5, g_n r28), (6, g_n 0)] [] M25 (g_qI Q))) ∧ (¬ r21 = 3 → g_Call d 19 [.ref a0, g_n 2, g_n v2] M18 (g_qI fun r33 M30 => g_ext M18 M30 → g_ok M30 → g_InR r33 → (r33 = 0 ∨ r33 = 1) ∧ Q r33 M30))))))))))) ∧ (¬ v3 < 2000 → Q 1 M))) : g_Run d 20 11 [(0, .ref a0), (1, g_n v1), (2, g_n v2), (3, g_n v3)] [] M (g_qI Q) := by
  refine g_Run.ok fun hok => ?_
  replace h := h hok
  refine r_iload_n x_20_11 rfl ?_
  refine r_sipush x_20_12 (x := 2000) rfl ?_
  refine r_ic_ge x_20_15 (t := 203) (by decide +kernel) hv3 (g_Rk rfl) (fun hc => ?_) (fun hc => ?_)
  · replace h := h.2 hc
    refine r_iconst x_20_203 ?_
    exact r_retZ x_20_204 rfl (Or.inr rfl) h
  · replace h := h.1 hc
    refine r_aload_n x_20_18 rfl ?_
    obtain ⟨hO1, h⟩ := h
    obtain ⟨b2, hb3, h⟩ := h
    refine r_getR x_20_19 rfl (ci := 1) (k := 0) (ns := 0) (by decide +kernel) (by decide) rfl (kz := 0) rfl hO1 hb3 ?_
    refine r_iload_n x_20_22 rfl ?_
    refine r_invS x_20_23 (z := 108) (ns := 1) (by decide +kernel) (as := [.ref b2, g_n v2]) (r := []) rfl rfl rfl ?_
    refine r_callI h fun r7 M4 hx5 hok6 hr8 h => ?_
    replace h := h hx5 hok6 hr8
    replace hO1 := hO1.up hx5
    refine r_if_eq x_20_26 (t := 203) (by decide +kernel) hr8 (fun hc => ?_) (fun hc => ?_)
    · replace h := h.1 hc
      refine r_iconst x_20_203 ?_
      exact r_retZ x_20_204 rfl (Or.inr rfl) h
    · replace h := h.2 hc
      refine r_aload_n x_20_29 rfl ?_
      obtain ⟨b9, hb10, h⟩ := h
      refine r_getR x_20_30 rfl (ci := 1) (k := 0) (ns := 0) (by decide +kernel) (by decide) rfl (kz := 0) rfl hO1 hb10 ?_
      refine r_iload_n x_20_33 rfl ?_
      refine r_invS x_20_34 (z := 18) (ns := 0) (by decide +kernel) (as := [.ref b9, g_n v2]) (r := []) rfl rfl rfl ?_
      refine r_callI h fun r14 M11 hx12 hok13 hr15 h => ?_
      replace h := h hx12 hok13 hr15
      replace hO1 := hO1.up hx12
      refine r_istore x_20_37 (by decide +kernel) rfl (lv1 := [(0, .ref a0), (1, g_n v1), (2, g_n v2), (3, g_n v3), (4, g_n r14)]) rfl ?_
      refine r_iload x_20_39 rfl ?_
      refine r_if_ne x_20_41 (t := 51) (by decide +kernel) hr15 (fun hc => ?_) (fun hc => ?_)
      · replace h := h.2 hc
        refine r_aload_n x_20_51 rfl ?_
        obtain ⟨b16, hb17, h⟩ := h
        refine r_getR x_20_52 rfl (ci := 1) (k := 0) (ns := 0) (by decide +kernel) (by decide) rfl (kz := 0) rfl hO1 hb17 ?_
        refine r_iload_n x_20_55 rfl ?_
        refine r_invS x_20_56 (z := 108) (ns := 1) (by decide +kernel) (as := [.ref b16, g_n v2]) (r := []) rfl rfl rfl ?_
        refine r_callI h fun r21 M18 hx19 hok20 hr22 h => ?_
        replace h := h hx19 hok20 hr22
        replace hO1 := hO1.up hx19
        refine r_iconst x_20_59 ?_
        refine r_ic_eq x_20_60 (t := 70) (by decide +kernel) hr22 (g_Rk rfl) (fun hc => ?_) (fun hc => ?_)
        · replace h := h.1 hc
          refine r_aload_n x_20_70 rfl ?_
          obtain ⟨b23, hb24, h⟩ := h
          refine r_getR x_20_71 rfl (ci := 1) (k := 0) (ns := 0) (by decide +kernel) (by decide) rfl (kz := 0) rfl hO1 hb24 ?_
          refine r_iload_n x_20_74 rfl ?_
          refine r_invS x_20_75 (z := 112) (ns := 1) (by decide +kernel) (as := [.ref b23, g_n v2]) (r := []) rfl rfl rfl ?_
          refine r_callI h fun r28 M25 hx26 hok27 hr29 h => ?_
          replace h := h hx26 hok27 hr29
          replace hO1 := hO1.up hx26
          refine r_istore x_20_78 (by decide +kernel) rfl (lv1 := [(0, .ref a0), (1, g_n v1), (2, g_n v2), (3, g_n v3), (4, g_n r14), (5, g_n r28)]) rfl ?_
          refine r_iconst x_20_80 ?_
          refine r_istore x_20_81 (by decide +kernel) rfl (lv1 := [(0, .ref a0), (1, g_n v1), (2, g_n v2), (3, g_n v3), (4, g_n r14), (5, g_n r28), (6, g_n 0)]) rfl ?_
          exact h
        · replace h := h.2 hc
          refine r_aload_n x_20_63 rfl ?_
          refine r_iconst x_20_64 ?_
          refine r_iload_n x_20_65 rfl ?_
          refine r_invV x_20_66 (z := 19) (ns := 0) (by decide +kernel) (as := [g_n 2, g_n v2]) (r := []) rfl rfl rfl hO1 rfl rfl ?_
          refine r_callI h fun r33 M30 hx31 hok32 hr34 h => ?_
          replace h := h hx31 hok32 hr34
          replace hO1 := hO1.up hx31
          obtain ⟨hz, h⟩ := h
          exact r_retZ x_20_69 rfl hz h
      · replace h := h.1 hc
        refine r_aload_n x_20_44 rfl ?_
        refine r_iconst x_20_45 ?_
        refine r_iload_n x_20_46 rfl ?_
        refine r_invV x_20_47 (z := 19) (ns := 0) (by decide +kernel) (as := [g_n 1, g_n v2]) (r := []) rfl rfl rfl hO1 rfl rfl ?_
        refine r_callI h fun r38 M35 hx36 hok37 hr39 h => ?_
        replace h := h hx36 hok37 hr39
        replace hO1 := hO1.up hx36
        obtain ⟨hz, h⟩ := h
        exact r_retZ x_20_50 rfl hz h
theorem s_X1_isRight_83 {d : Nat} {M : g_M} {Q : Int → g_M → Prop} {a0 : Nat} {v1 : Int} (hv1 : g_InR v1) {v2 : Int} (hv2 : g_InR v2) {v3 : Int} (hv3 : g_InR v3) {v4 : Int} (hv4 : g_InR v4) {v5 : Int} (hv5 : g_InR v5) {v6 : Int} (hv6 : g_InR v6) (h : g_ok M → ((v6 < 2000 → g_O M a0 1 ∧ ∃ b11, g_r M a0 0 = some b11 ∧ g_Call d 108 [.ref b11, g_n v5] M (g_qI fun r16 M13 => g_ext M M13 → g_ok M13 → g_InR r16 → ((r16 = 0 → ∃ b18, g_r M13 a0 0 = some b18 ∧ g_Call d 111 [.ref b18, g_n v2] M13 (g_qI fun r23 M20 => g_ext M13 M20 → g_ok M20 → g_InR r23 → g_InR (v3 + 1) ∧ g_Run d 20 11 [(0, .ref a0), (1, g_n v1), (2, g_n r23), (3, g_n (v3 + 1))] [] M20 (g_qI Q))) ∧ (¬ r16 = 0 → ∃ b26, g_r M13 a0 1 = some b26 ∧ ∃ b28, g_r M13 a0 0 = some b28 ∧ g_O M13 b26 5 ∧ g_Call d 91 [.ref b26, .ref b28, g_n v5] M13 (g_qI fun r34 M31 => g_ext M13 M31 → g_ok M31 → g_InR r34 → ((r34 = 0 → g_Call d 19 [.ref a0, g_n 3, g_n v5] M31 (g_qI fun r51 M48 => g_ext M31 M48 → g_ok M48 → g_InR r51 → (r51 = 0 ∨ r51 = 1) ∧ Q r51 M48)) ∧ (¬ r34 = 0 → ((v4 = 3 → ∃ b36, g_r M31 a0 0 = some b36 ∧ g_Call d 117 [.ref b36, g_n v5] M31 (g_qI fun r41 M38 => g_ext M31 M38 → g_ok M38 → g_InR r41 → ((r41 = 0 → g_Call d 19 [.ref a0, g_n 4, g_n v5] M38 (g_qI fun r46 M43 => g_ext M38 M43 → g_ok M43 → g_InR r46 → (r46 = 0 ∨ r46 = 1) ∧ Q r46 M43)) ∧ (¬ r41 = 0 → g_Run d 20 153 [(0, .ref a0), (1, g_n v1), (2, g_n v2), (3, g_n v3), (4, g_n v4), (5, g_n v5), (6, g_n v6)] [] M38 (g_qI Q))))) ∧ (¬ v4 = 3 → g_Run d 20 153 [(0, .ref a0), (1, g_n v1), (2, g_n v2), (3, g_n v3), (4, g_n v4), (5, g_n v5), (6, g_n v6)] [] M31 (g_qI Q)))))))))) ∧ (¬ v6 < 2000 → g_O M a0 1 ∧ ∃ b2, g_r M a0 0 = some b2 ∧ g_Call d 111 [.ref b2, g_n v2] M (g_qI fun r7 M4 => g_ext M M4 → g_ok M4 → g_InR r7 → g_InR (v3 + 1) ∧ g_Run d 20 11 [(0, .ref a0), (1, g_n v1), (2, g_n r7), (3, g_n (v3 + 1))] [] M4 (g_qI Q))))) : g_Run d 20 83 [(0, .ref a0), (1, g_n v1), (2, g_n v2), (3, g_n v3), (4, g_n v4), (5, g_n v5), (6, g_n v6)] [] M (g_qI Q) := by
  refine g_Run.ok fun hok => ?_
  replace h := h hok
  refine r_iload x_20_83 rfl ?_
  refine r_sipush x_20_85 (x := 2000) rfl ?_
  refine r_ic_ge x_20_88 (t := 188) (by decide +kernel) hv6 (g_Rk rfl) (fun hc => ?_) (fun hc => ?_)
  · replace h := h.2 hc
    refine r_aload_n x_20_188 rfl ?_
    obtain ⟨hO1, h⟩ := h
    obtain ⟨b2, hb3, h⟩ := h
    refine r_getR x_20_189 rfl (ci := 1) (k := 0) (ns := 0) (by decide +kernel) (by decide) rfl (kz := 0) rfl hO1 hb3 ?_
    refine r_iload_n x_20_192 rfl ?_
    refine r_invS x_20_193 (z := 111) (ns := 1) (by decide +kernel) (as := [.ref b2, g_n v2]) (r := []) rfl rfl rfl ?_
    refine r_callI h fun r7 M4 hx5 hok6 hr8 h => ?_
    replace h := h hx5 hok6 hr8
    replace hO1 := hO1.up hx5
    refine r_istore_n x_20_196 (by decide +kernel) rfl (lv1 := [(0, .ref a0), (1, g_n v1), (2, g_n r7), (3, g_n v3), (4, g_n v4), (5, g_n v5), (6, g_n v6)]) rfl ?_
    obtain ⟨h9, h⟩ := h
    refine r_iinc x_20_197 (by decide +kernel) rfl rfl (lv1 := [(0, .ref a0), (1, g_n v1), (2, g_n r7), (3, g_n (v3 + 1)), (4, g_n v4), (5, g_n v5), (6, g_n v6)]) rfl ?_
    refine r_goto x_20_200 (t := 11) (by decide +kernel) ?_
    refine g_drop [0, 1, 2, 3] (lv1 := [(0, .ref a0), (1, g_n v1), (2, g_n r7), (3, g_n (v3 + 1))]) rfl ?_
    exact h
  · replace h := h.1 hc
    refine r_aload_n x_20_91 rfl ?_
    obtain ⟨hO10, h⟩ := h
    obtain ⟨b11, hb12, h⟩ := h
    refine r_getR x_20_92 rfl (ci := 1) (k := 0) (ns := 0) (by decide +kernel) (by decide) rfl (kz := 0) rfl hO10 hb12 ?_
    refine r_iload x_20_95 rfl ?_
    refine r_invS x_20_97 (z := 108) (ns := 1) (by decide +kernel) (as := [.ref b11, g_n v5]) (r := []) rfl rfl rfl ?_
    refine r_callI h fun r16 M13 hx14 hok15 hr17 h => ?_
    replace h := h hx14 hok15 hr17
    replace hO10 := hO10.up hx14
    refine r_if_eq x_20_100 (t := 188) (by decide +kernel) hr17 (fun hc => ?_) (fun hc => ?_)
    · replace h := h.1 hc
      refine r_aload_n x_20_188 rfl ?_
      obtain ⟨b18, hb19, h⟩ := h
      refine r_getR x_20_189 rfl (ci := 1) (k := 0) (ns := 0) (by decide +kernel) (by decide) rfl (kz := 0) rfl hO10 hb19 ?_
      refine r_iload_n x_20_192 rfl ?_
      refine r_invS x_20_193 (z := 111) (ns := 1) (by decide +kernel) (as := [.ref b18, g_n v2]) (r := []) rfl rfl rfl ?_
      refine r_callI h fun r23 M20 hx21 hok22 hr24 h => ?_
      replace h := h hx21 hok22 hr24
      replace hO10 := hO10.up hx21
      refine r_istore_n x_20_196 (by decide +kernel) rfl (lv1 := [(0, .ref a0), (1, g_n v1), (2, g_n r23), (3, g_n v3), (4, g_n v4), (5, g_n v5), (6, g_n v6)]) rfl ?_
      obtain ⟨h25, h⟩ := h
      refine r_iinc x_20_197 (by decide +kernel) rfl rfl (lv1 := [(0, .ref a0), (1, g_n v1), (2, g_n r23), (3, g_n (v3 + 1)), (4, g_n v4), (5, g_n v5), (6, g_n v6)]) rfl ?_
      refine r_goto x_20_200 (t := 11) (by decide +kernel) ?_
      refine g_drop [0, 1, 2, 3] (lv1 := [(0, .ref a0), (1, g_n v1), (2, g_n r23), (3, g_n (v3 + 1))]) rfl ?_
      exact h
    · replace h := h.2 hc
      refine r_aload_n x_20_103 rfl ?_
      obtain ⟨b26, hb27, h⟩ := h
      refine r_getR x_20_104 rfl (ci := 1) (k := 1) (ns := 0) (by decide +kernel) (by decide) rfl (kz := 1) rfl hO10 hb27 ?_
      refine r_aload_n x_20_107 rfl ?_
      obtain ⟨b28, hb29, h⟩ := h
      refine r_getR x_20_108 rfl (ci := 1) (k := 0) (ns := 0) (by decide +kernel) (by decide) rfl (kz := 0) rfl hO10 hb29 ?_
      refine r_iload x_20_111 rfl ?_
      obtain ⟨hO30, h⟩ := h
      refine r_invV x_20_113 (z := 91) (ns := 1) (by decide +kernel) (as := [.ref b28, g_n v5]) (r := []) rfl rfl rfl hO30 rfl rfl ?_
      refine r_callI h fun r34 M31 hx32 hok33 hr35 h => ?_
      replace h := h hx32 hok33 hr35
      replace hO10 := hO10.up hx32
      replace hO30 := hO30.up hx32
      refine r_if_ne x_20_116 (t := 127) (by decide +kernel) hr35 (fun hc => ?_) (fun hc => ?_)
      · replace h := h.2 hc
        refine r_iload x_20_127 rfl ?_
        refine r_iconst x_20_129 ?_
        refine r_ic_ne x_20_130 (t := 153) (by decide +kernel) hv4 (g_Rk rfl) (fun hc => ?_) (fun hc => ?_)
        · replace h := h.2 hc
          exact h
        · replace h := h.1 hc
          refine r_aload_n x_20_133 rfl ?_
          obtain ⟨b36, hb37, h⟩ := h
          refine r_getR x_20_134 rfl (ci := 1) (k := 0) (ns := 0) (by decide +kernel) (by decide) rfl (kz := 0) rfl hO10 hb37 ?_
          refine r_iload x_20_137 rfl ?_
          refine r_invS x_20_139 (z := 117) (ns := 1) (by decide +kernel) (as := [.ref b36, g_n v5]) (r := []) rfl rfl rfl ?_
          refine r_callI h fun r41 M38 hx39 hok40 hr42 h => ?_
          replace h := h hx39 hok40 hr42
          replace hO10 := hO10.up hx39
          replace hO30 := hO30.up hx39
          refine r_if_ne x_20_142 (t := 153) (by decide +kernel) hr42 (fun hc => ?_) (fun hc => ?_)
          · replace h := h.2 hc
            exact h
          · replace h := h.1 hc
            refine r_aload_n x_20_145 rfl ?_
            refine r_iconst x_20_146 ?_
            refine r_iload x_20_147 rfl ?_
            refine r_invV x_20_149 (z := 19) (ns := 0) (by decide +kernel) (as := [g_n 4, g_n v5]) (r := []) rfl rfl rfl hO10 rfl rfl ?_
            refine r_callI h fun r46 M43 hx44 hok45 hr47 h => ?_
            replace h := h hx44 hok45 hr47
            replace hO10 := hO10.up hx44
            replace hO30 := hO30.up hx44
            obtain ⟨hz, h⟩ := h
            exact r_retZ x_20_152 rfl hz h
      · replace h := h.1 hc
        refine r_aload_n x_20_119 rfl ?_
        refine r_iconst x_20_120 ?_
        refine r_iload x_20_121 rfl ?_
        refine r_invV x_20_123 (z := 19) (ns := 0) (by decide +kernel) (as := [g_n 3, g_n v5]) (r := []) rfl rfl rfl hO10 rfl rfl ?_
        refine r_callI h fun r51 M48 hx49 hok50 hr52 h => ?_
        replace h := h hx49 hok50 hr52
        replace hO10 := hO10.up hx49
        replace hO30 := hO30.up hx49
        obtain ⟨hz, h⟩ := h
        exact r_retZ x_20_126 rfl hz h
theorem s_X1_isRight_153 {d : Nat} {M : g_M} {Q : Int → g_M → Prop} {a0 : Nat} {v1 : Int} (hv1 : g_InR v1) {v2 : Int} (hv2 : g_InR v2) {v3 : Int} (hv3 : g_InR v3) {v4 : Int} (hv4 : g_InR v4) {v5 : Int} (hv5 : g_InR v5) {v6 : Int} (hv6 : g_InR v6) (h : g_ok M → g_O M a0 1 ∧ g_Call d 21 [.ref a0, g_n v1, g_n v5] M (g_qI fun r5 M2 => g_ext M M2 → g_ok M2 → g_InR r5 → ((r5 = 0 → ∃ b7, g_r M2 a0 0 = some b7 ∧ g_Call d 111 [.ref b7, g_n v5] M2 (g_qI fun r12 M9 => g_ext M2 M9 → g_ok M9 → g_InR r12 → g_InR (v6 + 1) ∧ g_Run d 20 83 [(0, .ref a0), (1, g_n v1), (2, g_n v2), (3, g_n v3), (4, g_n v4), (5, g_n r12), (6, g_n (v6 + 1))] [] M9 (g_qI Q))) ∧ (¬ r5 = 0 → g_Call d 19 [.ref a0, g_n 5, g_n v5] M2 (g_qI fun r18 M15 => g_ext M2 M15 → g_ok M15 → g_InR r18 → (r18 = 0 ∨ r18 = 1) ∧ Q r18 M15))))) : g_Run d 20 153 [(0, .ref a0), (1, g_n v1), (2, g_n v2), (3, g_n v3), (4, g_n v4), (5, g_n v5), (6, g_n v6)] [] M (g_qI Q) := by
  refine g_Run.ok fun hok => ?_
  replace h := h hok
  refine r_aload_n x_20_153 rfl ?_
  refine r_iload_n x_20_154 rfl ?_
  refine r_iload x_20_155 rfl ?_
  obtain ⟨hO1, h⟩ := h
  refine r_invV x_20_157 (z := 21) (ns := 0) (by decide +kernel) (as := [g_n v1, g_n v5]) (r := []) rfl rfl rfl hO1 rfl rfl ?_
  refine r_callI h fun r5 M2 hx3 hok4 hr6 h => ?_
  replace h := h hx3 hok4 hr6
  replace hO1 := hO1.up hx3
  refine r_if_eq x_20_160 (t := 171) (by decide +kernel) hr6 (fun hc => ?_) (fun hc => ?_)
  · replace h := h.1 hc
    refine r_aload_n x_20_171 rfl ?_
    obtain ⟨b7, hb8, h⟩ := h
    refine r_getR x_20_172 rfl (ci := 1) (k := 0) (ns := 0) (by decide +kernel) (by decide) rfl (kz := 0) rfl hO1 hb8 ?_
    refine r_iload x_20_175 rfl ?_
    refine r_invS x_20_177 (z := 111) (ns := 1) (by decide +kernel) (as := [.ref b7, g_n v5]) (r := []) rfl rfl rfl ?_
    refine r_callI h fun r12 M9 hx10 hok11 hr13 h => ?_
    replace h := h hx10 hok11 hr13
    replace hO1 := hO1.up hx10
    refine r_istore x_20_180 (by decide +kernel) rfl (lv1 := [(0, .ref a0), (1, g_n v1), (2, g_n v2), (3, g_n v3), (4, g_n v4), (5, g_n r12), (6, g_n v6)]) rfl ?_
    obtain ⟨h14, h⟩ := h
    refine r_iinc x_20_182 (by decide +kernel) rfl rfl (lv1 := [(0, .ref a0), (1, g_n v1), (2, g_n v2), (3, g_n v3), (4, g_n v4), (5, g_n r12), (6, g_n (v6 + 1))]) rfl ?_
    refine r_goto x_20_185 (t := 83) (by decide +kernel) ?_
    exact h
  · replace h := h.2 hc
    refine r_aload_n x_20_163 rfl ?_
    refine r_iconst x_20_164 ?_
    refine r_iload x_20_165 rfl ?_
    refine r_invV x_20_167 (z := 19) (ns := 0) (by decide +kernel) (as := [g_n 5, g_n v5]) (r := []) rfl rfl rfl hO1 rfl rfl ?_
    refine r_callI h fun r18 M15 hx16 hok17 hr19 h => ?_
    replace h := h hx16 hok17 hr19
    replace hO1 := hO1.up hx16
    obtain ⟨hz, h⟩ := h
    exact r_retZ x_20_170 rfl hz h
theorem m_X1_clashes {d : Nat} {M : g_M} {Q : Int → g_M → Prop} {a0 : Nat} {v1 : Int} (hv1 : g_InR v1) {v2 : Int} (hv2 : g_InR v2) (h : g_ok M → g_O M a0 1 ∧ ∃ b2, g_r M a0 0 = some b2 ∧ g_Call d 112 [.ref b2, g_n v1] M (g_qI fun r7 M4 => g_ext M M4 → g_ok M4 → g_InR r7 → g_Run d 21 12 [(0, .ref a0), (1, g_n v1), (2, g_n v2), (3, g_n r7), (4, g_n 0)] [] M4 (g_qI Q))) : g_Call (d + 1) 21 [.ref a0, g_n v1, g_n v2] M (g_qI Q) := by
  refine g_Call.ok fun hok0 => ?_
  replace h := h hok0
  refine r_body rfl (lv := [(0, .ref a0), (1, g_n v1), (2, g_n v2)]) rfl ?_
  refine g_Run.ok fun hok => ?_
  refine r_aload_n x_21_0 rfl ?_
  obtain ⟨hO1, h⟩ := h
  obtain ⟨b2, hb3, h⟩ := h
  refine r_getR x_21_1 rfl (ci := 1) (k := 0) (ns := 0) (by decide +kernel) (by decide) rfl (kz := 0) rfl hO1 hb3 ?_
  refine r_iload_n x_21_4 rfl ?_
  refine r_invS x_21_5 (z := 112) (ns := 1) (by decide +kernel) (as := [.ref b2, g_n v1]) (r := []) rfl rfl rfl ?_
  refine r_callI h fun r7 M4 hx5 hok6 hr8 h => ?_
  replace h := h hx5 hok6 hr8
  replace hO1 := hO1.up hx5
  refine r_istore_n x_21_8 (by decide +kernel) rfl (lv1 := [(0, .ref a0), (1, g_n v1), (2, g_n v2), (3, g_n r7)]) rfl ?_
  refine r_iconst x_21_9 ?_
  refine r_istore x_21_10 (by decide +kernel) rfl (lv1 := [(0, .ref a0), (1, g_n v1), (2, g_n v2), (3, g_n r7), (4, g_n 0)]) rfl ?_
  exact h
theorem s_X1_clashes_12 {d : Nat} {M : g_M} {Q : Int → g_M → Prop} {a0 : Nat} {v1 : Int} (hv1 : g_InR v1) {v2 : Int} (hv2 : g_InR v2) {v3 : Int} (hv3 : g_InR v3) {v4 : Int} (hv4 : g_InR v4) (h : g_ok M → ((v4 < 2000 → g_O M a0 1 ∧ ∃ b2, g_r M a0 0 = some b2 ∧ g_Call d 108 [.ref b2, g_n v3] M (g_qI fun r7 M4 => g_ext M M4 → g_ok M4 → g_InR r7 → ((r7 = 0 → Q 0 M4) ∧ (¬ r7 = 0 → ((v3 < v2 → ∃ b9, g_r M4 a0 0 = some b9 ∧ g_Call d 112 [.ref b9, g_n v3] M4 (g_qI fun r14 M11 => g_ext M4 M11 → g_ok M11 → g_InR r14 → g_Run d 21 49 [(0, .ref a0), (1, g_n v1), (2, g_n v2), (3, g_n v3), (4, g_n v4), (5, g_n r14), (6, g_n 0)] [] M11 (g_qI Q))) ∧ (¬ v3 < v2 → Q 0 M4)))))) ∧ (¬ v4 < 2000 → Q 0 M))) : g_Run d 21 12 [(0, .ref a0), (1, g_n v1), (2, g_n v2), (3, g_n v3), (4, g_n v4)] [] M (g_qI Q) := by
  refine g_Run.ok fun hok => ?_
  replace h := h hok
  refine r_iload x_21_12 rfl ?_
  refine r_sipush x_21_14 (x := 2000) rfl ?_
  refine r_ic_ge x_21_17 (t := 119) (by decide +kernel) hv4 (g_Rk rfl) (fun hc => ?_) (fun hc => ?_)
  · replace h := h.2 hc
    refine r_iconst x_21_119 ?_
    exact r_retZ x_21_120 rfl (Or.inl rfl) h
  · replace h := h.1 hc
    refine r_aload_n x_21_20 rfl ?_
    obtain ⟨hO1, h⟩ := h
    obtain ⟨b2, hb3, h⟩ := h
    refine r_getR x_21_21 rfl (ci := 1) (k := 0) (ns := 0) (by decide +kernel) (by decide) rfl (kz := 0) rfl hO1 hb3 ?_
    refine r_iload_n x_21_24 rfl ?_
    refine r_invS x_21_25 (z := 108) (ns := 1) (by decide +kernel) (as := [.ref b2, g_n v3]) (r := []) rfl rfl rfl ?_
    refine r_callI h fun r7 M4 hx5 hok6 hr8 h => ?_
    replace h := h hx5 hok6 hr8
    replace hO1 := hO1.up hx5
    refine r_if_eq x_21_28 (t := 119) (by decide +kernel) hr8 (fun hc => ?_) (fun hc => ?_)
    · replace h := h.1 hc
      refine r_iconst x_21_119 ?_
      exact r_retZ x_21_120 rfl (Or.inl rfl) h
    · replace h := h.2 hc
      refine r_iload_n x_21_31 rfl ?_
      refine r_iload_n x_21_32 rfl ?_
      refine r_ic_ge x_21_33 (t := 119) (by decide +kernel) hv3 hv2 (fun hc => ?_) (fun hc => ?_)
      · replace h := h.2 hc
        refine r_iconst x_21_119 ?_
        exact r_retZ x_21_120 rfl (Or.inl rfl) h
      · replace h := h.1 hc
        refine r_aload_n x_21_36 rfl ?_
        obtain ⟨b9, hb10, h⟩ := h
        refine r_getR x_21_37 rfl (ci := 1) (k := 0) (ns := 0) (by decide +kernel) (by decide) rfl (kz := 0) rfl hO1 hb10 ?_
        refine r_iload_n x_21_40 rfl ?_
        refine r_invS x_21_41 (z := 112) (ns := 1) (by decide +kernel) (as := [.ref b9, g_n v3]) (r := []) rfl rfl rfl ?_
        refine r_callI h fun r14 M11 hx12 hok13 hr15 h => ?_
        replace h := h hx12 hok13 hr15
        replace hO1 := hO1.up hx12
        refine r_istore x_21_44 (by decide +kernel) rfl (lv1 := [(0, .ref a0), (1, g_n v1), (2, g_n v2), (3, g_n v3), (4, g_n v4), (5, g_n r14)]) rfl ?_
        refine r_iconst x_21_46 ?_
        refine r_istore x_21_47 (by decide +kernel) rfl (lv1 := [(0, .ref a0), (1, g_n v1), (2, g_n v2), (3, g_n v3), (4, g_n v4), (5, g_n r14), (6, g_n 0)]) rfl ?_
        exact h
theorem s_X1_clashes_49 {d : Nat} {M : g_M} {Q : Int → g_M → Prop} {a0 : Nat} {v1 : Int} (hv1 : g_InR v1) {v2 : Int} (hv2 : g_InR v2) {v3 : Int} (hv3 : g_InR v3) {v4 : Int} (hv4 : g_InR v4) {v5 : Int} (hv5 : g_InR v5) {v6 : Int} (hv6 : g_InR v6) (h : g_ok M → ((v6 < 2000 → g_O M a0 1 ∧ ∃ b11, g_r M a0 0 = some b11 ∧ g_Call d 108 [.ref b11, g_n v5] M (g_qI fun r16 M13 => g_ext M M13 → g_ok M13 → g_InR r16 → ((r16 = 0 → ∃ b18, g_r M13 a0 0 = some b18 ∧ g_Call d 111 [.ref b18, g_n v3] M13 (g_qI fun r23 M20 => g_ext M13 M20 → g_ok M20 → g_InR r23 → g_InR (v4 + 1) ∧ g_Run d 21 12 [(0, .ref a0), (1, g_n v1), (2, g_n v2), (3, g_n r23), (4, g_n (v4 + 1))] [] M20 (g_qI Q))) ∧ (¬ r16 = 0 → ((v5 < v2 → g_Call d 22 [.ref a0, g_n v5, g_n v2] M13 (g_qI fun r37 M34 => g_ext M13 M34 → g_ok M34 → g_InR r37 → ((r37 = 0 → ∃ b39, g_r M34 a0 0 = some b39 ∧ g_Call d 111 [.ref b39, g_n v5] M34 (g_qI fun r44 M41 => g_ext M34 M41 → g_ok M41 → g_InR r44 → g_InR (v6 + 1) ∧ g_Run d 21 49 [(0, .ref a0), (1, g_n v1), (2, g_n v2), (3, g_n v3), (4, g_n v4), (5, g_n r44), (6, g_n (v6 + 1))] [] M41 (g_qI Q))) ∧ (¬ r37 = 0 → Q 1 M34)))) ∧ (¬ v5 < v2 → ∃ b26, g_r M13 a0 0 = some b26 ∧ g_Call d 111 [.ref b26, g_n v3] M13 (g_qI fun r31 M28 => g_ext M13 M28 → g_ok M28 → g_InR r31 → g_InR (v4 + 1) ∧ g_Run d 21 12 [(0, .ref a0), (1, g_n v1), (2, g_n v2), (3, g_n r31), (4, g_n (v4 + 1))] [] M28 (g_qI Q)))))))) ∧ (¬ v6 < 2000 → g_O M a0 1 ∧ ∃ b2, g_r M a0 0 = some b2 ∧ g_Call d 111 [.ref b2, g_n v3] M (g_qI fun r7 M4 => g_ext M M4 → g_ok M4 → g_InR r7 → g_InR (v4 + 1) ∧ g_Run d 21 12 [(0, .ref a0), (1, g_n v1), (2, g_n v2), (3, g_n r7), (4, g_n (v4 + 1))] [] M4 (g_qI Q))))) : g_Run d 21 49 [(0, .ref a0), (1, g_n v1), (2, g_n v2), (3, g_n v3), (4, g_n v4), (5, g_n v5), (6, g_n v6)] [] M (g_qI Q) := by
  refine g_Run.ok fun hok => ?_
  replace h := h hok
  refine r_iload x_21_49 rfl ?_
  refine r_sipush x_21_51 (x := 2000) rfl ?_
  refine r_ic_ge x_21_54 (t := 104) (by decide +kernel) hv6 (g_Rk rfl) (fun hc => ?_) (fun hc => ?_)
  · replace h := h.2 hc
    refine r_aload_n x_21_104 rfl ?_
    obtain ⟨hO1, h⟩ := h
    obtain ⟨b2, hb3, h⟩ := h
    refine r_getR x_21_105 rfl (ci := 1) (k := 0) (ns := 0) (by decide +kernel) (by decide) rfl (kz := 0) rfl hO1 hb3 ?_
    refine r_iload_n x_21_108 rfl ?_
    refine r_invS x_21_109 (z := 111) (ns := 1) (by decide +kernel) (as := [.ref b2, g_n v3]) (r := []) rfl rfl rfl ?_
    refine r_callI h fun r7 M4 hx5 hok6 hr8 h => ?_
    replace h := h hx5 hok6 hr8
    replace hO1 := hO1.up hx5
    refine r_istore_n x_21_112 (by decide +kernel) rfl (lv1 := [(0, .ref a0), (1, g_n v1), (2, g_n v2), (3, g_n r7), (4, g_n v4), (5, g_n v5), (6, g_n v6)]) rfl ?_
    obtain ⟨h9, h⟩ := h
    refine r_iinc x_21_113 (by decide +kernel) rfl rfl (lv1 := [(0, .ref a0), (1, g_n v1), (2, g_n v2), (3, g_n r7), (4, g_n (v4 + 1)), (5, g_n v5), (6, g_n v6)]) rfl ?_
    refine r_goto x_21_116 (t := 12) (by decide +kernel) ?_
    refine g_drop [0, 1, 2, 3, 4] (lv1 := [(0, .ref a0), (1, g_n v1), (2, g_n v2), (3, g_n r7), (4, g_n (v4 + 1))]) rfl ?_
    exact h
  · replace h := h.1 hc
    refine r_aload_n x_21_57 rfl ?_
    obtain ⟨hO10, h⟩ := h
    obtain ⟨b11, hb12, h⟩ := h
    refine r_getR x_21_58 rfl (ci := 1) (k := 0) (ns := 0) (by decide +kernel) (by decide) rfl (kz := 0) rfl hO10 hb12 ?_
    refine r_iload x_21_61 rfl ?_
    refine r_invS x_21_63 (z := 108) (ns := 1) (by decide +kernel) (as := [.ref b11, g_n v5]) (r := []) rfl rfl rfl ?_
    refine r_callI h fun r16 M13 hx14 hok15 hr17 h => ?_
    replace h := h hx14 hok15 hr17
    replace hO10 := hO10.up hx14
    refine r_if_eq x_21_66 (t := 104) (by decide +kernel) hr17 (fun hc => ?_) (fun hc => ?_)
    · replace h := h.1 hc
      refine r_aload_n x_21_104 rfl ?_
      obtain ⟨b18, hb19, h⟩ := h
      refine r_getR x_21_105 rfl (ci := 1) (k := 0) (ns := 0) (by decide +kernel) (by decide) rfl (kz := 0) rfl hO10 hb19 ?_
      refine r_iload_n x_21_108 rfl ?_
      refine r_invS x_21_109 (z := 111) (ns := 1) (by decide +kernel) (as := [.ref b18, g_n v3]) (r := []) rfl rfl rfl ?_
      refine r_callI h fun r23 M20 hx21 hok22 hr24 h => ?_
      replace h := h hx21 hok22 hr24
      replace hO10 := hO10.up hx21
      refine r_istore_n x_21_112 (by decide +kernel) rfl (lv1 := [(0, .ref a0), (1, g_n v1), (2, g_n v2), (3, g_n r23), (4, g_n v4), (5, g_n v5), (6, g_n v6)]) rfl ?_
      obtain ⟨h25, h⟩ := h
      refine r_iinc x_21_113 (by decide +kernel) rfl rfl (lv1 := [(0, .ref a0), (1, g_n v1), (2, g_n v2), (3, g_n r23), (4, g_n (v4 + 1)), (5, g_n v5), (6, g_n v6)]) rfl ?_
      refine r_goto x_21_116 (t := 12) (by decide +kernel) ?_
      refine g_drop [0, 1, 2, 3, 4] (lv1 := [(0, .ref a0), (1, g_n v1), (2, g_n v2), (3, g_n r23), (4, g_n (v4 + 1))]) rfl ?_
      exact h
    · replace h := h.2 hc
      refine r_iload x_21_69 rfl ?_
      refine r_iload_n x_21_71 rfl ?_
      refine r_ic_ge x_21_72 (t := 104) (by decide +kernel) hv5 hv2 (fun hc => ?_) (fun hc => ?_)
      · replace h := h.2 hc
        refine r_aload_n x_21_104 rfl ?_
        obtain ⟨b26, hb27, h⟩ := h
        refine r_getR x_21_105 rfl (ci := 1) (k := 0) (ns := 0) (by decide +kernel) (by decide) rfl (kz := 0) rfl hO10 hb27 ?_
        refine r_iload_n x_21_108 rfl ?_
        refine r_invS x_21_109 (z := 111) (ns := 1) (by decide +kernel) (as := [.ref b26, g_n v3]) (r := []) rfl rfl rfl ?_
        refine r_callI h fun r31 M28 hx29 hok30 hr32 h => ?_
        replace h := h hx29 hok30 hr32
        replace hO10 := hO10.up hx29
        refine r_istore_n x_21_112 (by decide +kernel) rfl (lv1 := [(0, .ref a0), (1, g_n v1), (2, g_n v2), (3, g_n r31), (4, g_n v4), (5, g_n v5), (6, g_n v6)]) rfl ?_
        obtain ⟨h33, h⟩ := h
        refine r_iinc x_21_113 (by decide +kernel) rfl rfl (lv1 := [(0, .ref a0), (1, g_n v1), (2, g_n v2), (3, g_n r31), (4, g_n (v4 + 1)), (5, g_n v5), (6, g_n v6)]) rfl ?_
        refine r_goto x_21_116 (t := 12) (by decide +kernel) ?_
        refine g_drop [0, 1, 2, 3, 4] (lv1 := [(0, .ref a0), (1, g_n v1), (2, g_n v2), (3, g_n r31), (4, g_n (v4 + 1))]) rfl ?_
        exact h
      · replace h := h.1 hc
        refine r_aload_n x_21_75 rfl ?_
        refine r_iload x_21_76 rfl ?_
        refine r_iload_n x_21_78 rfl ?_
        refine r_invV x_21_79 (z := 22) (ns := 0) (by decide +kernel) (as := [g_n v5, g_n v2]) (r := []) rfl rfl rfl hO10 rfl rfl ?_
        refine r_callI h fun r37 M34 hx35 hok36 hr38 h => ?_
        replace h := h hx35 hok36 hr38
        replace hO10 := hO10.up hx35
        refine r_if_eq x_21_82 (t := 87) (by decide +kernel) hr38 (fun hc => ?_) (fun hc => ?_)
        · replace h := h.1 hc
          refine r_aload_n x_21_87 rfl ?_
          obtain ⟨b39, hb40, h⟩ := h
          refine r_getR x_21_88 rfl (ci := 1) (k := 0) (ns := 0) (by decide +kernel) (by decide) rfl (kz := 0) rfl hO10 hb40 ?_
          refine r_iload x_21_91 rfl ?_
          refine r_invS x_21_93 (z := 111) (ns := 1) (by decide +kernel) (as := [.ref b39, g_n v5]) (r := []) rfl rfl rfl ?_
          refine r_callI h fun r44 M41 hx42 hok43 hr45 h => ?_
          replace h := h hx42 hok43 hr45
          replace hO10 := hO10.up hx42
          refine r_istore x_21_96 (by decide +kernel) rfl (lv1 := [(0, .ref a0), (1, g_n v1), (2, g_n v2), (3, g_n v3), (4, g_n v4), (5, g_n r44), (6, g_n v6)]) rfl ?_
          obtain ⟨h46, h⟩ := h
          refine r_iinc x_21_98 (by decide +kernel) rfl rfl (lv1 := [(0, .ref a0), (1, g_n v1), (2, g_n v2), (3, g_n v3), (4, g_n v4), (5, g_n r44), (6, g_n (v6 + 1))]) rfl ?_
          refine r_goto x_21_101 (t := 49) (by decide +kernel) ?_
          exact h
        · replace h := h.2 hc
          refine r_iconst x_21_85 ?_
          exact r_retZ x_21_86 rfl (Or.inr rfl) h
theorem m_X1_oneBeginsOther {d : Nat} {M : g_M} {Q : Int → g_M → Prop} {a0 : Nat} {v1 : Int} (hv1 : g_InR v1) {v2 : Int} (hv2 : g_InR v2) (h : g_ok M → g_O M a0 1 ∧ ∃ b2, g_r M a0 0 = some b2 ∧ g_Call d 110 [.ref b2, g_n v1] M (g_qI fun r7 M4 => g_ext M M4 → g_ok M4 → g_InR r7 → g_InR (r7 - 1) ∧ g_InR (v1 + 1) ∧ g_InR ((r7 - 1) - (v1 + 1)) ∧ ∃ b12, g_r M4 a0 0 = some b12 ∧ g_Call d 110 [.ref b12, g_n v2] M4 (g_qI fun r17 M14 => g_ext M4 M14 → g_ok M14 → g_InR r17 → g_InR (r17 - 1) ∧ g_InR (v2 + 1) ∧ g_InR ((r17 - 1) - (v2 + 1)) ∧ ∃ b22, g_r M14 a0 0 = some b22 ∧ g_InR (v1 + 1) ∧ g_InR (v1 + 1) ∧ g_InR ((v1 + 1) + (min ((r7 - 1) - (v1 + 1)) ((r17 - 1) - (v2 + 1)))) ∧ ∃ b27, g_r M14 a0 0 = some b27 ∧ g_InR (v2 + 1) ∧ g_InR (v2 + 1) ∧ g_InR ((v2 + 1) + (min ((r7 - 1) - (v1 + 1)) ((r17 - 1) - (v2 + 1)))) ∧ g_Call d 123 [.ref b22, g_n (v1 + 1), g_n ((v1 + 1) + (min ((r7 - 1) - (v1 + 1)) ((r17 - 1) - (v2 + 1)))), .ref b27, g_n (v2 + 1), g_n ((v2 + 1) + (min ((r7 - 1) - (v1 + 1)) ((r17 - 1) - (v2 + 1))))] M14 (g_qI fun r35 M32 => g_ext M14 M32 → g_ok M32 → g_InR r35 → ((r35 = 0 → (((r7 - 1) - (v1 + 1) = (r17 - 1) - (v2 + 1) → Q 1 M32) ∧ (¬ (r7 - 1) - (v1 + 1) = (r17 - 1) - (v2 + 1) → ∃ b37, g_r M32 a0 0 = some b37 ∧ (((r17 - 1) - (v2 + 1) < (r7 - 1) - (v1 + 1) → g_Run d 22 94 [(0, .ref a0), (1, g_n v1), (2, g_n v2), (3, g_n ((r7 - 1) - (v1 + 1))), (4, g_n ((r17 - 1) - (v2 + 1))), (5, g_n (min ((r7 - 1) - (v1 + 1)) ((r17 - 1) - (v2 + 1))))] [g_n v1, .ref b37] M32 (g_qI Q)) ∧ (¬ (r17 - 1) - (v2 + 1) < (r7 - 1) - (v1 + 1) → g_Run d 22 94 [(0, .ref a0), (1, g_n v1), (2, g_n v2), (3, g_n ((r7 - 1) - (v1 + 1))), (4, g_n ((r17 - 1) - (v2 + 1))), (5, g_n (min ((r7 - 1) - (v1 + 1)) ((r17 - 1) - (v2 + 1))))] [g_n v2, .ref b37] M32 (g_qI Q)))))) ∧ (¬ r35 = 0 → Q 0 M32)))))) : g_Call (d + 1) 22 [.ref a0, g_n v1, g_n v2] M (g_qI Q) := by
  refine g_Call.ok fun hok0 => ?_
  replace h := h hok0
  refine r_body rfl (lv := [(0, .ref a0), (1, g_n v1), (2, g_n v2)]) rfl ?_
  refine g_Run.ok fun hok => ?_
  refine r_aload_n x_22_0 rfl ?_
  obtain ⟨hO1, h⟩ := h
  obtain ⟨b2, hb3, h⟩ := h
  refine r_getR x_22_1 rfl (ci := 1) (k := 0) (ns := 0) (by decide +kernel) (by decide) rfl (kz := 0) rfl hO1 hb3 ?_
  refine r_iload_n x_22_4 rfl ?_
  refine r_invS x_22_5 (z := 110) (ns := 1) (by decide +kernel) (as := [.ref b2, g_n v1]) (r := []) rfl rfl rfl ?_
  refine r_callI h fun r7 M4 hx5 hok6 hr8 h => ?_
  replace h := h hx5 hok6 hr8
  replace hO1 := hO1.up hx5
  refine r_iconst x_22_8 ?_
  refine r_isub x_22_9 ?_
  obtain ⟨h9, h⟩ := h
  refine r_iload_n x_22_10 rfl ?_
  refine r_iconst x_22_11 ?_
  refine r_iadd x_22_12 ?_
  obtain ⟨h10, h⟩ := h
  refine r_isub x_22_13 ?_
  obtain ⟨h11, h⟩ := h
  refine r_istore_n x_22_14 (by decide +kernel) rfl (lv1 := [(0, .ref a0), (1, g_n v1), (2, g_n v2), (3, g_n ((r7 - 1) - (v1 + 1)))]) rfl ?_
  refine r_aload_n x_22_15 rfl ?_
  obtain ⟨b12, hb13, h⟩ := h
  refine r_getR x_22_16 rfl (ci := 1) (k := 0) (ns := 0) (by decide +kernel) (by decide) rfl (kz := 0) rfl hO1 hb13 ?_
  refine r_iload_n x_22_19 rfl ?_
  refine r_invS x_22_20 (z := 110) (ns := 1) (by decide +kernel) (as := [.ref b12, g_n v2]) (r := []) rfl rfl rfl ?_
  refine r_callI h fun r17 M14 hx15 hok16 hr18 h => ?_
  replace h := h hx15 hok16 hr18
  replace hO1 := hO1.up hx15
  refine r_iconst x_22_23 ?_
  refine r_isub x_22_24 ?_
  obtain ⟨h19, h⟩ := h
  refine r_iload_n x_22_25 rfl ?_
  refine r_iconst x_22_26 ?_
  refine r_iadd x_22_27 ?_
  obtain ⟨h20, h⟩ := h
  refine r_isub x_22_28 ?_
  obtain ⟨h21, h⟩ := h
  refine r_istore x_22_29 (by decide +kernel) rfl (lv1 := [(0, .ref a0), (1, g_n v1), (2, g_n v2), (3, g_n ((r7 - 1) - (v1 + 1))), (4, g_n ((r17 - 1) - (v2 + 1)))]) rfl ?_
  refine r_iload_n x_22_31 rfl ?_
  refine r_iload x_22_32 rfl ?_
  refine r_min x_22_34 rfl rfl rfl rfl h11 h21 ?_
  refine r_istore x_22_37 (by decide +kernel) rfl (lv1 := [(0, .ref a0), (1, g_n v1), (2, g_n v2), (3, g_n ((r7 - 1) - (v1 + 1))), (4, g_n ((r17 - 1) - (v2 + 1))), (5, g_n (min ((r7 - 1) - (v1 + 1)) ((r17 - 1) - (v2 + 1))))]) rfl ?_
  refine r_aload_n x_22_39 rfl ?_
  obtain ⟨b22, hb23, h⟩ := h
  refine r_getR x_22_40 rfl (ci := 1) (k := 0) (ns := 0) (by decide +kernel) (by decide) rfl (kz := 0) rfl hO1 hb23 ?_
  refine r_iload_n x_22_43 rfl ?_
  refine r_iconst x_22_44 ?_
  refine r_iadd x_22_45 ?_
  obtain ⟨h24, h⟩ := h
  refine r_iload_n x_22_46 rfl ?_
  refine r_iconst x_22_47 ?_
  refine r_iadd x_22_48 ?_
  obtain ⟨h25, h⟩ := h
  refine r_iload x_22_49 rfl ?_
  refine r_iadd x_22_51 ?_
  obtain ⟨h26, h⟩ := h
  refine r_aload_n x_22_52 rfl ?_
  obtain ⟨b27, hb28, h⟩ := h
  refine r_getR x_22_53 rfl (ci := 1) (k := 0) (ns := 0) (by decide +kernel) (by decide) rfl (kz := 0) rfl hO1 hb28 ?_
  refine r_iload_n x_22_56 rfl ?_
  refine r_iconst x_22_57 ?_
  refine r_iadd x_22_58 ?_
  obtain ⟨h29, h⟩ := h
  refine r_iload_n x_22_59 rfl ?_
  refine r_iconst x_22_60 ?_
  refine r_iadd x_22_61 ?_
  obtain ⟨h30, h⟩ := h
  refine r_iload x_22_62 rfl ?_
  refine r_iadd x_22_64 ?_
  obtain ⟨h31, h⟩ := h
  refine r_invS x_22_65 (z := 123) (ns := 1) (by decide +kernel) (as := [.ref b22, g_n (v1 + 1), g_n ((v1 + 1) + (min ((r7 - 1) - (v1 + 1)) ((r17 - 1) - (v2 + 1)))), .ref b27, g_n (v2 + 1), g_n ((v2 + 1) + (min ((r7 - 1) - (v1 + 1)) ((r17 - 1) - (v2 + 1))))]) (r := []) rfl rfl rfl ?_
  refine r_callI h fun r35 M32 hx33 hok34 hr36 h => ?_
  replace h := h hx33 hok34 hr36
  replace hO1 := hO1.up hx33
  refine r_if_eq x_22_68 (t := 73) (by decide +kernel) hr36 (fun hc => ?_) (fun hc => ?_)
  · replace h := h.1 hc
    refine r_iload_n x_22_73 rfl ?_
    refine r_iload x_22_74 rfl ?_
    refine r_ic_eq x_22_76 (t := 107) (by decide +kernel) h11 h21 (fun hc => ?_) (fun hc => ?_)
    · replace h := h.1 hc
      refine r_iconst x_22_107 ?_
      refine r_goto x_22_108 (t := 112) (by decide +kernel) ?_
      exact r_retZ x_22_112 rfl (Or.inr rfl) h
    · replace h := h.2 hc
      refine r_aload_n x_22_79 rfl ?_
      obtain ⟨b37, hb38, h⟩ := h
      refine r_getR x_22_80 rfl (ci := 1) (k := 0) (ns := 0) (by decide +kernel) (by decide) rfl (kz := 0) rfl hO1 hb38 ?_
      refine r_iload_n x_22_83 rfl ?_
      refine r_iload x_22_84 rfl ?_
      refine r_ic_le x_22_86 (t := 93) (by decide +kernel) h11 h21 (fun hc => ?_) (fun hc => ?_)
      · replace h := h.2 hc
        refine r_iload_n x_22_93 rfl ?_
        exact h
      · replace h := h.1 hc
        refine r_iload_n x_22_89 rfl ?_
        refine r_goto x_22_90 (t := 94) (by decide +kernel) ?_
        exact h
  · replace h := h.2 hc
    refine r_iconst x_22_71 ?_
    exact r_retZ x_22_72 rfl (Or.inl rfl) h
theorem s_X1_oneBeginsOther_94 {d : Nat} {M : g_M} {Q : Int → g_M → Prop} {a0 : Nat} {v1 : Int} (hv1 : g_InR v1) {v2 : Int} (hv2 : g_InR v2) {v3 : Int} (hv3 : g_InR v3) {v4 : Int} (hv4 : g_InR v4) {v5 : Int} (hv5 : g_InR v5) {w0 : Int} (hw0 : g_InR w0) {c1 : Nat} (h : g_ok M → g_InR (w0 + 1) ∧ g_InR ((w0 + 1) + v5) ∧ g_Call d 108 [.ref c1, g_n ((w0 + 1) + v5)] M (g_qI fun r6 M3 => g_ext M M3 → g_ok M3 → g_InR r6 → ((r6 = 46 → Q 1 M3) ∧ (¬ r6 = 46 → Q 0 M3)))) : g_Run d 22 94 [(0, .ref a0), (1, g_n v1), (2, g_n v2), (3, g_n v3), (4, g_n v4), (5, g_n v5)] [g_n w0, .ref c1] M (g_qI Q) := by
  refine g_Run.ok fun hok => ?_
  replace h := h hok
  refine r_iconst x_22_94 ?_
  refine r_iadd x_22_95 ?_
  obtain ⟨h1, h⟩ := h
  refine r_iload x_22_96 rfl ?_
  refine r_iadd x_22_98 ?_
  obtain ⟨h2, h⟩ := h
  refine r_invS x_22_99 (z := 108) (ns := 1) (by decide +kernel) (as := [.ref c1, g_n ((w0 + 1) + v5)]) (r := []) rfl rfl rfl ?_
  refine r_callI h fun r6 M3 hx4 hok5 hr7 h => ?_
  replace h := h hx4 hok5 hr7
  refine r_bipush x_22_102 (x := 46) rfl ?_
  refine r_ic_ne x_22_104 (t := 111) (by decide +kernel) hr7 (g_Rk rfl) (fun hc => ?_) (fun hc => ?_)
  · replace h := h.2 hc
    refine r_iconst x_22_111 ?_
    exact r_retZ x_22_112 rfl (Or.inl rfl) h
  · replace h := h.1 hc
    refine r_iconst x_22_107 ?_
    refine r_goto x_22_108 (t := 112) (by decide +kernel) ?_
    exact r_retZ x_22_112 rfl (Or.inr rfl) h
theorem m_X1_does {d : Nat} {M : g_M} {Q : Int → g_M → Prop} {a0 : Nat} {v1 : Int} (hv1 : g_InR v1) {v2 : Int} (hv2 : g_InR v2) (h : g_ok M → g_O M a0 1 ∧ ∃ b2, g_r M a0 0 = some b2 ∧ g_Call d 111 [.ref b2, g_n v1] M (g_qI fun r7 M4 => g_ext M M4 → g_ok M4 → g_InR r7 → g_InR (r7 - v1) ∧ ((v1 < 0 → g_Call d 19 [.ref a0, g_n 9, g_n v2] M4 (g_qI fun r13 M10 => g_ext M4 M10 → g_ok M10 → g_InR r13 → (r13 = 0 ∨ r13 = 1) ∧ Q r13 M10)) ∧ (¬ v1 < 0 → ((r7 - v1 < 0 → g_Call d 19 [.ref a0, g_n 9, g_n v2] M4 (g_qI fun r18 M15 => g_ext M4 M15 → g_ok M15 → g_InR r18 → (r18 = 0 ∨ r18 = 1) ∧ Q r18 M15)) ∧ (¬ r7 - v1 < 0 → ((82800 < r7 - v1 → g_Call d 19 [.ref a0, g_n 9, g_n v2] M4 (g_qI fun r23 M20 => g_ext M4 M20 → g_ok M20 → g_InR r23 → (r23 = 0 ∨ r23 = 1) ∧ Q r23 M20)) ∧ (¬ 82800 < r7 - v1 → g_InR (v1 + (r7 - v1)) ∧ ∃ b26, g_r M4 a0 0 = some b26 ∧ ∃ n28, g_A M4 b26 0 n28 ∧ g_InR n28 ∧ ((n28 < v1 + (r7 - v1) → g_Call d 19 [.ref a0, g_n 9, g_n v2] M4 (g_qI fun r63 M60 => g_ext M4 M60 → g_ok M60 → g_InR r63 → (r63 = 0 ∨ r63 = 1) ∧ Q r63 M60)) ∧ (¬ n28 < v1 + (r7 - v1) → ∃ b31, g_r M4 a0 0 = some b31 ∧ ∃ b33, g_r M4 a0 0 = some b33 ∧ ∃ n35, g_A M4 b31 0 n35 ∧ ∃ n37, g_A M4 b33 0 n37 ∧ ((0 : Int) ≤ v1 ∧ (0 : Int) ≤ 163608 ∧ (0 : Int) ≤ r7 - v1 ∧ (v1 : Int) + (r7 - v1) ≤ n35 ∧ (163608 : Int) + (r7 - v1) ≤ n37) ∧ (∀ M40, M40 = g_cp M4 b31 b33 v1 163608 (r7 - v1) → g_ok M40 → g_InR (163608 + (r7 - v1)) ∧ (∀ M45, M45 = g_wi M40 a0 5 (163608 + (r7 - v1)) → g_ok M45 → (∀ M49, M49 = g_wi M45 a0 6 0 → g_ok M49 → ∃ b53, g_r M49 a0 0 = some b53 ∧ g_Call d 112 [.ref b53, g_n v2] M49 (g_qI fun r58 M55 => g_ext M49 M55 → g_ok M55 → g_InR r58 → g_Run d 23 85 [(0, .ref a0), (1, g_n v1), (2, g_n v2), (3, g_n (r7 - v1)), (4, g_n r58), (5, g_n 0)] [] M55 (g_qI Q))))))))))))))) : g_Call (d + 1) 23 [.ref a0, g_n v1, g_n v2] M (g_qI Q) := by
  refine g_Call.ok fun hok0 => ?_
  replace h := h hok0
  refine r_body rfl (lv := [(0, .ref a0), (1, g_n v1), (2, g_n v2)]) rfl ?_
  refine g_Run.ok fun hok => ?_
  refine r_aload_n x_23_0 rfl ?_
  obtain ⟨hO1, h⟩ := h
  obtain ⟨b2, hb3, h⟩ := h
  refine r_getR x_23_1 rfl (ci := 1) (k := 0) (ns := 0) (by decide +kernel) (by decide) rfl (kz := 0) rfl hO1 hb3 ?_
  refine r_iload_n x_23_4 rfl ?_
  refine r_invS x_23_5 (z := 111) (ns := 1) (by decide +kernel) (as := [.ref b2, g_n v1]) (r := []) rfl rfl rfl ?_
  refine r_callI h fun r7 M4 hx5 hok6 hr8 h => ?_
  replace h := h hx5 hok6 hr8
  replace hO1 := hO1.up hx5
  refine r_iload_n x_23_8 rfl ?_
  refine r_isub x_23_9 ?_
  obtain ⟨h9, h⟩ := h
  refine r_istore_n x_23_10 (by decide +kernel) rfl (lv1 := [(0, .ref a0), (1, g_n v1), (2, g_n v2), (3, g_n (r7 - v1))]) rfl ?_
  refine r_iload_n x_23_11 rfl ?_
  refine r_if_lt x_23_12 (t := 36) (by decide +kernel) hv1 (fun hc => ?_) (fun hc => ?_)
  · replace h := h.1 hc
    refine r_aload_n x_23_36 rfl ?_
    refine r_bipush x_23_37 (x := 9) rfl ?_
    refine r_iload_n x_23_39 rfl ?_
    refine r_invV x_23_40 (z := 19) (ns := 0) (by decide +kernel) (as := [g_n 9, g_n v2]) (r := []) rfl rfl rfl hO1 rfl rfl ?_
    refine r_callI h fun r13 M10 hx11 hok12 hr14 h => ?_
    replace h := h hx11 hok12 hr14
    replace hO1 := hO1.up hx11
    obtain ⟨hz, h⟩ := h
    exact r_retZ x_23_43 rfl hz h
  · replace h := h.2 hc
    refine r_iload_n x_23_15 rfl ?_
    refine r_if_lt x_23_16 (t := 36) (by decide +kernel) h9 (fun hc => ?_) (fun hc => ?_)
    · replace h := h.1 hc
      refine r_aload_n x_23_36 rfl ?_
      refine r_bipush x_23_37 (x := 9) rfl ?_
      refine r_iload_n x_23_39 rfl ?_
      refine r_invV x_23_40 (z := 19) (ns := 0) (by decide +kernel) (as := [g_n 9, g_n v2]) (r := []) rfl rfl rfl hO1 rfl rfl ?_
      refine r_callI h fun r18 M15 hx16 hok17 hr19 h => ?_
      replace h := h hx16 hok17 hr19
      replace hO1 := hO1.up hx16
      obtain ⟨hz, h⟩ := h
      exact r_retZ x_23_43 rfl hz h
    · replace h := h.2 hc
      refine r_iload_n x_23_19 rfl ?_
      refine r_ldc x_23_20 (v := g_n 82800) rfl ?_
      refine r_ic_gt x_23_22 (t := 36) (by decide +kernel) h9 (g_Rk rfl) (fun hc => ?_) (fun hc => ?_)
      · replace h := h.1 hc
        refine r_aload_n x_23_36 rfl ?_
        refine r_bipush x_23_37 (x := 9) rfl ?_
        refine r_iload_n x_23_39 rfl ?_
        refine r_invV x_23_40 (z := 19) (ns := 0) (by decide +kernel) (as := [g_n 9, g_n v2]) (r := []) rfl rfl rfl hO1 rfl rfl ?_
        refine r_callI h fun r23 M20 hx21 hok22 hr24 h => ?_
        replace h := h hx21 hok22 hr24
        replace hO1 := hO1.up hx21
        obtain ⟨hz, h⟩ := h
        exact r_retZ x_23_43 rfl hz h
      · replace h := h.2 hc
        refine r_iload_n x_23_25 rfl ?_
        refine r_iload_n x_23_26 rfl ?_
        refine r_iadd x_23_27 ?_
        obtain ⟨h25, h⟩ := h
        refine r_aload_n x_23_28 rfl ?_
        obtain ⟨b26, hb27, h⟩ := h
        refine r_getR x_23_29 rfl (ci := 1) (k := 0) (ns := 0) (by decide +kernel) (by decide) rfl (kz := 0) rfl hO1 hb27 ?_
        obtain ⟨n28, hA29, h⟩ := h
        refine r_alen x_23_32 hA29 ?_
        obtain ⟨h30, h⟩ := h
        refine r_ic_le x_23_33 (t := 44) (by decide +kernel) h25 h30 (fun hc => ?_) (fun hc => ?_)
        · replace h := h.2 hc
          refine r_aload_n x_23_44 rfl ?_
          obtain ⟨b31, hb32, h⟩ := h
          refine r_getR x_23_45 rfl (ci := 1) (k := 0) (ns := 0) (by decide +kernel) (by decide) rfl (kz := 0) rfl hO1 hb32 ?_
          refine r_iload_n x_23_48 rfl ?_
          refine r_aload_n x_23_49 rfl ?_
          obtain ⟨b33, hb34, h⟩ := h
          refine r_getR x_23_50 rfl (ci := 1) (k := 0) (ns := 0) (by decide +kernel) (by decide) rfl (kz := 0) rfl hO1 hb34 ?_
          refine r_ldc x_23_53 (v := g_n 163608) rfl ?_
          refine r_iload_n x_23_55 rfl ?_
          obtain ⟨n35, hA36, h⟩ := h
          obtain ⟨n37, hA38, h⟩ := h
          obtain ⟨h39, h⟩ := h
          refine r_copy x_23_56 rfl rfl rfl rfl rfl rfl (by decide) hA36 hA38 hv1 (g_Rk rfl) h9 h39.1 h39.2.1 h39.2.2.1 h39.2.2.2.1 h39.2.2.2.2 ?_
          obtain ⟨M40, hM41⟩ : ∃ Mz, Mz = g_cp M4 b31 b33 v1 163608 (r7 - v1) := ⟨_, rfl⟩
          rw [← hM41]
          refine g_Run.ok fun hok42 => ?_
          replace h := h M40 hM41 hok42
          have hx43 := g_extC hM41
          replace hO1 := hO1.up hx43
          replace hA29 := hA29.up hx43
          replace hA36 := hA36.up hx43
          replace hA38 := hA38.up hx43
          refine r_aload_n x_23_59 rfl ?_
          refine r_ldc x_23_60 (v := g_n 163608) rfl ?_
          refine r_iload_n x_23_62 rfl ?_
          refine r_iadd x_23_63 ?_
          obtain ⟨h44, h⟩ := h
          refine r_putI x_23_64 (ci := 1) (k := 5) (ns := 0) (by decide +kernel) (by decide) (g_f0 (by decide +kernel)) rfl h44 trivial (kz := 5) rfl hO1 ?_
          obtain ⟨M45, hM46⟩ : ∃ Mz, Mz = g_wi M40 a0 5 (163608 + (r7 - v1)) := ⟨_, rfl⟩
          rw [← hM46]
          refine g_Run.ok fun hok47 => ?_
          replace h := h M45 hM46 hok47
          have hx48 := g_extW hM46
          replace hO1 := hO1.up hx48
          replace hA29 := hA29.up hx48
          replace hA36 := hA36.up hx48
          replace hA38 := hA38.up hx48
          refine r_aload_n x_23_67 rfl ?_
          refine r_iconst x_23_68 ?_
          refine r_putI x_23_69 (ci := 1) (k := 6) (ns := 0) (by decide +kernel) (by decide) (g_fZ (Or.inl rfl) (by decide +kernel)) rfl (g_Rk rfl) (g_zx (Or.inl rfl) rfl).2 (kz := 6) rfl hO1 ?_
          obtain ⟨M49, hM50⟩ : ∃ Mz, Mz = g_wi M45 a0 6 0 := ⟨_, rfl⟩
          rw [← hM50]
          refine g_Run.ok fun hok51 => ?_
          replace h := h M49 hM50 hok51
          have hx52 := g_extW hM50
          replace hO1 := hO1.up hx52
          replace hA29 := hA29.up hx52
          replace hA36 := hA36.up hx52
          replace hA38 := hA38.up hx52
          refine r_aload_n x_23_72 rfl ?_
          obtain ⟨b53, hb54, h⟩ := h
          refine r_getR x_23_73 rfl (ci := 1) (k := 0) (ns := 0) (by decide +kernel) (by decide) rfl (kz := 0) rfl hO1 hb54 ?_
          refine r_iload_n x_23_76 rfl ?_
          refine r_invS x_23_77 (z := 112) (ns := 1) (by decide +kernel) (as := [.ref b53, g_n v2]) (r := []) rfl rfl rfl ?_
          refine r_callI h fun r58 M55 hx56 hok57 hr59 h => ?_
          replace h := h hx56 hok57 hr59
          replace hO1 := hO1.up hx56
          replace hA29 := hA29.up hx56
          replace hA36 := hA36.up hx56
          replace hA38 := hA38.up hx56
          refine r_istore x_23_80 (by decide +kernel) rfl (lv1 := [(0, .ref a0), (1, g_n v1), (2, g_n v2), (3, g_n (r7 - v1)), (4, g_n r58)]) rfl ?_
          refine r_iconst x_23_82 ?_
          refine r_istore x_23_83 (by decide +kernel) rfl (lv1 := [(0, .ref a0), (1, g_n v1), (2, g_n v2), (3, g_n (r7 - v1)), (4, g_n r58), (5, g_n 0)]) rfl ?_
          exact h
        · replace h := h.1 hc
          refine r_aload_n x_23_36 rfl ?_
          refine r_bipush x_23_37 (x := 9) rfl ?_
          refine r_iload_n x_23_39 rfl ?_
          refine r_invV x_23_40 (z := 19) (ns := 0) (by decide +kernel) (as := [g_n 9, g_n v2]) (r := []) rfl rfl rfl hO1 rfl rfl ?_
          refine r_callI h fun r63 M60 hx61 hok62 hr64 h => ?_
          replace h := h hx61 hok62 hr64
          replace hO1 := hO1.up hx61
          replace hA29 := hA29.up hx61
          obtain ⟨hz, h⟩ := h
          exact r_retZ x_23_43 rfl hz h
theorem s_X1_does_85 {d : Nat} {M : g_M} {Q : Int → g_M → Prop} {a0 : Nat} {v1 : Int} (hv1 : g_InR v1) {v2 : Int} (hv2 : g_InR v2) {v3 : Int} (hv3 : g_InR v3) {v4 : Int} (hv4 : g_InR v4) {v5 : Int} (hv5 : g_InR v5) (h : g_ok M → ((v5 < 2000 → g_O M a0 1 ∧ ∃ b2, g_r M a0 0 = some b2 ∧ g_Call d 108 [.ref b2, g_n v4] M (g_qI fun r7 M4 => g_ext M M4 → g_ok M4 → g_InR r7 → ((r7 = 0 → g_Run d 23 245 [(0, .ref a0), (1, g_n v1), (2, g_n v2), (3, g_n v3), (4, g_n v4), (5, g_n v5)] [] M4 (g_qI Q)) ∧ (¬ r7 = 0 → ∃ b9, g_r M4 a0 0 = some b9 ∧ g_Call d 18 [.ref b9, g_n v4] M4 (g_qI fun r14 M11 => g_ext M4 M11 → g_ok M11 → g_InR r14 → ∃ b16, g_r M11 a0 0 = some b16 ∧ g_Call d 112 [.ref b16, g_n v4] M11 (g_qI fun r21 M18 => g_ext M11 M18 → g_ok M18 → g_InR r21 → g_Run d 23 130 [(0, .ref a0), (1, g_n v1), (2, g_n v2), (3, g_n v3), (4, g_n v4), (5, g_n v5), (6, g_n r14), (7, g_n r21), (8, g_n 0)] [] M18 (g_qI Q))))))) ∧ (¬ v5 < 2000 → g_Run d 23 245 [(0, .ref a0), (1, g_n v1), (2, g_n v2), (3, g_n v3), (4, g_n v4), (5, g_n v5)] [] M (g_qI Q)))) : g_Run d 23 85 [(0, .ref a0), (1, g_n v1), (2, g_n v2), (3, g_n v3), (4, g_n v4), (5, g_n v5)] [] M (g_qI Q) := by
  refine g_Run.ok fun hok => ?_
  replace h := h hok
  refine r_iload x_23_85 rfl ?_
  refine r_sipush x_23_87 (x := 2000) rfl ?_
  refine r_ic_ge x_23_90 (t := 245) (by decide +kernel) hv5 (g_Rk rfl) (fun hc => ?_) (fun hc => ?_)
  · replace h := h.2 hc
    exact h
  · replace h := h.1 hc
    refine r_aload_n x_23_93 rfl ?_
    obtain ⟨hO1, h⟩ := h
    obtain ⟨b2, hb3, h⟩ := h
    refine r_getR x_23_94 rfl (ci := 1) (k := 0) (ns := 0) (by decide +kernel) (by decide) rfl (kz := 0) rfl hO1 hb3 ?_
    refine r_iload x_23_97 rfl ?_
    refine r_invS x_23_99 (z := 108) (ns := 1) (by decide +kernel) (as := [.ref b2, g_n v4]) (r := []) rfl rfl rfl ?_
    refine r_callI h fun r7 M4 hx5 hok6 hr8 h => ?_
    replace h := h hx5 hok6 hr8
    replace hO1 := hO1.up hx5
    refine r_if_eq x_23_102 (t := 245) (by decide +kernel) hr8 (fun hc => ?_) (fun hc => ?_)
    · replace h := h.1 hc
      exact h
    · replace h := h.2 hc
      refine r_aload_n x_23_105 rfl ?_
      obtain ⟨b9, hb10, h⟩ := h
      refine r_getR x_23_106 rfl (ci := 1) (k := 0) (ns := 0) (by decide +kernel) (by decide) rfl (kz := 0) rfl hO1 hb10 ?_
      refine r_iload x_23_109 rfl ?_
      refine r_invS x_23_111 (z := 18) (ns := 0) (by decide +kernel) (as := [.ref b9, g_n v4]) (r := []) rfl rfl rfl ?_
      refine r_callI h fun r14 M11 hx12 hok13 hr15 h => ?_
      replace h := h hx12 hok13 hr15
      replace hO1 := hO1.up hx12
      refine r_istore x_23_114 (by decide +kernel) rfl (lv1 := [(0, .ref a0), (1, g_n v1), (2, g_n v2), (3, g_n v3), (4, g_n v4), (5, g_n v5), (6, g_n r14)]) rfl ?_
      refine r_aload_n x_23_116 rfl ?_
      obtain ⟨b16, hb17, h⟩ := h
      refine r_getR x_23_117 rfl (ci := 1) (k := 0) (ns := 0) (by decide +kernel) (by decide) rfl (kz := 0) rfl hO1 hb17 ?_
      refine r_iload x_23_120 rfl ?_
      refine r_invS x_23_122 (z := 112) (ns := 1) (by decide +kernel) (as := [.ref b16, g_n v4]) (r := []) rfl rfl rfl ?_
      refine r_callI h fun r21 M18 hx19 hok20 hr22 h => ?_
      replace h := h hx19 hok20 hr22
      replace hO1 := hO1.up hx19
      refine r_istore x_23_125 (by decide +kernel) rfl (lv1 := [(0, .ref a0), (1, g_n v1), (2, g_n v2), (3, g_n v3), (4, g_n v4), (5, g_n v5), (6, g_n r14), (7, g_n r21)]) rfl ?_
      refine r_iconst x_23_127 ?_
      refine r_istore x_23_128 (by decide +kernel) rfl (lv1 := [(0, .ref a0), (1, g_n v1), (2, g_n v2), (3, g_n v3), (4, g_n v4), (5, g_n v5), (6, g_n r14), (7, g_n r21), (8, g_n 0)]) rfl ?_
      exact h
theorem s_X1_does_130 {d : Nat} {M : g_M} {Q : Int → g_M → Prop} {a0 : Nat} {v1 : Int} (hv1 : g_InR v1) {v2 : Int} (hv2 : g_InR v2) {v3 : Int} (hv3 : g_InR v3) {v4 : Int} (hv4 : g_InR v4) {v5 : Int} (hv5 : g_InR v5) {v6 : Int} (hv6 : g_InR v6) {v7 : Int} (hv7 : g_InR v7) {v8 : Int} (hv8 : g_InR v8) (h : g_ok M → ((v8 < 2000 → g_O M a0 1 ∧ ∃ b11, g_r M a0 0 = some b11 ∧ g_Call d 108 [.ref b11, g_n v7] M (g_qI fun r16 M13 => g_ext M M13 → g_ok M13 → g_InR r16 → ((r16 = 0 → ∃ b18, g_r M13 a0 0 = some b18 ∧ g_Call d 111 [.ref b18, g_n v4] M13 (g_qI fun r23 M20 => g_ext M13 M20 → g_ok M20 → g_InR r23 → g_InR (v5 + 1) ∧ g_Run d 23 85 [(0, .ref a0), (1, g_n v1), (2, g_n v2), (3, g_n v3), (4, g_n r23), (5, g_n (v5 + 1))] [] M20 (g_qI Q))) ∧ (¬ r16 = 0 → ∃ b26, g_r M13 a0 1 = some b26 ∧ ∃ b28, g_r M13 a0 0 = some b28 ∧ g_O M13 b26 5 ∧ g_Call d 91 [.ref b26, .ref b28, g_n v7] M13 (g_qI fun r34 M31 => g_ext M13 M31 → g_ok M31 → g_InR r34 → ((v6 = 2 → g_Call d 34 [.ref a0, g_n v6, g_n v7] M31 (g_qI fun r39 M36 => g_ext M31 M36 → g_ok M36 → g_InR r39 → g_Run d 23 195 [(0, .ref a0), (1, g_n v1), (2, g_n v2), (3, g_n v3), (4, g_n v4), (5, g_n v5), (6, g_n v6), (7, g_n v7), (8, g_n v8)] [g_n r39] M36 (g_qI Q))) ∧ (¬ v6 = 2 → ((v6 = 5 → g_Call d 34 [.ref a0, g_n v6, g_n v7] M31 (g_qI fun r49 M46 => g_ext M31 M46 → g_ok M46 → g_InR r49 → g_Run d 23 195 [(0, .ref a0), (1, g_n v1), (2, g_n v2), (3, g_n v3), (4, g_n v4), (5, g_n v5), (6, g_n v6), (7, g_n v7), (8, g_n v8)] [g_n r49] M46 (g_qI Q))) ∧ (¬ v6 = 5 → g_Call d 26 [.ref a0, g_n v6, g_n v7] M31 (g_qI fun r44 M41 => g_ext M31 M41 → g_ok M41 → g_InR r44 → g_Run d 23 195 [(0, .ref a0), (1, g_n v1), (2, g_n v2), (3, g_n v3), (4, g_n v4), (5, g_n v5), (6, g_n v6), (7, g_n v7), (8, g_n v8)] [g_n r44] M41 (g_qI Q))))))))))) ∧ (¬ v8 < 2000 → g_O M a0 1 ∧ ∃ b2, g_r M a0 0 = some b2 ∧ g_Call d 111 [.ref b2, g_n v4] M (g_qI fun r7 M4 => g_ext M M4 → g_ok M4 → g_InR r7 → g_InR (v5 + 1) ∧ g_Run d 23 85 [(0, .ref a0), (1, g_n v1), (2, g_n v2), (3, g_n v3), (4, g_n r7), (5, g_n (v5 + 1))] [] M4 (g_qI Q))))) : g_Run d 23 130 [(0, .ref a0), (1, g_n v1), (2, g_n v2), (3, g_n v3), (4, g_n v4), (5, g_n v5), (6, g_n v6), (7, g_n v7), (8, g_n v8)] [] M (g_qI Q) := by
  refine g_Run.ok fun hok => ?_
  replace h := h hok
  refine r_iload x_23_130 rfl ?_
  refine r_sipush x_23_132 (x := 2000) rfl ?_
  refine r_ic_ge x_23_135 (t := 228) (by decide +kernel) hv8 (g_Rk rfl) (fun hc => ?_) (fun hc => ?_)
  · replace h := h.2 hc
    refine r_aload_n x_23_228 rfl ?_
    obtain ⟨hO1, h⟩ := h
    obtain ⟨b2, hb3, h⟩ := h
    refine r_getR x_23_229 rfl (ci := 1) (k := 0) (ns := 0) (by decide +kernel) (by decide) rfl (kz := 0) rfl hO1 hb3 ?_
    refine r_iload x_23_232 rfl ?_
    refine r_invS x_23_234 (z := 111) (ns := 1) (by decide +kernel) (as := [.ref b2, g_n v4]) (r := []) rfl rfl rfl ?_
    refine r_callI h fun r7 M4 hx5 hok6 hr8 h => ?_
    replace h := h hx5 hok6 hr8
    replace hO1 := hO1.up hx5
    refine r_istore x_23_237 (by decide +kernel) rfl (lv1 := [(0, .ref a0), (1, g_n v1), (2, g_n v2), (3, g_n v3), (4, g_n r7), (5, g_n v5), (6, g_n v6), (7, g_n v7), (8, g_n v8)]) rfl ?_
    obtain ⟨h9, h⟩ := h
    refine r_iinc x_23_239 (by decide +kernel) rfl rfl (lv1 := [(0, .ref a0), (1, g_n v1), (2, g_n v2), (3, g_n v3), (4, g_n r7), (5, g_n (v5 + 1)), (6, g_n v6), (7, g_n v7), (8, g_n v8)]) rfl ?_
    refine r_goto x_23_242 (t := 85) (by decide +kernel) ?_
    refine g_drop [0, 1, 2, 3, 4, 5] (lv1 := [(0, .ref a0), (1, g_n v1), (2, g_n v2), (3, g_n v3), (4, g_n r7), (5, g_n (v5 + 1))]) rfl ?_
    exact h
  · replace h := h.1 hc
    refine r_aload_n x_23_138 rfl ?_
    obtain ⟨hO10, h⟩ := h
    obtain ⟨b11, hb12, h⟩ := h
    refine r_getR x_23_139 rfl (ci := 1) (k := 0) (ns := 0) (by decide +kernel) (by decide) rfl (kz := 0) rfl hO10 hb12 ?_
    refine r_iload x_23_142 rfl ?_
    refine r_invS x_23_144 (z := 108) (ns := 1) (by decide +kernel) (as := [.ref b11, g_n v7]) (r := []) rfl rfl rfl ?_
    refine r_callI h fun r16 M13 hx14 hok15 hr17 h => ?_
    replace h := h hx14 hok15 hr17
    replace hO10 := hO10.up hx14
    refine r_if_eq x_23_147 (t := 228) (by decide +kernel) hr17 (fun hc => ?_) (fun hc => ?_)
    · replace h := h.1 hc
      refine r_aload_n x_23_228 rfl ?_
      obtain ⟨b18, hb19, h⟩ := h
      refine r_getR x_23_229 rfl (ci := 1) (k := 0) (ns := 0) (by decide +kernel) (by decide) rfl (kz := 0) rfl hO10 hb19 ?_
      refine r_iload x_23_232 rfl ?_
      refine r_invS x_23_234 (z := 111) (ns := 1) (by decide +kernel) (as := [.ref b18, g_n v4]) (r := []) rfl rfl rfl ?_
      refine r_callI h fun r23 M20 hx21 hok22 hr24 h => ?_
      replace h := h hx21 hok22 hr24
      replace hO10 := hO10.up hx21
      refine r_istore x_23_237 (by decide +kernel) rfl (lv1 := [(0, .ref a0), (1, g_n v1), (2, g_n v2), (3, g_n v3), (4, g_n r23), (5, g_n v5), (6, g_n v6), (7, g_n v7), (8, g_n v8)]) rfl ?_
      obtain ⟨h25, h⟩ := h
      refine r_iinc x_23_239 (by decide +kernel) rfl rfl (lv1 := [(0, .ref a0), (1, g_n v1), (2, g_n v2), (3, g_n v3), (4, g_n r23), (5, g_n (v5 + 1)), (6, g_n v6), (7, g_n v7), (8, g_n v8)]) rfl ?_
      refine r_goto x_23_242 (t := 85) (by decide +kernel) ?_
      refine g_drop [0, 1, 2, 3, 4, 5] (lv1 := [(0, .ref a0), (1, g_n v1), (2, g_n v2), (3, g_n v3), (4, g_n r23), (5, g_n (v5 + 1))]) rfl ?_
      exact h
    · replace h := h.2 hc
      refine r_aload_n x_23_150 rfl ?_
      obtain ⟨b26, hb27, h⟩ := h
      refine r_getR x_23_151 rfl (ci := 1) (k := 1) (ns := 0) (by decide +kernel) (by decide) rfl (kz := 1) rfl hO10 hb27 ?_
      refine r_aload_n x_23_154 rfl ?_
      obtain ⟨b28, hb29, h⟩ := h
      refine r_getR x_23_155 rfl (ci := 1) (k := 0) (ns := 0) (by decide +kernel) (by decide) rfl (kz := 0) rfl hO10 hb29 ?_
      refine r_iload x_23_158 rfl ?_
      obtain ⟨hO30, h⟩ := h
      refine r_invV x_23_160 (z := 91) (ns := 1) (by decide +kernel) (as := [.ref b28, g_n v7]) (r := []) rfl rfl rfl hO30 rfl rfl ?_
      refine r_callI h fun r34 M31 hx32 hok33 hr35 h => ?_
      replace h := h hx32 hok33 hr35
      replace hO10 := hO10.up hx32
      replace hO30 := hO30.up hx32
      refine r_pop x_23_163 rfl ?_
      refine r_iload x_23_164 rfl ?_
      refine r_iconst x_23_166 ?_
      refine r_ic_eq x_23_167 (t := 176) (by decide +kernel) hv6 (g_Rk rfl) (fun hc => ?_) (fun hc => ?_)
      · replace h := h.1 hc
        refine r_aload_n x_23_176 rfl ?_
        refine r_iload x_23_177 rfl ?_
        refine r_iload x_23_179 rfl ?_
        refine r_invV x_23_181 (z := 34) (ns := 0) (by decide +kernel) (as := [g_n v6, g_n v7]) (r := []) rfl rfl rfl hO10 rfl rfl ?_
        refine r_callI h fun r39 M36 hx37 hok38 hr40 h => ?_
        replace h := h hx37 hok38 hr40
        replace hO10 := hO10.up hx37
        replace hO30 := hO30.up hx37
        refine r_goto x_23_184 (t := 195) (by decide +kernel) ?_
        exact h
      · replace h := h.2 hc
        refine r_iload x_23_170 rfl ?_
        refine r_iconst x_23_172 ?_
        refine r_ic_ne x_23_173 (t := 187) (by decide +kernel) hv6 (g_Rk rfl) (fun hc => ?_) (fun hc => ?_)
        · replace h := h.2 hc
          refine r_aload_n x_23_187 rfl ?_
          refine r_iload x_23_188 rfl ?_
          refine r_iload x_23_190 rfl ?_
          refine r_invV x_23_192 (z := 26) (ns := 0) (by decide +kernel) (as := [g_n v6, g_n v7]) (r := []) rfl rfl rfl hO10 rfl rfl ?_
          refine r_callI h fun r44 M41 hx42 hok43 hr45 h => ?_
          replace h := h hx42 hok43 hr45
          replace hO10 := hO10.up hx42
          replace hO30 := hO30.up hx42
          exact h
        · replace h := h.1 hc
          refine r_aload_n x_23_176 rfl ?_
          refine r_iload x_23_177 rfl ?_
          refine r_iload x_23_179 rfl ?_
          refine r_invV x_23_181 (z := 34) (ns := 0) (by decide +kernel) (as := [g_n v6, g_n v7]) (r := []) rfl rfl rfl hO10 rfl rfl ?_
          refine r_callI h fun r49 M46 hx47 hok48 hr50 h => ?_
          replace h := h hx47 hok48 hr50
          replace hO10 := hO10.up hx47
          replace hO30 := hO30.up hx47
          refine r_goto x_23_184 (t := 195) (by decide +kernel) ?_
          exact h
theorem s_X1_does_195 {d : Nat} {M : g_M} {Q : Int → g_M → Prop} {a0 : Nat} {v1 : Int} (hv1 : g_InR v1) {v2 : Int} (hv2 : g_InR v2) {v3 : Int} (hv3 : g_InR v3) {v4 : Int} (hv4 : g_InR v4) {v5 : Int} (hv5 : g_InR v5) {v6 : Int} (hv6 : g_InR v6) {v7 : Int} (hv7 : g_InR v7) {v8 : Int} (hv8 : g_InR v8) {w0 : Int} (hw0 : g_InR w0) (h : g_ok M → ((w0 = 0 → g_O M a0 1 ∧ ∃ b2, g_r M a0 0 = some b2 ∧ g_Call d 111 [.ref b2, g_n v7] M (g_qI fun r7 M4 => g_ext M M4 → g_ok M4 → g_InR r7 → g_InR (v8 + 1) ∧ g_Run d 23 130 [(0, .ref a0), (1, g_n v1), (2, g_n v2), (3, g_n v3), (4, g_n v4), (5, g_n v5), (6, g_n v6), (7, g_n r7), (8, g_n (v8 + 1))] [] M4 (g_qI Q))) ∧ (¬ w0 = 0 → g_O M a0 1 ∧ g_Call d 19 [.ref a0, g_n w0, g_n v7] M (g_qI fun r14 M11 => g_ext M M11 → g_ok M11 → g_InR r14 → (r14 = 0 ∨ r14 = 1) ∧ Q r14 M11)))) : g_Run d 23 195 [(0, .ref a0), (1, g_n v1), (2, g_n v2), (3, g_n v3), (4, g_n v4), (5, g_n v5), (6, g_n v6), (7, g_n v7), (8, g_n v8)] [g_n w0] M (g_qI Q) := by
  refine g_Run.ok fun hok => ?_
  replace h := h hok
  refine r_istore x_23_195 (by decide +kernel) rfl (lv1 := [(0, .ref a0), (1, g_n v1), (2, g_n v2), (3, g_n v3), (4, g_n v4), (5, g_n v5), (6, g_n v6), (7, g_n v7), (8, g_n v8), (9, g_n w0)]) rfl ?_
  refine r_iload x_23_197 rfl ?_
  refine r_if_eq x_23_199 (t := 211) (by decide +kernel) hw0 (fun hc => ?_) (fun hc => ?_)
  · replace h := h.1 hc
    refine r_aload_n x_23_211 rfl ?_
    obtain ⟨hO1, h⟩ := h
    obtain ⟨b2, hb3, h⟩ := h
    refine r_getR x_23_212 rfl (ci := 1) (k := 0) (ns := 0) (by decide +kernel) (by decide) rfl (kz := 0) rfl hO1 hb3 ?_
    refine r_iload x_23_215 rfl ?_
    refine r_invS x_23_217 (z := 111) (ns := 1) (by decide +kernel) (as := [.ref b2, g_n v7]) (r := []) rfl rfl rfl ?_
    refine r_callI h fun r7 M4 hx5 hok6 hr8 h => ?_
    replace h := h hx5 hok6 hr8
    replace hO1 := hO1.up hx5
    refine r_istore x_23_220 (by decide +kernel) rfl (lv1 := [(0, .ref a0), (1, g_n v1), (2, g_n v2), (3, g_n v3), (4, g_n v4), (5, g_n v5), (6, g_n v6), (7, g_n r7), (8, g_n v8), (9, g_n w0)]) rfl ?_
    obtain ⟨h9, h⟩ := h
    refine r_iinc x_23_222 (by decide +kernel) rfl rfl (lv1 := [(0, .ref a0), (1, g_n v1), (2, g_n v2), (3, g_n v3), (4, g_n v4), (5, g_n v5), (6, g_n v6), (7, g_n r7), (8, g_n (v8 + 1)), (9, g_n w0)]) rfl ?_
    refine r_goto x_23_225 (t := 130) (by decide +kernel) ?_
    refine g_drop [0, 1, 2, 3, 4, 5, 6, 7, 8] (lv1 := [(0, .ref a0), (1, g_n v1), (2, g_n v2), (3, g_n v3), (4, g_n v4), (5, g_n v5), (6, g_n v6), (7, g_n r7), (8, g_n (v8 + 1))]) rfl ?_
    exact h
  · replace h := h.2 hc
    refine r_aload_n x_23_202 rfl ?_
    refine r_iload x_23_203 rfl ?_
    refine r_iload x_23_205 rfl ?_
    obtain ⟨hO10, h⟩ := h
    refine r_invV x_23_207 (z := 19) (ns := 0) (by decide +kernel) (as := [g_n w0, g_n v7]) (r := []) rfl rfl rfl hO10 rfl rfl ?_
    refine r_callI h fun r14 M11 hx12 hok13 hr15 h => ?_
    replace h := h hx12 hok13 hr15
    replace hO10 := hO10.up hx12
    obtain ⟨hz, h⟩ := h
    exact r_retZ x_23_210 rfl hz h
theorem s_X1_does_245 {d : Nat} {M : g_M} {Q : Int → g_M → Prop} {a0 : Nat} {v1 : Int} (hv1 : g_InR v1) {v2 : Int} (hv2 : g_InR v2) {v3 : Int} (hv3 : g_InR v3) {v4 : Int} (hv4 : g_InR v4) {v5 : Int} (hv5 : g_InR v5) (h : g_ok M → g_O M a0 1 ∧ ∃ b2, g_r M a0 0 = some b2 ∧ g_Call d 109 [.ref b2, g_n 163610] M (g_qI fun r7 M4 => g_ext M M4 → g_ok M4 → g_InR r7 → ((2000 < r7 → g_Call d 19 [.ref a0, g_n 9, g_n v2] M4 (g_qI fun r12 M9 => g_ext M4 M9 → g_ok M9 → g_InR r12 → (r12 = 0 ∨ r12 = 1) ∧ Q r12 M9)) ∧ (¬ 2000 < r7 → ∃ b14, g_r M4 a0 0 = some b14 ∧ g_Call d 124 [.ref b14, g_n 163608, g_n 1] M4 (g_qI fun r19 M16 => g_ext M4 M16 → g_ok M16 → g_InR r19 → ((16 < r19 → g_Call d 19 [.ref a0, g_n 9, g_n v2] M16 (g_qI fun r24 M21 => g_ext M16 M21 → g_ok M21 → g_InR r24 → (r24 = 0 ∨ r24 = 1) ∧ Q r24 M21)) ∧ (¬ 16 < r19 → Q 1 M16))))))) : g_Run d 23 245 [(0, .ref a0), (1, g_n v1), (2, g_n v2), (3, g_n v3), (4, g_n v4), (5, g_n v5)] [] M (g_qI Q) := by
  refine g_Run.ok fun hok => ?_
  replace h := h hok
  refine r_aload_n x_23_245 rfl ?_
  obtain ⟨hO1, h⟩ := h
  obtain ⟨b2, hb3, h⟩ := h
  refine r_getR x_23_246 rfl (ci := 1) (k := 0) (ns := 0) (by decide +kernel) (by decide) rfl (kz := 0) rfl hO1 hb3 ?_
  refine r_ldc x_23_249 (v := g_n 163610) rfl ?_
  refine r_invS x_23_251 (z := 109) (ns := 1) (by decide +kernel) (as := [.ref b2, g_n 163610]) (r := []) rfl rfl rfl ?_
  refine r_callI h fun r7 M4 hx5 hok6 hr8 h => ?_
  replace h := h hx5 hok6 hr8
  replace hO1 := hO1.up hx5
  refine r_sipush x_23_254 (x := 2000) rfl ?_
  refine r_ic_gt x_23_257 (t := 275) (by decide +kernel) hr8 (g_Rk rfl) (fun hc => ?_) (fun hc => ?_)
  · replace h := h.1 hc
    refine r_aload_n x_23_275 rfl ?_
    refine r_bipush x_23_276 (x := 9) rfl ?_
    refine r_iload_n x_23_278 rfl ?_
    refine r_invV x_23_279 (z := 19) (ns := 0) (by decide +kernel) (as := [g_n 9, g_n v2]) (r := []) rfl rfl rfl hO1 rfl rfl ?_
    refine r_callI h fun r12 M9 hx10 hok11 hr13 h => ?_
    replace h := h hx10 hok11 hr13
    replace hO1 := hO1.up hx10
    obtain ⟨hz, h⟩ := h
    exact r_retZ x_23_282 rfl hz h
  · replace h := h.2 hc
    refine r_aload_n x_23_260 rfl ?_
    obtain ⟨b14, hb15, h⟩ := h
    refine r_getR x_23_261 rfl (ci := 1) (k := 0) (ns := 0) (by decide +kernel) (by decide) rfl (kz := 0) rfl hO1 hb15 ?_
    refine r_ldc x_23_264 (v := g_n 163608) rfl ?_
    refine r_iconst x_23_266 ?_
    refine r_invS x_23_267 (z := 124) (ns := 1) (by decide +kernel) (as := [.ref b14, g_n 163608, g_n 1]) (r := []) rfl rfl rfl ?_
    refine r_callI h fun r19 M16 hx17 hok18 hr20 h => ?_
    replace h := h hx17 hok18 hr20
    replace hO1 := hO1.up hx17
    refine r_bipush x_23_270 (x := 16) rfl ?_
    refine r_ic_le x_23_272 (t := 283) (by decide +kernel) hr20 (g_Rk rfl) (fun hc => ?_) (fun hc => ?_)
    · replace h := h.2 hc
      refine r_iconst x_23_283 ?_
      exact r_retZ x_23_284 rfl (Or.inr rfl) h
    · replace h := h.1 hc
      refine r_aload_n x_23_275 rfl ?_
      refine r_bipush x_23_276 (x := 9) rfl ?_
      refine r_iload_n x_23_278 rfl ?_
      refine r_invV x_23_279 (z := 19) (ns := 0) (by decide +kernel) (as := [g_n 9, g_n v2]) (r := []) rfl rfl rfl hO1 rfl rfl ?_
      refine r_callI h fun r24 M21 hx22 hok23 hr25 h => ?_
      replace h := h hx22 hok23 hr25
      replace hO1 := hO1.up hx22
      obtain ⟨hz, h⟩ := h
      exact r_retZ x_23_282 rfl hz h
theorem m_X1_splice {d : Nat} {M : g_M} {Q : Int → g_M → Prop} {a0 : Nat} {v1 : Int} (hv1 : g_InR v1) {v2 : Int} (hv2 : g_InR v2) {v3 : Int} (hv3 : g_InR v3) (h : g_ok M → g_InR (v3 - v2) ∧ ((v1 < 163608 → Q 0 M) ∧ (¬ v1 < 163608 → ((v2 < 0 → Q 0 M) ∧ (¬ v2 < 0 → ((v3 < 0 → Q 0 M) ∧ (¬ v3 < 0 → g_InR (v1 + v2) ∧ g_O M a0 1 ∧ ((g_i M a0 5 < v1 + v2 → Q 0 M) ∧ (¬ g_i M a0 5 < v1 + v2 → g_InR ((g_i M a0 5) + (v3 - v2)) ∧ ((246408 < (g_i M a0 5) + (v3 - v2) → Q 0 M) ∧ (¬ 246408 < (g_i M a0 5) + (v3 - v2) → ∃ b5, g_r M a0 0 = some b5 ∧ g_InR (v1 + v2) ∧ ∃ b8, g_r M a0 0 = some b8 ∧ g_InR (v1 + v3) ∧ g_InR ((g_i M a0 5) - v1) ∧ g_InR (((g_i M a0 5) - v1) - v2) ∧ ∃ n13, g_A M b5 0 n13 ∧ ∃ n15, g_A M b8 0 n15 ∧ ((0 : Int) ≤ v1 + v2 ∧ (0 : Int) ≤ v1 + v3 ∧ (0 : Int) ≤ ((g_i M a0 5) - v1) - v2 ∧ ((v1 + v2) : Int) + (((g_i M a0 5) - v1) - v2) ≤ n13 ∧ ((v1 + v3) : Int) + (((g_i M a0 5) - v1) - v2) ≤ n15) ∧ (∀ M18, M18 = g_cp M b5 b8 (v1 + v2) (v1 + v3) (((g_i M a0 5) - v1) - v2) → g_ok M18 → g_InR ((g_i M18 a0 5) + (v3 - v2)) ∧ (∀ M23, M23 = g_wi M18 a0 5 ((g_i M18 a0 5) + (v3 - v2)) → g_ok M23 → ∃ b27, g_r M23 a0 3 = some b27 ∧ g_InR (v1 + v3) ∧ g_O M23 b27 4 ∧ g_Call d 75 [.ref b27, g_n v1, g_n (v1 + v3)] M23 (g_qV fun M31 => g_ext M23 M31 → g_ok M31 → g_Run d 24 93 [(0, .ref a0), (1, g_n v1), (2, g_n v2), (3, g_n v3), (4, g_n (v3 - v2)), (5, g_n 0)] [] M31 (g_qI Q))))))))))))))) : g_Call (d + 1) 24 [.ref a0, g_n v1, g_n v2, g_n v3] M (g_qI Q) := by
  refine g_Call.ok fun hok0 => ?_
  replace h := h hok0
  refine r_body rfl (lv := [(0, .ref a0), (1, g_n v1), (2, g_n v2), (3, g_n v3)]) rfl ?_
  refine g_Run.ok fun hok => ?_
  refine r_iload_n x_24_0 rfl ?_
  refine r_iload_n x_24_1 rfl ?_
  refine r_isub x_24_2 ?_
  obtain ⟨h1, h⟩ := h
  refine r_istore x_24_3 (by decide +kernel) rfl (lv1 := [(0, .ref a0), (1, g_n v1), (2, g_n v2), (3, g_n v3), (4, g_n (v3 - v2))]) rfl ?_
  refine r_iload_n x_24_5 rfl ?_
  refine r_ldc x_24_6 (v := g_n 163608) rfl ?_
  refine r_ic_lt x_24_8 (t := 41) (by decide +kernel) hv1 (g_Rk rfl) (fun hc => ?_) (fun hc => ?_)
  · replace h := h.1 hc
    refine r_iconst x_24_41 ?_
    exact r_retZ x_24_42 rfl (Or.inl rfl) h
  · replace h := h.2 hc
    refine r_iload_n x_24_11 rfl ?_
    refine r_if_lt x_24_12 (t := 41) (by decide +kernel) hv2 (fun hc => ?_) (fun hc => ?_)
    · replace h := h.1 hc
      refine r_iconst x_24_41 ?_
      exact r_retZ x_24_42 rfl (Or.inl rfl) h
    · replace h := h.2 hc
      refine r_iload_n x_24_15 rfl ?_
      refine r_if_lt x_24_16 (t := 41) (by decide +kernel) hv3 (fun hc => ?_) (fun hc => ?_)
      · replace h := h.1 hc
        refine r_iconst x_24_41 ?_
        exact r_retZ x_24_42 rfl (Or.inl rfl) h
      · replace h := h.2 hc
        refine r_iload_n x_24_19 rfl ?_
        refine r_iload_n x_24_20 rfl ?_
        refine r_iadd x_24_21 ?_
        obtain ⟨h2, h⟩ := h
        refine r_aload_n x_24_22 rfl ?_
        obtain ⟨hO3, h⟩ := h
        refine r_getI x_24_23 rfl (ci := 1) (k := 5) (ns := 0) (by decide +kernel) (by decide) rfl (kz := 5) rfl hO3 ?_
        refine r_ic_gt x_24_26 (t := 41) (by decide +kernel) h2 (hok.1 _ _) (fun hc => ?_) (fun hc => ?_)
        · replace h := h.1 hc
          refine r_iconst x_24_41 ?_
          exact r_retZ x_24_42 rfl (Or.inl rfl) h
        · replace h := h.2 hc
          refine r_aload_n x_24_29 rfl ?_
          refine r_getI x_24_30 rfl (ci := 1) (k := 5) (ns := 0) (by decide +kernel) (by decide) rfl (kz := 5) rfl hO3 ?_
          refine r_iload x_24_33 rfl ?_
          refine r_iadd x_24_35 ?_
          obtain ⟨h4, h⟩ := h
          refine r_ldc x_24_36 (v := g_n 246408) rfl ?_
          refine r_ic_le x_24_38 (t := 43) (by decide +kernel) h4 (g_Rk rfl) (fun hc => ?_) (fun hc => ?_)
          · replace h := h.2 hc
            refine r_aload_n x_24_43 rfl ?_
            obtain ⟨b5, hb6, h⟩ := h
            refine r_getR x_24_44 rfl (ci := 1) (k := 0) (ns := 0) (by decide +kernel) (by decide) rfl (kz := 0) rfl hO3 hb6 ?_
            refine r_iload_n x_24_47 rfl ?_
            refine r_iload_n x_24_48 rfl ?_
            refine r_iadd x_24_49 ?_
            obtain ⟨h7, h⟩ := h
            refine r_aload_n x_24_50 rfl ?_
            obtain ⟨b8, hb9, h⟩ := h
            refine r_getR x_24_51 rfl (ci := 1) (k := 0) (ns := 0) (by decide +kernel) (by decide) rfl (kz := 0) rfl hO3 hb9 ?_
            refine r_iload_n x_24_54 rfl ?_
            refine r_iload_n x_24_55 rfl ?_
            refine r_iadd x_24_56 ?_
            obtain ⟨h10, h⟩ := h
            refine r_aload_n x_24_57 rfl ?_
            refine r_getI x_24_58 rfl (ci := 1) (k := 5) (ns := 0) (by decide +kernel) (by decide) rfl (kz := 5) rfl hO3 ?_
            refine r_iload_n x_24_61 rfl ?_
            refine r_isub x_24_62 ?_
            obtain ⟨h11, h⟩ := h
            refine r_iload_n x_24_63 rfl ?_
            refine r_isub x_24_64 ?_
            obtain ⟨h12, h⟩ := h
            obtain ⟨n13, hA14, h⟩ := h
            obtain ⟨n15, hA16, h⟩ := h
            obtain ⟨h17, h⟩ := h
            refine r_copy x_24_65 rfl rfl rfl rfl rfl rfl (by decide) hA14 hA16 h7 h10 h12 h17.1 h17.2.1 h17.2.2.1 h17.2.2.2.1 h17.2.2.2.2 ?_
            obtain ⟨M18, hM19⟩ : ∃ Mz, Mz = g_cp M b5 b8 (v1 + v2) (v1 + v3) (((g_i M a0 5) - v1) - v2) := ⟨_, rfl⟩
            rw [← hM19]
            refine g_Run.ok fun hok20 => ?_
            replace h := h M18 hM19 hok20
            have hx21 := g_extC hM19
            replace hO3 := hO3.up hx21
            replace hA14 := hA14.up hx21
            replace hA16 := hA16.up hx21
            refine r_aload_n x_24_68 rfl ?_
            refine r_dup x_24_69 rfl ?_
            refine r_getI x_24_70 rfl (ci := 1) (k := 5) (ns := 0) (by decide +kernel) (by decide) rfl (kz := 5) rfl hO3 ?_
            refine r_iload x_24_73 rfl ?_
            refine r_iadd x_24_75 ?_
            obtain ⟨h22, h⟩ := h
            refine r_putI x_24_76 (ci := 1) (k := 5) (ns := 0) (by decide +kernel) (by decide) (g_f0 (by decide +kernel)) rfl h22 trivial (kz := 5) rfl hO3 ?_
            obtain ⟨M23, hM24⟩ : ∃ Mz, Mz = g_wi M18 a0 5 ((g_i M18 a0 5) + (v3 - v2)) := ⟨_, rfl⟩
            rw [← hM24]
            refine g_Run.ok fun hok25 => ?_
            replace h := h M23 hM24 hok25
            have hx26 := g_extW hM24
            replace hO3 := hO3.up hx26
            replace hA14 := hA14.up hx26
            replace hA16 := hA16.up hx26
            refine r_aload_n x_24_79 rfl ?_
            obtain ⟨b27, hb28, h⟩ := h
            refine r_getR x_24_80 rfl (ci := 1) (k := 3) (ns := 0) (by decide +kernel) (by decide) rfl (kz := 3) rfl hO3 hb28 ?_
            refine r_iload_n x_24_83 rfl ?_
            refine r_iload_n x_24_84 rfl ?_
            refine r_iload_n x_24_85 rfl ?_
            refine r_iadd x_24_86 ?_
            obtain ⟨h29, h⟩ := h
            obtain ⟨hO30, h⟩ := h
            refine r_invV x_24_87 (z := 75) (ns := 1) (by decide +kernel) (as := [g_n v1, g_n (v1 + v3)]) (r := []) rfl rfl rfl hO30 rfl rfl ?_
            refine r_callV h fun M31 hx32 hok33 h => ?_
            replace h := h hx32 hok33
            replace hO3 := hO3.up hx32
            replace hO30 := hO30.up hx32
            replace hA14 := hA14.up hx32
            replace hA16 := hA16.up hx32
            refine r_iconst x_24_90 ?_
            refine r_istore x_24_91 (by decide +kernel) rfl (lv1 := [(0, .ref a0), (1, g_n v1), (2, g_n v2), (3, g_n v3), (4, g_n (v3 - v2)), (5, g_n 0)]) rfl ?_
            exact h
          · replace h := h.1 hc
            refine r_iconst x_24_41 ?_
            exact r_retZ x_24_42 rfl (Or.inl rfl) h
theorem s_X1_splice_93 {d : Nat} {M : g_M} {Q : Int → g_M → Prop} {a0 : Nat} {v1 : Int} (hv1 : g_InR v1) {v2 : Int} (hv2 : g_InR v2) {v3 : Int} (hv3 : g_InR v3) {v4 : Int} (hv4 : g_InR v4) {v5 : Int} (hv5 : g_InR v5) (h : g_ok M → g_O M a0 1 ∧ ((v5 < g_i M a0 4 → ∃ b6, g_r M a0 2 = some b6 ∧ ∃ n8, g_A M b6 1 n8 ∧ g_InR n8 ∧ ((v5 < n8 → ∃ b15, g_r M a0 0 = some b15 ∧ ∃ b17, g_r M a0 2 = some b17 ∧ ∃ n19, g_A M b17 1 n19 ∧ ((0 : Int) ≤ v5 ∧ (v5 : Int) < n19) ∧ g_Call d 110 [.ref b15, g_n (g_i M b17 v5)] M (g_qI fun r25 M22 => g_ext M M22 → g_ok M22 → g_InR r25 → ∃ b27, g_r M22 a0 3 = some b27 ∧ ∃ b29, g_r M22 a0 0 = some b29 ∧ g_Call d 109 [.ref b29, g_n r25] M22 (g_qI fun r34 M31 => g_ext M22 M31 → g_ok M31 → g_InR r34 → g_InR (r34 + v4) ∧ g_O M31 b27 4 ∧ g_Call d 79 [.ref b27, g_n r25, g_n (r34 + v4)] M31 (g_qV fun M38 => g_ext M31 M38 → g_ok M38 → g_InR (v5 + 1) ∧ g_Run d 24 93 [(0, .ref a0), (1, g_n v1), (2, g_n v2), (3, g_n v3), (4, g_n v4), (5, g_n (v5 + 1))] [] M38 (g_qI Q))))) ∧ (¬ v5 < n8 → (∀ M11, M11 = g_wi M a0 6 1 → g_ok M11 → Q 1 M11)))) ∧ (¬ v5 < g_i M a0 4 → (∀ M2, M2 = g_wi M a0 6 1 → g_ok M2 → Q 1 M2)))) : g_Run d 24 93 [(0, .ref a0), (1, g_n v1), (2, g_n v2), (3, g_n v3), (4, g_n v4), (5, g_n v5)] [] M (g_qI Q) := by
  refine g_Run.ok fun hok => ?_
  replace h := h hok
  refine r_iload x_24_93 rfl ?_
  refine r_aload_n x_24_95 rfl ?_
  obtain ⟨hO1, h⟩ := h
  refine r_getI x_24_96 rfl (ci := 1) (k := 4) (ns := 0) (by decide +kernel) (by decide) rfl (kz := 4) rfl hO1 ?_
  refine r_ic_ge x_24_99 (t := 155) (by decide +kernel) hv5 (hok.1 _ _) (fun hc => ?_) (fun hc => ?_)
  · replace h := h.2 hc
    refine r_aload_n x_24_155 rfl ?_
    refine r_iconst x_24_156 ?_
    refine r_putI x_24_157 (ci := 1) (k := 6) (ns := 0) (by decide +kernel) (by decide) (g_fZ (Or.inr rfl) (by decide +kernel)) rfl (g_Rk rfl) (g_zx (Or.inr rfl) rfl).2 (kz := 6) rfl hO1 ?_
    obtain ⟨M2, hM3⟩ : ∃ Mz, Mz = g_wi M a0 6 1 := ⟨_, rfl⟩
    rw [← hM3]
    refine g_Run.ok fun hok4 => ?_
    replace h := h M2 hM3 hok4
    have hx5 := g_extW hM3
    replace hO1 := hO1.up hx5
    refine r_iconst x_24_160 ?_
    exact r_retZ x_24_161 rfl (Or.inr rfl) h
  · replace h := h.1 hc
    refine r_iload x_24_102 rfl ?_
    refine r_aload_n x_24_104 rfl ?_
    obtain ⟨b6, hb7, h⟩ := h
    refine r_getR x_24_105 rfl (ci := 1) (k := 2) (ns := 0) (by decide +kernel) (by decide) rfl (kz := 2) rfl hO1 hb7 ?_
    obtain ⟨n8, hA9, h⟩ := h
    refine r_alen x_24_108 hA9 ?_
    obtain ⟨h10, h⟩ := h
    refine r_ic_ge x_24_109 (t := 155) (by decide +kernel) hv5 h10 (fun hc => ?_) (fun hc => ?_)
    · replace h := h.2 hc
      refine r_aload_n x_24_155 rfl ?_
      refine r_iconst x_24_156 ?_
      refine r_putI x_24_157 (ci := 1) (k := 6) (ns := 0) (by decide +kernel) (by decide) (g_fZ (Or.inr rfl) (by decide +kernel)) rfl (g_Rk rfl) (g_zx (Or.inr rfl) rfl).2 (kz := 6) rfl hO1 ?_
      obtain ⟨M11, hM12⟩ : ∃ Mz, Mz = g_wi M a0 6 1 := ⟨_, rfl⟩
      rw [← hM12]
      refine g_Run.ok fun hok13 => ?_
      replace h := h M11 hM12 hok13
      have hx14 := g_extW hM12
      replace hO1 := hO1.up hx14
      replace hA9 := hA9.up hx14
      refine r_iconst x_24_160 ?_
      exact r_retZ x_24_161 rfl (Or.inr rfl) h
    · replace h := h.1 hc
      refine r_aload_n x_24_112 rfl ?_
      obtain ⟨b15, hb16, h⟩ := h
      refine r_getR x_24_113 rfl (ci := 1) (k := 0) (ns := 0) (by decide +kernel) (by decide) rfl (kz := 0) rfl hO1 hb16 ?_
      refine r_aload_n x_24_116 rfl ?_
      obtain ⟨b17, hb18, h⟩ := h
      refine r_getR x_24_117 rfl (ci := 1) (k := 2) (ns := 0) (by decide +kernel) (by decide) rfl (kz := 2) rfl hO1 hb18 ?_
      refine r_iload x_24_120 rfl ?_
      obtain ⟨n19, hA20, h⟩ := h
      obtain ⟨h21, h⟩ := h
      refine r_iald x_24_122 hA20 hv5 h21.1 h21.2 ?_
      refine r_invS x_24_123 (z := 110) (ns := 1) (by decide +kernel) (as := [.ref b15, g_n (g_i M b17 v5)]) (r := []) rfl rfl rfl ?_
      refine r_callI h fun r25 M22 hx23 hok24 hr26 h => ?_
      replace h := h hx23 hok24 hr26
      replace hO1 := hO1.up hx23
      replace hA9 := hA9.up hx23
      replace hA20 := hA20.up hx23
      refine r_istore x_24_126 (by decide +kernel) rfl (lv1 := [(0, .ref a0), (1, g_n v1), (2, g_n v2), (3, g_n v3), (4, g_n v4), (5, g_n v5), (6, g_n r25)]) rfl ?_
      refine r_aload_n x_24_128 rfl ?_
      obtain ⟨b27, hb28, h⟩ := h
      refine r_getR x_24_129 rfl (ci := 1) (k := 3) (ns := 0) (by decide +kernel) (by decide) rfl (kz := 3) rfl hO1 hb28 ?_
      refine r_iload x_24_132 rfl ?_
      refine r_aload_n x_24_134 rfl ?_
      obtain ⟨b29, hb30, h⟩ := h
      refine r_getR x_24_135 rfl (ci := 1) (k := 0) (ns := 0) (by decide +kernel) (by decide) rfl (kz := 0) rfl hO1 hb30 ?_
      refine r_iload x_24_138 rfl ?_
      refine r_invS x_24_140 (z := 109) (ns := 1) (by decide +kernel) (as := [.ref b29, g_n r25]) (r := [g_n r25, .ref b27]) rfl rfl rfl ?_
      refine r_callI h fun r34 M31 hx32 hok33 hr35 h => ?_
      replace h := h hx32 hok33 hr35
      replace hO1 := hO1.up hx32
      replace hA9 := hA9.up hx32
      replace hA20 := hA20.up hx32
      refine r_iload x_24_143 rfl ?_
      refine r_iadd x_24_145 ?_
      obtain ⟨h36, h⟩ := h
      obtain ⟨hO37, h⟩ := h
      refine r_invV x_24_146 (z := 79) (ns := 1) (by decide +kernel) (as := [g_n r25, g_n (r34 + v4)]) (r := []) rfl rfl rfl hO37 rfl rfl ?_
      refine r_callV h fun M38 hx39 hok40 h => ?_
      replace h := h hx39 hok40
      replace hO1 := hO1.up hx39
      replace hO37 := hO37.up hx39
      replace hA9 := hA9.up hx39
      replace hA20 := hA20.up hx39
      obtain ⟨h41, h⟩ := h
      refine r_iinc x_24_149 (by decide +kernel) rfl rfl (lv1 := [(0, .ref a0), (1, g_n v1), (2, g_n v2), (3, g_n v3), (4, g_n v4), (5, g_n (v5 + 1)), (6, g_n r25)]) rfl ?_
      refine r_goto x_24_152 (t := 93) (by decide +kernel) ?_
      refine g_drop [0, 1, 2, 3, 4, 5] (lv1 := [(0, .ref a0), (1, g_n v1), (2, g_n v2), (3, g_n v3), (4, g_n v4), (5, g_n (v5 + 1))]) rfl ?_
      exact h
theorem m_X1_link {d : Nat} {M : g_M} {Q : g_M → Prop} {a0 : Nat} {v1 : Int} (hv1 : g_InR v1) (h : g_ok M → g_O M a0 1 ∧ ∃ b2, g_r M a0 2 = some b2 ∧ ∃ n4, g_A M b2 1 n4 ∧ g_InR n4 ∧ ((g_i M a0 4 < n4 → ∃ b7, g_r M a0 2 = some b7 ∧ ∃ n9, g_A M b7 1 n9 ∧ ((0 : Int) ≤ g_i M a0 4 ∧ (g_i M a0 4 : Int) < n9) ∧ (∀ M12, M12 = g_wi M b7 (g_i M a0 4) v1 → g_ok M12 → g_InR ((g_i M12 a0 4) + 1) ∧ (∀ M17, M17 = g_wi M12 a0 4 ((g_i M12 a0 4) + 1) → g_ok M17 → Q M17))) ∧ (¬ g_i M a0 4 < n4 → Q M))) : g_Call (d + 1) 25 [.ref a0, g_n v1] M (g_qV Q) := by
  refine g_Call.ok fun hok0 => ?_
  replace h := h hok0
  refine r_body rfl (lv := [(0, .ref a0), (1, g_n v1)]) rfl ?_
  refine g_Run.ok fun hok => ?_
  refine r_aload_n x_25_0 rfl ?_
  obtain ⟨hO1, h⟩ := h
  refine r_getI x_25_1 rfl (ci := 1) (k := 4) (ns := 0) (by decide +kernel) (by decide) rfl (kz := 4) rfl hO1 ?_
  refine r_aload_n x_25_4 rfl ?_
  obtain ⟨b2, hb3, h⟩ := h
  refine r_getR x_25_5 rfl (ci := 1) (k := 2) (ns := 0) (by decide +kernel) (by decide) rfl (kz := 2) rfl hO1 hb3 ?_
  obtain ⟨n4, hA5, h⟩ := h
  refine r_alen x_25_8 hA5 ?_
  obtain ⟨h6, h⟩ := h
  refine r_ic_ge x_25_9 (t := 32) (by decide +kernel) (hok.1 _ _) h6 (fun hc => ?_) (fun hc => ?_)
  · replace h := h.2 hc
    exact r_retV x_25_32 rfl h
  · replace h := h.1 hc
    refine r_aload_n x_25_12 rfl ?_
    obtain ⟨b7, hb8, h⟩ := h
    refine r_getR x_25_13 rfl (ci := 1) (k := 2) (ns := 0) (by decide +kernel) (by decide) rfl (kz := 2) rfl hO1 hb8 ?_
    refine r_aload_n x_25_16 rfl ?_
    refine r_getI x_25_17 rfl (ci := 1) (k := 4) (ns := 0) (by decide +kernel) (by decide) rfl (kz := 4) rfl hO1 ?_
    refine r_iload_n x_25_20 rfl ?_
    obtain ⟨n9, hA10, h⟩ := h
    obtain ⟨h11, h⟩ := h
    refine r_iast x_25_21 hA10 (hok.1 _ _) h11.1 h11.2 hv1 ?_
    obtain ⟨M12, hM13⟩ : ∃ Mz, Mz = g_wi M b7 (g_i M a0 4) v1 := ⟨_, rfl⟩
    rw [← hM13]
    refine g_Run.ok fun hok14 => ?_
    replace h := h M12 hM13 hok14
    have hx15 := g_extW hM13
    replace hO1 := hO1.up hx15
    replace hA5 := hA5.up hx15
    replace hA10 := hA10.up hx15
    refine r_aload_n x_25_22 rfl ?_
    refine r_dup x_25_23 rfl ?_
    refine r_getI x_25_24 rfl (ci := 1) (k := 4) (ns := 0) (by decide +kernel) (by decide) rfl (kz := 4) rfl hO1 ?_
    refine r_iconst x_25_27 ?_
    refine r_iadd x_25_28 ?_
    obtain ⟨h16, h⟩ := h
    refine r_putI x_25_29 (ci := 1) (k := 4) (ns := 0) (by decide +kernel) (by decide) (g_f0 (by decide +kernel)) rfl h16 trivial (kz := 4) rfl hO1 ?_
    obtain ⟨M17, hM18⟩ : ∃ Mz, Mz = g_wi M12 a0 4 ((g_i M12 a0 4) + 1) := ⟨_, rfl⟩
    rw [← hM18]
    refine g_Run.ok fun hok19 => ?_
    replace h := h M17 hM18 hok19
    have hx20 := g_extW hM18
    replace hO1 := hO1.up hx20
    replace hA5 := hA5.up hx20
    replace hA10 := hA10.up hx20
    exact r_retV x_25_32 rfl h
theorem m_X1_makes {d : Nat} {M : g_M} {Q : Int → g_M → Prop} {a0 : Nat} {v1 : Int} (hv1 : g_InR v1) {v2 : Int} (hv2 : g_InR v2) (h : g_ok M → g_O M a0 1 ∧ (∀ M2, M2 = g_wi M a0 4 0 → g_ok M2 → g_Run d 26 11 [(0, .ref a0), (1, g_n v1), (2, g_n v2), (3, g_n 163608), (4, g_n 0)] [] M2 (g_qI Q))) : g_Call (d + 1) 26 [.ref a0, g_n v1, g_n v2] M (g_qI Q) := by
  refine g_Call.ok fun hok0 => ?_
  replace h := h hok0
  refine r_body rfl (lv := [(0, .ref a0), (1, g_n v1), (2, g_n v2)]) rfl ?_
  refine g_Run.ok fun hok => ?_
  refine r_ldc x_26_0 (v := g_n 163608) rfl ?_
  refine r_istore_n x_26_2 (by decide +kernel) rfl (lv1 := [(0, .ref a0), (1, g_n v1), (2, g_n v2), (3, g_n 163608)]) rfl ?_
  refine r_aload_n x_26_3 rfl ?_
  refine r_iconst x_26_4 ?_
  obtain ⟨hO1, h⟩ := h
  refine r_putI x_26_5 (ci := 1) (k := 4) (ns := 0) (by decide +kernel) (by decide) (g_f0 (by decide +kernel)) rfl (g_Rk rfl) trivial (kz := 4) rfl hO1 ?_
  obtain ⟨M2, hM3⟩ : ∃ Mz, Mz = g_wi M a0 4 0 := ⟨_, rfl⟩
  rw [← hM3]
  refine g_Run.ok fun hok4 => ?_
  replace h := h M2 hM3 hok4
  have hx5 := g_extW hM3
  replace hO1 := hO1.up hx5
  refine r_iconst x_26_8 ?_
  refine r_istore x_26_9 (by decide +kernel) rfl (lv1 := [(0, .ref a0), (1, g_n v1), (2, g_n v2), (3, g_n 163608), (4, g_n 0)]) rfl ?_
  exact h
theorem s_X1_makes_11 {d : Nat} {M : g_M} {Q : Int → g_M → Prop} {a0 : Nat} {v1 : Int} (hv1 : g_InR v1) {v2 : Int} (hv2 : g_InR v2) {v3 : Int} (hv3 : g_InR v3) {v4 : Int} (hv4 : g_InR v4) (h : g_ok M → g_O M a0 1 ∧ ∃ b2, g_r M a0 1 = some b2 ∧ g_O M b2 5 ∧ ((v4 < g_i M b2 3 → ∃ b5, g_r M a0 0 = some b5 ∧ g_Call d 108 [.ref b5, g_n v3] M (g_qI fun r10 M7 => g_ext M M7 → g_ok M7 → g_InR r10 → ((r10 = 3 → g_Run d 26 48 [(0, .ref a0), (1, g_n v1), (2, g_n v2), (3, g_n v3), (4, g_n v4), (5, g_n r10)] [] M7 (g_qI Q)) ∧ (¬ r10 = 3 → ((r10 = 4 → g_Run d 26 48 [(0, .ref a0), (1, g_n v1), (2, g_n v2), (3, g_n v3), (4, g_n v4), (5, g_n r10)] [] M7 (g_qI Q)) ∧ (¬ r10 = 4 → Q 6 M7)))))) ∧ (¬ v4 < g_i M b2 3 → Q 0 M))) : g_Run d 26 11 [(0, .ref a0), (1, g_n v1), (2, g_n v2), (3, g_n v3), (4, g_n v4)] [] M (g_qI Q) := by
  refine g_Run.ok fun hok => ?_
  replace h := h hok
  refine r_iload x_26_11 rfl ?_
  refine r_aload_n x_26_13 rfl ?_
  obtain ⟨hO1, h⟩ := h
  obtain ⟨b2, hb3, h⟩ := h
  refine r_getR x_26_14 rfl (ci := 1) (k := 1) (ns := 0) (by decide +kernel) (by decide) rfl (kz := 1) rfl hO1 hb3 ?_
  obtain ⟨hO4, h⟩ := h
  refine r_getI x_26_17 rfl (ci := 5) (k := 3) (ns := 1) (by decide +kernel) (by decide) rfl (kz := 3) rfl hO4 ?_
  refine r_ic_ge x_26_20 (t := 207) (by decide +kernel) hv4 (hok.1 _ _) (fun hc => ?_) (fun hc => ?_)
  · replace h := h.2 hc
    refine r_iconst x_26_207 ?_
    exact r_retI x_26_208 rfl (g_Rk rfl) h
  · replace h := h.1 hc
    refine r_aload_n x_26_23 rfl ?_
    obtain ⟨b5, hb6, h⟩ := h
    refine r_getR x_26_24 rfl (ci := 1) (k := 0) (ns := 0) (by decide +kernel) (by decide) rfl (kz := 0) rfl hO1 hb6 ?_
    refine r_iload_n x_26_27 rfl ?_
    refine r_invS x_26_28 (z := 108) (ns := 1) (by decide +kernel) (as := [.ref b5, g_n v3]) (r := []) rfl rfl rfl ?_
    refine r_callI h fun r10 M7 hx8 hok9 hr11 h => ?_
    replace h := h hx8 hok9 hr11
    replace hO1 := hO1.up hx8
    replace hO4 := hO4.up hx8
    refine r_istore x_26_31 (by decide +kernel) rfl (lv1 := [(0, .ref a0), (1, g_n v1), (2, g_n v2), (3, g_n v3), (4, g_n v4), (5, g_n r10)]) rfl ?_
    refine r_iload x_26_33 rfl ?_
    refine r_iconst x_26_35 ?_
    refine r_ic_eq x_26_36 (t := 48) (by decide +kernel) hr11 (g_Rk rfl) (fun hc => ?_) (fun hc => ?_)
    · replace h := h.1 hc
      exact h
    · replace h := h.2 hc
      refine r_iload x_26_39 rfl ?_
      refine r_iconst x_26_41 ?_
      refine r_ic_eq x_26_42 (t := 48) (by decide +kernel) hr11 (g_Rk rfl) (fun hc => ?_) (fun hc => ?_)
      · replace h := h.1 hc
        exact h
      · replace h := h.2 hc
        refine r_bipush x_26_45 (x := 6) rfl ?_
        exact r_retI x_26_47 rfl (g_Rk rfl) h
theorem s_X1_makes_48 {d : Nat} {M : g_M} {Q : Int → g_M → Prop} {a0 : Nat} {v1 : Int} (hv1 : g_InR v1) {v2 : Int} (hv2 : g_InR v2) {v3 : Int} (hv3 : g_InR v3) {v4 : Int} (hv4 : g_InR v4) {v5 : Int} (hv5 : g_InR v5) (h : g_ok M → g_O M a0 1 ∧ g_Call d 25 [.ref a0, g_n v3] M (g_qV fun M2 => g_ext M M2 → g_ok M2 → ∃ b5, g_r M2 a0 0 = some b5 ∧ ∃ b7, g_r M2 a0 1 = some b7 ∧ g_O M2 b7 5 ∧ ∃ b10, g_r M2 b7 0 = some b10 ∧ ∃ b12, g_r M2 a0 1 = some b12 ∧ g_O M2 b12 5 ∧ ∃ b15, g_r M2 b12 1 = some b15 ∧ ∃ n17, g_A M2 b15 1 n17 ∧ ((0 : Int) ≤ v4 ∧ (v4 : Int) < n17) ∧ ∃ b20, g_r M2 a0 1 = some b20 ∧ g_O M2 b20 5 ∧ ∃ b23, g_r M2 b20 2 = some b23 ∧ ∃ n25, g_A M2 b23 1 n25 ∧ ((0 : Int) ≤ v4 ∧ (v4 : Int) < n25) ∧ g_Call d 114 [.ref b5, g_n v3, .ref b10, g_n (g_i M2 b15 v4), g_n (g_i M2 b23 v4)] M2 (g_qI fun r31 M28 => g_ext M2 M28 → g_ok M28 → g_InR r31 → ((r31 < 0 → ((v5 = 4 → ∃ b33, g_r M28 a0 1 = some b33 ∧ g_O M28 b33 5 ∧ ∃ b36, g_r M28 b33 0 = some b36 ∧ ∃ b38, g_r M28 a0 1 = some b38 ∧ g_O M28 b38 5 ∧ ∃ b41, g_r M28 b38 1 = some b41 ∧ ∃ n43, g_A M28 b41 1 n43 ∧ ((0 : Int) ≤ v4 ∧ (v4 : Int) < n43) ∧ ∃ b46, g_r M28 a0 1 = some b46 ∧ g_O M28 b46 5 ∧ ∃ b49, g_r M28 b46 2 = some b49 ∧ ∃ n51, g_A M28 b49 1 n51 ∧ ((0 : Int) ≤ v4 ∧ (v4 : Int) < n51) ∧ ∃ b54, g_r M28 a0 0 = some b54 ∧ g_Call d 113 [.ref b54, g_n v3] M28 (g_qI fun r59 M56 => g_ext M28 M56 → g_ok M56 → g_InR r59 → g_Call d 125 [.ref b36, g_n (g_i M28 b41 v4), g_n (g_i M28 b49 v4), g_n r59] M56 (g_qI fun r64 M61 => g_ext M56 M61 → g_ok M61 → g_InR r64 → ((r64 = 0 → Q 6 M61) ∧ (¬ r64 = 0 → g_Run d 26 145 [(0, .ref a0), (1, g_n v1), (2, g_n v2), (3, g_n v3), (4, g_n v4), (5, g_n v5), (6, g_n r31)] [] M61 (g_qI Q)))))) ∧ (¬ v5 = 4 → g_Run d 26 145 [(0, .ref a0), (1, g_n v1), (2, g_n v2), (3, g_n v3), (4, g_n v4), (5, g_n v5), (6, g_n r31)] [] M28 (g_qI Q)))) ∧ (¬ r31 < 0 → g_Run d 26 145 [(0, .ref a0), (1, g_n v1), (2, g_n v2), (3, g_n v3), (4, g_n v4), (5, g_n v5), (6, g_n r31)] [] M28 (g_qI Q)))))) : g_Run d 26 48 [(0, .ref a0), (1, g_n v1), (2, g_n v2), (3, g_n v3), (4, g_n v4), (5, g_n v5)] [] M (g_qI Q) := by
  refine g_Run.ok fun hok => ?_
  replace h := h hok
  refine r_aload_n x_26_48 rfl ?_
  refine r_iload_n x_26_49 rfl ?_
  obtain ⟨hO1, h⟩ := h
  refine r_invV x_26_50 (z := 25) (ns := 0) (by decide +kernel) (as := [g_n v3]) (r := []) rfl rfl rfl hO1 rfl rfl ?_
  refine r_callV h fun M2 hx3 hok4 h => ?_
  replace h := h hx3 hok4
  replace hO1 := hO1.up hx3
  refine r_aload_n x_26_53 rfl ?_
  obtain ⟨b5, hb6, h⟩ := h
  refine r_getR x_26_54 rfl (ci := 1) (k := 0) (ns := 0) (by decide +kernel) (by decide) rfl (kz := 0) rfl hO1 hb6 ?_
  refine r_iload_n x_26_57 rfl ?_
  refine r_aload_n x_26_58 rfl ?_
  obtain ⟨b7, hb8, h⟩ := h
  refine r_getR x_26_59 rfl (ci := 1) (k := 1) (ns := 0) (by decide +kernel) (by decide) rfl (kz := 1) rfl hO1 hb8 ?_
  obtain ⟨hO9, h⟩ := h
  obtain ⟨b10, hb11, h⟩ := h
  refine r_getR x_26_62 rfl (ci := 5) (k := 0) (ns := 1) (by decide +kernel) (by decide) rfl (kz := 0) rfl hO9 hb11 ?_
  refine r_aload_n x_26_65 rfl ?_
  obtain ⟨b12, hb13, h⟩ := h
  refine r_getR x_26_66 rfl (ci := 1) (k := 1) (ns := 0) (by decide +kernel) (by decide) rfl (kz := 1) rfl hO1 hb13 ?_
  obtain ⟨hO14, h⟩ := h
  obtain ⟨b15, hb16, h⟩ := h
  refine r_getR x_26_69 rfl (ci := 5) (k := 1) (ns := 1) (by decide +kernel) (by decide) rfl (kz := 1) rfl hO14 hb16 ?_
  refine r_iload x_26_72 rfl ?_
  obtain ⟨n17, hA18, h⟩ := h
  obtain ⟨h19, h⟩ := h
  refine r_iald x_26_74 hA18 hv4 h19.1 h19.2 ?_
  refine r_aload_n x_26_75 rfl ?_
  obtain ⟨b20, hb21, h⟩ := h
  refine r_getR x_26_76 rfl (ci := 1) (k := 1) (ns := 0) (by decide +kernel) (by decide) rfl (kz := 1) rfl hO1 hb21 ?_
  obtain ⟨hO22, h⟩ := h
  obtain ⟨b23, hb24, h⟩ := h
  refine r_getR x_26_79 rfl (ci := 5) (k := 2) (ns := 1) (by decide +kernel) (by decide) rfl (kz := 2) rfl hO22 hb24 ?_
  refine r_iload x_26_82 rfl ?_
  obtain ⟨n25, hA26, h⟩ := h
  obtain ⟨h27, h⟩ := h
  refine r_iald x_26_84 hA26 hv4 h27.1 h27.2 ?_
  refine r_invS x_26_85 (z := 114) (ns := 1) (by decide +kernel) (as := [.ref b5, g_n v3, .ref b10, g_n (g_i M2 b15 v4), g_n (g_i M2 b23 v4)]) (r := []) rfl rfl rfl ?_
  refine r_callI h fun r31 M28 hx29 hok30 hr32 h => ?_
  replace h := h hx29 hok30 hr32
  replace hO1 := hO1.up hx29
  replace hO9 := hO9.up hx29
  replace hO14 := hO14.up hx29
  replace hO22 := hO22.up hx29
  replace hA18 := hA18.up hx29
  replace hA26 := hA26.up hx29
  refine r_istore x_26_88 (by decide +kernel) rfl (lv1 := [(0, .ref a0), (1, g_n v1), (2, g_n v2), (3, g_n v3), (4, g_n v4), (5, g_n v5), (6, g_n r31)]) rfl ?_
  refine r_iload x_26_90 rfl ?_
  refine r_if_ge x_26_92 (t := 145) (by decide +kernel) hr32 (fun hc => ?_) (fun hc => ?_)
  · replace h := h.2 hc
    exact h
  · replace h := h.1 hc
    refine r_iload x_26_95 rfl ?_
    refine r_iconst x_26_97 ?_
    refine r_ic_ne x_26_98 (t := 145) (by decide +kernel) hv5 (g_Rk rfl) (fun hc => ?_) (fun hc => ?_)
    · replace h := h.2 hc
      exact h
    · replace h := h.1 hc
      refine r_aload_n x_26_101 rfl ?_
      obtain ⟨b33, hb34, h⟩ := h
      refine r_getR x_26_102 rfl (ci := 1) (k := 1) (ns := 0) (by decide +kernel) (by decide) rfl (kz := 1) rfl hO1 hb34 ?_
      obtain ⟨hO35, h⟩ := h
      obtain ⟨b36, hb37, h⟩ := h
      refine r_getR x_26_105 rfl (ci := 5) (k := 0) (ns := 1) (by decide +kernel) (by decide) rfl (kz := 0) rfl hO35 hb37 ?_
      refine r_aload_n x_26_108 rfl ?_
      obtain ⟨b38, hb39, h⟩ := h
      refine r_getR x_26_109 rfl (ci := 1) (k := 1) (ns := 0) (by decide +kernel) (by decide) rfl (kz := 1) rfl hO1 hb39 ?_
      obtain ⟨hO40, h⟩ := h
      obtain ⟨b41, hb42, h⟩ := h
      refine r_getR x_26_112 rfl (ci := 5) (k := 1) (ns := 1) (by decide +kernel) (by decide) rfl (kz := 1) rfl hO40 hb42 ?_
      refine r_iload x_26_115 rfl ?_
      obtain ⟨n43, hA44, h⟩ := h
      obtain ⟨h45, h⟩ := h
      refine r_iald x_26_117 hA44 hv4 h45.1 h45.2 ?_
      refine r_aload_n x_26_118 rfl ?_
      obtain ⟨b46, hb47, h⟩ := h
      refine r_getR x_26_119 rfl (ci := 1) (k := 1) (ns := 0) (by decide +kernel) (by decide) rfl (kz := 1) rfl hO1 hb47 ?_
      obtain ⟨hO48, h⟩ := h
      obtain ⟨b49, hb50, h⟩ := h
      refine r_getR x_26_122 rfl (ci := 5) (k := 2) (ns := 1) (by decide +kernel) (by decide) rfl (kz := 2) rfl hO48 hb50 ?_
      refine r_iload x_26_125 rfl ?_
      obtain ⟨n51, hA52, h⟩ := h
      obtain ⟨h53, h⟩ := h
      refine r_iald x_26_127 hA52 hv4 h53.1 h53.2 ?_
      refine r_aload_n x_26_128 rfl ?_
      obtain ⟨b54, hb55, h⟩ := h
      refine r_getR x_26_129 rfl (ci := 1) (k := 0) (ns := 0) (by decide +kernel) (by decide) rfl (kz := 0) rfl hO1 hb55 ?_
      refine r_iload_n x_26_132 rfl ?_
      refine r_invS x_26_133 (z := 113) (ns := 1) (by decide +kernel) (as := [.ref b54, g_n v3]) (r := [g_n (g_i M28 b49 v4), g_n (g_i M28 b41 v4), .ref b36]) rfl rfl rfl ?_
      refine r_callI h fun r59 M56 hx57 hok58 hr60 h => ?_
      replace h := h hx57 hok58 hr60
      replace hO1 := hO1.up hx57
      replace hO9 := hO9.up hx57
      replace hO14 := hO14.up hx57
      replace hO22 := hO22.up hx57
      replace hO35 := hO35.up hx57
      replace hO40 := hO40.up hx57
      replace hO48 := hO48.up hx57
      replace hA18 := hA18.up hx57
      replace hA26 := hA26.up hx57
      replace hA44 := hA44.up hx57
      replace hA52 := hA52.up hx57
      refine r_invS x_26_136 (z := 125) (ns := 1) (by decide +kernel) (as := [.ref b36, g_n (g_i M28 b41 v4), g_n (g_i M28 b49 v4), g_n r59]) (r := []) rfl rfl rfl ?_
      refine r_callI h fun r64 M61 hx62 hok63 hr65 h => ?_
      replace h := h hx62 hok63 hr65
      replace hO1 := hO1.up hx62
      replace hO9 := hO9.up hx62
      replace hO14 := hO14.up hx62
      replace hO22 := hO22.up hx62
      replace hO35 := hO35.up hx62
      replace hO40 := hO40.up hx62
      replace hO48 := hO48.up hx62
      replace hA18 := hA18.up hx62
      replace hA26 := hA26.up hx62
      replace hA44 := hA44.up hx62
      replace hA52 := hA52.up hx62
      refine r_if_ne x_26_139 (t := 145) (by decide +kernel) hr65 (fun hc => ?_) (fun hc => ?_)
      · replace h := h.2 hc
        exact h
      · replace h := h.1 hc
        refine r_bipush x_26_142 (x := 6) rfl ?_
        exact r_retI x_26_144 rfl (g_Rk rfl) h
theorem s_X1_makes_145 {d : Nat} {M : g_M} {Q : Int → g_M → Prop} {a0 : Nat} {v1 : Int} (hv1 : g_InR v1) {v2 : Int} (hv2 : g_InR v2) {v3 : Int} (hv3 : g_InR v3) {v4 : Int} (hv4 : g_InR v4) {v5 : Int} (hv5 : g_InR v5) {v6 : Int} (hv6 : g_InR v6) (h : g_ok M → g_O M a0 1 ∧ ∃ b2, g_r M a0 1 = some b2 ∧ g_O M b2 5 ∧ g_InR ((g_i M b2 3) - 1) ∧ ((v4 = (g_i M b2 3) - 1 → ((v6 < 0 → g_Call d 29 [.ref a0, g_n v1, g_n v2, g_n v4] M (g_qI fun r21 M18 => g_ext M M18 → g_ok M18 → g_InR r21 → Q r21 M18)) ∧ (¬ v6 < 0 → g_Call d 30 [.ref a0, g_n v1, g_n v2, g_n v6] M (g_qI fun r16 M13 => g_ext M M13 → g_ok M13 → g_InR r16 → Q r16 M13)))) ∧ (¬ v4 = (g_i M b2 3) - 1 → ((v6 < 0 → g_Call d 28 [.ref a0, g_n v4] M (g_qI fun r10 M7 => g_ext M M7 → g_ok M7 → g_InR r10 → g_InR (v4 + 1) ∧ g_Run d 26 11 [(0, .ref a0), (1, g_n v1), (2, g_n v2), (3, g_n r10), (4, g_n (v4 + 1))] [] M7 (g_qI Q))) ∧ (¬ v6 < 0 → g_InR (v4 + 1) ∧ g_Run d 26 11 [(0, .ref a0), (1, g_n v1), (2, g_n v2), (3, g_n v6), (4, g_n (v4 + 1))] [] M (g_qI Q)))))) : g_Run d 26 145 [(0, .ref a0), (1, g_n v1), (2, g_n v2), (3, g_n v3), (4, g_n v4), (5, g_n v5), (6, g_n v6)] [] M (g_qI Q) := by
  refine g_Run.ok fun hok => ?_
  replace h := h hok
  refine r_iload x_26_145 rfl ?_
  refine r_aload_n x_26_147 rfl ?_
  obtain ⟨hO1, h⟩ := h
  obtain ⟨b2, hb3, h⟩ := h
  refine r_getR x_26_148 rfl (ci := 1) (k := 1) (ns := 0) (by decide +kernel) (by decide) rfl (kz := 1) rfl hO1 hb3 ?_
  obtain ⟨hO4, h⟩ := h
  refine r_getI x_26_151 rfl (ci := 5) (k := 3) (ns := 1) (by decide +kernel) (by decide) rfl (kz := 3) rfl hO4 ?_
  refine r_iconst x_26_154 ?_
  refine r_isub x_26_155 ?_
  obtain ⟨h5, h⟩ := h
  refine r_ic_ne x_26_156 (t := 184) (by decide +kernel) hv4 h5 (fun hc => ?_) (fun hc => ?_)
  · replace h := h.2 hc
    refine r_iload x_26_184 rfl ?_
    refine r_if_ge x_26_186 (t := 198) (by decide +kernel) hv6 (fun hc => ?_) (fun hc => ?_)
    · replace h := h.2 hc
      refine r_iload x_26_198 rfl ?_
      refine r_istore_n x_26_200 (by decide +kernel) rfl (lv1 := [(0, .ref a0), (1, g_n v1), (2, g_n v2), (3, g_n v6), (4, g_n v4), (5, g_n v5), (6, g_n v6)]) rfl ?_
      obtain ⟨h6, h⟩ := h
      refine r_iinc x_26_201 (by decide +kernel) rfl rfl (lv1 := [(0, .ref a0), (1, g_n v1), (2, g_n v2), (3, g_n v6), (4, g_n (v4 + 1)), (5, g_n v5), (6, g_n v6)]) rfl ?_
      refine r_goto x_26_204 (t := 11) (by decide +kernel) ?_
      refine g_drop [0, 1, 2, 3, 4] (lv1 := [(0, .ref a0), (1, g_n v1), (2, g_n v2), (3, g_n v6), (4, g_n (v4 + 1))]) rfl ?_
      exact h
    · replace h := h.1 hc
      refine r_aload_n x_26_189 rfl ?_
      refine r_iload x_26_190 rfl ?_
      refine r_invV x_26_192 (z := 28) (ns := 0) (by decide +kernel) (as := [g_n v4]) (r := []) rfl rfl rfl hO1 rfl rfl ?_
      refine r_callI h fun r10 M7 hx8 hok9 hr11 h => ?_
      replace h := h hx8 hok9 hr11
      replace hO1 := hO1.up hx8
      replace hO4 := hO4.up hx8
      refine r_goto x_26_195 (t := 200) (by decide +kernel) ?_
      refine r_istore_n x_26_200 (by decide +kernel) rfl (lv1 := [(0, .ref a0), (1, g_n v1), (2, g_n v2), (3, g_n r10), (4, g_n v4), (5, g_n v5), (6, g_n v6)]) rfl ?_
      obtain ⟨h12, h⟩ := h
      refine r_iinc x_26_201 (by decide +kernel) rfl rfl (lv1 := [(0, .ref a0), (1, g_n v1), (2, g_n v2), (3, g_n r10), (4, g_n (v4 + 1)), (5, g_n v5), (6, g_n v6)]) rfl ?_
      refine r_goto x_26_204 (t := 11) (by decide +kernel) ?_
      refine g_drop [0, 1, 2, 3, 4] (lv1 := [(0, .ref a0), (1, g_n v1), (2, g_n v2), (3, g_n r10), (4, g_n (v4 + 1))]) rfl ?_
      exact h
  · replace h := h.1 hc
    refine r_iload x_26_159 rfl ?_
    refine r_if_ge x_26_161 (t := 175) (by decide +kernel) hv6 (fun hc => ?_) (fun hc => ?_)
    · replace h := h.2 hc
      refine r_aload_n x_26_175 rfl ?_
      refine r_iload_n x_26_176 rfl ?_
      refine r_iload_n x_26_177 rfl ?_
      refine r_iload x_26_178 rfl ?_
      refine r_invV x_26_180 (z := 30) (ns := 0) (by decide +kernel) (as := [g_n v1, g_n v2, g_n v6]) (r := []) rfl rfl rfl hO1 rfl rfl ?_
      refine r_callI h fun r16 M13 hx14 hok15 hr17 h => ?_
      replace h := h hx14 hok15 hr17
      replace hO1 := hO1.up hx14
      replace hO4 := hO4.up hx14
      exact r_retI x_26_183 rfl hr17 h
    · replace h := h.1 hc
      refine r_aload_n x_26_164 rfl ?_
      refine r_iload_n x_26_165 rfl ?_
      refine r_iload_n x_26_166 rfl ?_
      refine r_iload x_26_167 rfl ?_
      refine r_invV x_26_169 (z := 29) (ns := 0) (by decide +kernel) (as := [g_n v1, g_n v2, g_n v4]) (r := []) rfl rfl rfl hO1 rfl rfl ?_
      refine r_callI h fun r21 M18 hx19 hok20 hr22 h => ?_
      replace h := h hx19 hok20 hr22
      replace hO1 := hO1.up hx19
      replace hO4 := hO4.up hx19
      refine r_goto x_26_172 (t := 183) (by decide +kernel) ?_
      exact r_retI x_26_183 rfl hr22 h
theorem m_X1_behindOthers {d : Nat} {M : g_M} {Q : Int → g_M → Prop} {a0 : Nat} (h : g_ok M → g_O M a0 1 ∧ ∃ b2, g_r M a0 0 = some b2 ∧ ((0 < g_i M a0 4 → ∃ b4, g_r M a0 2 = some b4 ∧ g_InR ((g_i M a0 4) - 1) ∧ ∃ n7, g_A M b4 1 n7 ∧ ((0 : Int) ≤ (g_i M a0 4) - 1 ∧ ((g_i M a0 4) - 1 : Int) < n7) ∧ g_Run d 27 27 [(0, .ref a0)] [g_n (g_i M b4 ((g_i M a0 4) - 1)), .ref b2] M (g_qI Q)) ∧ (¬ 0 < g_i M a0 4 → g_Run d 27 27 [(0, .ref a0)] [g_n 163608, .ref b2] M (g_qI Q)))) : g_Call (d + 1) 27 [.ref a0] M (g_qI Q) := by
  refine g_Call.ok fun hok0 => ?_
  replace h := h hok0
  refine r_body rfl (lv := [(0, .ref a0)]) rfl ?_
  refine g_Run.ok fun hok => ?_
  refine r_aload_n x_27_0 rfl ?_
  obtain ⟨hO1, h⟩ := h
  obtain ⟨b2, hb3, h⟩ := h
  refine r_getR x_27_1 rfl (ci := 1) (k := 0) (ns := 0) (by decide +kernel) (by decide) rfl (kz := 0) rfl hO1 hb3 ?_
  refine r_aload_n x_27_4 rfl ?_
  refine r_getI x_27_5 rfl (ci := 1) (k := 4) (ns := 0) (by decide +kernel) (by decide) rfl (kz := 4) rfl hO1 ?_
  refine r_if_le x_27_8 (t := 25) (by decide +kernel) (hok.1 _ _) (fun hc => ?_) (fun hc => ?_)
  · replace h := h.2 hc
    refine r_ldc x_27_25 (v := g_n 163608) rfl ?_
    exact h
  · replace h := h.1 hc
    refine r_aload_n x_27_11 rfl ?_
    obtain ⟨b4, hb5, h⟩ := h
    refine r_getR x_27_12 rfl (ci := 1) (k := 2) (ns := 0) (by decide +kernel) (by decide) rfl (kz := 2) rfl hO1 hb5 ?_
    refine r_aload_n x_27_15 rfl ?_
    refine r_getI x_27_16 rfl (ci := 1) (k := 4) (ns := 0) (by decide +kernel) (by decide) rfl (kz := 4) rfl hO1 ?_
    refine r_iconst x_27_19 ?_
    refine r_isub x_27_20 ?_
    obtain ⟨h6, h⟩ := h
    obtain ⟨n7, hA8, h⟩ := h
    obtain ⟨h9, h⟩ := h
    refine r_iald x_27_21 hA8 h6 h9.1 h9.2 ?_
    refine r_goto x_27_22 (t := 27) (by decide +kernel) ?_
    exact h
theorem s_X1_behindOthers_27 {d : Nat} {M : g_M} {Q : Int → g_M → Prop} {a0 : Nat} {w0 : Int} (hw0 : g_InR w0) {c1 : Nat} (h : g_ok M → g_Call d 110 [.ref c1, g_n w0] M (g_qI fun r4 M1 => g_ext M M1 → g_ok M1 → g_InR r4 → g_O M1 a0 1 ∧ ∃ b7, g_r M1 a0 0 = some b7 ∧ g_Call d 109 [.ref b7, g_n r4] M1 (g_qI fun r12 M9 => g_ext M1 M9 → g_ok M9 → g_InR r12 → g_InR (r4 + r12) ∧ g_InR ((r4 + r12) - 1) ∧ Q ((r4 + r12) - 1) M9))) : g_Run d 27 27 [(0, .ref a0)] [g_n w0, .ref c1] M (g_qI Q) := by
  refine g_Run.ok fun hok => ?_
  replace h := h hok
  refine r_invS x_27_27 (z := 110) (ns := 1) (by decide +kernel) (as := [.ref c1, g_n w0]) (r := []) rfl rfl rfl ?_
  refine r_callI h fun r4 M1 hx2 hok3 hr5 h => ?_
  replace h := h hx2 hok3 hr5
  refine r_istore_n x_27_30 (by decide +kernel) rfl (lv1 := [(0, .ref a0), (1, g_n r4)]) rfl ?_
  refine r_iload_n x_27_31 rfl ?_
  refine r_aload_n x_27_32 rfl ?_
  obtain ⟨hO6, h⟩ := h
  obtain ⟨b7, hb8, h⟩ := h
  refine r_getR x_27_33 rfl (ci := 1) (k := 0) (ns := 0) (by decide +kernel) (by decide) rfl (kz := 0) rfl hO6 hb8 ?_
  refine r_iload_n x_27_36 rfl ?_
  refine r_invS x_27_37 (z := 109) (ns := 1) (by decide +kernel) (as := [.ref b7, g_n r4]) (r := [g_n r4]) rfl rfl rfl ?_
  refine r_callI h fun r12 M9 hx10 hok11 hr13 h => ?_
  replace h := h hx10 hok11 hr13
  replace hO6 := hO6.up hx10
  refine r_iadd x_27_40 ?_
  obtain ⟨h14, h⟩ := h
  refine r_iconst x_27_41 ?_
  refine r_isub x_27_42 ?_
  obtain ⟨h15, h⟩ := h
  exact r_retI x_27_43 rfl h15 h
theorem m_X1_makeDocument {d : Nat} {M : g_M} {Q : Int → g_M → Prop} {a0 : Nat} {v1 : Int} (hv1 : g_InR v1) (h : g_ok M → g_O M a0 1 ∧ g_Call d 27 [.ref a0] M (g_qI fun r5 M2 => g_ext M M2 → g_ok M2 → g_InR r5 → ∃ b7, g_r M2 a0 1 = some b7 ∧ g_O M2 b7 5 ∧ ∃ b10, g_r M2 b7 2 = some b10 ∧ ∃ n12, g_A M2 b10 1 n12 ∧ ((0 : Int) ≤ v1 ∧ (v1 : Int) < n12) ∧ ∃ b15, g_r M2 a0 1 = some b15 ∧ g_O M2 b15 5 ∧ ∃ b18, g_r M2 b15 1 = some b18 ∧ ∃ n20, g_A M2 b18 1 n20 ∧ ((0 : Int) ≤ v1 ∧ (v1 : Int) < n20) ∧ g_InR ((g_i M2 b10 v1) - (g_i M2 b18 v1)) ∧ g_InR (((g_i M2 b10 v1) - (g_i M2 b18 v1)) + 7) ∧ g_Call d 24 [.ref a0, g_n r5, g_n 0, g_n (((g_i M2 b10 v1) - (g_i M2 b18 v1)) + 7)] M2 (g_qI fun r28 M25 => g_ext M2 M25 → g_ok M25 → g_InR r28 → ((r28 = 0 → Q r5 M25) ∧ (¬ r28 = 0 → ∃ b30, g_r M25 a0 3 = some b30 ∧ ∃ b32, g_r M25 a0 1 = some b32 ∧ g_O M25 b32 5 ∧ ∃ b35, g_r M25 b32 0 = some b35 ∧ ∃ b37, g_r M25 a0 1 = some b37 ∧ g_O M25 b37 5 ∧ ∃ b40, g_r M25 b37 1 = some b40 ∧ ∃ n42, g_A M25 b40 1 n42 ∧ ((0 : Int) ≤ v1 ∧ (v1 : Int) < n42) ∧ ∃ b45, g_r M25 a0 1 = some b45 ∧ g_O M25 b45 5 ∧ ∃ b48, g_r M25 b45 2 = some b48 ∧ ∃ n50, g_A M25 b48 1 n50 ∧ ((0 : Int) ≤ v1 ∧ (v1 : Int) < n50) ∧ g_O M25 b30 4 ∧ g_Call d 82 [.ref b30, g_n 3, .ref b35, g_n (g_i M25 b40 v1), g_n (g_i M25 b48 v1)] M25 (g_qV fun M54 => g_ext M25 M54 → g_ok M54 → ∃ b57, g_r M54 a0 3 = some b57 ∧ g_O M54 b57 4 ∧ g_Call d 77 [.ref b57, g_n 5] M54 (g_qV fun M60 => g_ext M54 M60 → g_ok M60 → ∃ b63, g_r M60 a0 3 = some b63 ∧ g_O M60 b63 4 ∧ g_Call d 76 [.ref b63, g_n 0] M60 (g_qV fun M66 => g_ext M60 M66 → g_ok M66 → Q r5 M66)))))))) : g_Call (d + 1) 28 [.ref a0, g_n v1] M (g_qI Q) := by
  refine g_Call.ok fun hok0 => ?_
  replace h := h hok0
  refine r_body rfl (lv := [(0, .ref a0), (1, g_n v1)]) rfl ?_
  refine g_Run.ok fun hok => ?_
  refine r_aload_n x_28_0 rfl ?_
  obtain ⟨hO1, h⟩ := h
  refine r_invV x_28_1 (z := 27) (ns := 0) (by decide +kernel) (as := []) (r := []) rfl rfl rfl hO1 rfl rfl ?_
  refine r_callI h fun r5 M2 hx3 hok4 hr6 h => ?_
  replace h := h hx3 hok4 hr6
  replace hO1 := hO1.up hx3
  refine r_istore_n x_28_4 (by decide +kernel) rfl (lv1 := [(0, .ref a0), (1, g_n v1), (2, g_n r5)]) rfl ?_
  refine r_aload_n x_28_5 rfl ?_
  refine r_iload_n x_28_6 rfl ?_
  refine r_iconst x_28_7 ?_
  refine r_aload_n x_28_8 rfl ?_
  obtain ⟨b7, hb8, h⟩ := h
  refine r_getR x_28_9 rfl (ci := 1) (k := 1) (ns := 0) (by decide +kernel) (by decide) rfl (kz := 1) rfl hO1 hb8 ?_
  obtain ⟨hO9, h⟩ := h
  obtain ⟨b10, hb11, h⟩ := h
  refine r_getR x_28_12 rfl (ci := 5) (k := 2) (ns := 1) (by decide +kernel) (by decide) rfl (kz := 2) rfl hO9 hb11 ?_
  refine r_iload_n x_28_15 rfl ?_
  obtain ⟨n12, hA13, h⟩ := h
  obtain ⟨h14, h⟩ := h
  refine r_iald x_28_16 hA13 hv1 h14.1 h14.2 ?_
  refine r_aload_n x_28_17 rfl ?_
  obtain ⟨b15, hb16, h⟩ := h
  refine r_getR x_28_18 rfl (ci := 1) (k := 1) (ns := 0) (by decide +kernel) (by decide) rfl (kz := 1) rfl hO1 hb16 ?_
  obtain ⟨hO17, h⟩ := h
  obtain ⟨b18, hb19, h⟩ := h
  refine r_getR x_28_21 rfl (ci := 5) (k := 1) (ns := 1) (by decide +kernel) (by decide) rfl (kz := 1) rfl hO17 hb19 ?_
  refine r_iload_n x_28_24 rfl ?_
  obtain ⟨n20, hA21, h⟩ := h
  obtain ⟨h22, h⟩ := h
  refine r_iald x_28_25 hA21 hv1 h22.1 h22.2 ?_
  refine r_isub x_28_26 ?_
  obtain ⟨h23, h⟩ := h
  refine r_bipush x_28_27 (x := 7) rfl ?_
  refine r_iadd x_28_29 ?_
  obtain ⟨h24, h⟩ := h
  refine r_invV x_28_30 (z := 24) (ns := 0) (by decide +kernel) (as := [g_n r5, g_n 0, g_n (((g_i M2 b10 v1) - (g_i M2 b18 v1)) + 7)]) (r := []) rfl rfl rfl hO1 rfl rfl ?_
  refine r_callI h fun r28 M25 hx26 hok27 hr29 h => ?_
  replace h := h hx26 hok27 hr29
  replace hO1 := hO1.up hx26
  replace hO9 := hO9.up hx26
  replace hO17 := hO17.up hx26
  replace hA13 := hA13.up hx26
  replace hA21 := hA21.up hx26
  refine r_if_eq x_28_33 (t := 85) (by decide +kernel) hr29 (fun hc => ?_) (fun hc => ?_)
  · replace h := h.1 hc
    refine r_iload_n x_28_85 rfl ?_
    exact r_retI x_28_86 rfl hr6 h
  · replace h := h.2 hc
    refine r_aload_n x_28_36 rfl ?_
    obtain ⟨b30, hb31, h⟩ := h
    refine r_getR x_28_37 rfl (ci := 1) (k := 3) (ns := 0) (by decide +kernel) (by decide) rfl (kz := 3) rfl hO1 hb31 ?_
    refine r_iconst x_28_40 ?_
    refine r_aload_n x_28_41 rfl ?_
    obtain ⟨b32, hb33, h⟩ := h
    refine r_getR x_28_42 rfl (ci := 1) (k := 1) (ns := 0) (by decide +kernel) (by decide) rfl (kz := 1) rfl hO1 hb33 ?_
    obtain ⟨hO34, h⟩ := h
    obtain ⟨b35, hb36, h⟩ := h
    refine r_getR x_28_45 rfl (ci := 5) (k := 0) (ns := 1) (by decide +kernel) (by decide) rfl (kz := 0) rfl hO34 hb36 ?_
    refine r_aload_n x_28_48 rfl ?_
    obtain ⟨b37, hb38, h⟩ := h
    refine r_getR x_28_49 rfl (ci := 1) (k := 1) (ns := 0) (by decide +kernel) (by decide) rfl (kz := 1) rfl hO1 hb38 ?_
    obtain ⟨hO39, h⟩ := h
    obtain ⟨b40, hb41, h⟩ := h
    refine r_getR x_28_52 rfl (ci := 5) (k := 1) (ns := 1) (by decide +kernel) (by decide) rfl (kz := 1) rfl hO39 hb41 ?_
    refine r_iload_n x_28_55 rfl ?_
    obtain ⟨n42, hA43, h⟩ := h
    obtain ⟨h44, h⟩ := h
    refine r_iald x_28_56 hA43 hv1 h44.1 h44.2 ?_
    refine r_aload_n x_28_57 rfl ?_
    obtain ⟨b45, hb46, h⟩ := h
    refine r_getR x_28_58 rfl (ci := 1) (k := 1) (ns := 0) (by decide +kernel) (by decide) rfl (kz := 1) rfl hO1 hb46 ?_
    obtain ⟨hO47, h⟩ := h
    obtain ⟨b48, hb49, h⟩ := h
    refine r_getR x_28_61 rfl (ci := 5) (k := 2) (ns := 1) (by decide +kernel) (by decide) rfl (kz := 2) rfl hO47 hb49 ?_
    refine r_iload_n x_28_64 rfl ?_
    obtain ⟨n50, hA51, h⟩ := h
    obtain ⟨h52, h⟩ := h
    refine r_iald x_28_65 hA51 hv1 h52.1 h52.2 ?_
    obtain ⟨hO53, h⟩ := h
    refine r_invV x_28_66 (z := 82) (ns := 1) (by decide +kernel) (as := [g_n 3, .ref b35, g_n (g_i M25 b40 v1), g_n (g_i M25 b48 v1)]) (r := []) rfl rfl rfl hO53 rfl rfl ?_
    refine r_callV h fun M54 hx55 hok56 h => ?_
    replace h := h hx55 hok56
    replace hO1 := hO1.up hx55
    replace hO9 := hO9.up hx55
    replace hO17 := hO17.up hx55
    replace hO34 := hO34.up hx55
    replace hO39 := hO39.up hx55
    replace hO47 := hO47.up hx55
    replace hO53 := hO53.up hx55
    replace hA13 := hA13.up hx55
    replace hA21 := hA21.up hx55
    replace hA43 := hA43.up hx55
    replace hA51 := hA51.up hx55
    refine r_aload_n x_28_69 rfl ?_
    obtain ⟨b57, hb58, h⟩ := h
    refine r_getR x_28_70 rfl (ci := 1) (k := 3) (ns := 0) (by decide +kernel) (by decide) rfl (kz := 3) rfl hO1 hb58 ?_
    refine r_iconst x_28_73 ?_
    obtain ⟨hO59, h⟩ := h
    refine r_invV x_28_74 (z := 77) (ns := 1) (by decide +kernel) (as := [g_n 5]) (r := []) rfl rfl rfl hO59 rfl rfl ?_
    refine r_callV h fun M60 hx61 hok62 h => ?_
    replace h := h hx61 hok62
    replace hO1 := hO1.up hx61
    replace hO9 := hO9.up hx61
    replace hO17 := hO17.up hx61
    replace hO34 := hO34.up hx61
    replace hO39 := hO39.up hx61
    replace hO47 := hO47.up hx61
    replace hO53 := hO53.up hx61
    replace hO59 := hO59.up hx61
    replace hA13 := hA13.up hx61
    replace hA21 := hA21.up hx61
    replace hA43 := hA43.up hx61
    replace hA51 := hA51.up hx61
    refine r_aload_n x_28_77 rfl ?_
    obtain ⟨b63, hb64, h⟩ := h
    refine r_getR x_28_78 rfl (ci := 1) (k := 3) (ns := 0) (by decide +kernel) (by decide) rfl (kz := 3) rfl hO1 hb64 ?_
    refine r_iconst x_28_81 ?_
    obtain ⟨hO65, h⟩ := h
    refine r_invV x_28_82 (z := 76) (ns := 1) (by decide +kernel) (as := [g_n 0]) (r := []) rfl rfl rfl hO65 rfl rfl ?_
    refine r_callV h fun M66 hx67 hok68 h => ?_
    replace h := h hx67 hok68
    replace hO1 := hO1.up hx67
    replace hO9 := hO9.up hx67
    replace hO17 := hO17.up hx67
    replace hO34 := hO34.up hx67
    replace hO39 := hO39.up hx67
    replace hO47 := hO47.up hx67
    replace hO53 := hO53.up hx67
    replace hO59 := hO59.up hx67
    replace hO65 := hO65.up hx67
    replace hA13 := hA13.up hx67
    replace hA21 := hA21.up hx67
    replace hA43 := hA43.up hx67
    replace hA51 := hA51.up hx67
    refine r_iload_n x_28_85 rfl ?_
    exact r_retI x_28_86 rfl hr6 h
theorem m_X1_comesFree {d : Nat} {M : g_M} {Q : Int → g_M → Prop} {a0 : Nat} {v1 : Int} (hv1 : g_InR v1) {v2 : Int} (hv2 : g_InR v2) {v3 : Int} (hv3 : g_InR v3) (h : g_ok M → g_O M a0 1 ∧ ∃ b2, g_r M a0 0 = some b2 ∧ g_Call d 108 [.ref b2, g_n v2] M (g_qI fun r7 M4 => g_ext M M4 → g_ok M4 → g_InR r7 → ∃ b9, g_r M4 a0 1 = some b9 ∧ g_O M4 b9 5 ∧ ∃ b12, g_r M4 b9 2 = some b12 ∧ ∃ n14, g_A M4 b12 1 n14 ∧ ((0 : Int) ≤ v3 ∧ (v3 : Int) < n14) ∧ ∃ b17, g_r M4 a0 1 = some b17 ∧ g_O M4 b17 5 ∧ ∃ b20, g_r M4 b17 1 = some b20 ∧ ∃ n22, g_A M4 b20 1 n22 ∧ ((0 : Int) ≤ v3 ∧ (v3 : Int) < n22) ∧ g_InR ((g_i M4 b12 v3) - (g_i M4 b20 v3)) ∧ ∃ b26, g_r M4 a0 0 = some b26 ∧ g_Call d 111 [.ref b26, g_n v2] M4 (g_qI fun r31 M28 => g_ext M4 M28 → g_ok M28 → g_InR r31 → ∃ b33, g_r M28 a0 0 = some b33 ∧ g_Call d 110 [.ref b33, g_n v2] M28 (g_qI fun r38 M35 => g_ext M28 M35 → g_ok M35 → g_InR r38 → g_InR (r31 - r38) ∧ ((v1 = 4 → g_Run d 29 66 [(0, .ref a0), (1, g_n v1), (2, g_n v2), (3, g_n v3), (4, g_n r7), (5, g_n ((g_i M4 b12 v3) - (g_i M4 b20 v3))), (6, g_n (r31 - r38))] [g_n 1] M35 (g_qI Q)) ∧ (¬ v1 = 4 → ((v1 = 6 → g_Run d 29 66 [(0, .ref a0), (1, g_n v1), (2, g_n v2), (3, g_n v3), (4, g_n r7), (5, g_n ((g_i M4 b12 v3) - (g_i M4 b20 v3))), (6, g_n (r31 - r38))] [g_n 1] M35 (g_qI Q)) ∧ (¬ v1 = 6 → g_Run d 29 66 [(0, .ref a0), (1, g_n v1), (2, g_n v2), (3, g_n v3), (4, g_n r7), (5, g_n ((g_i M4 b12 v3) - (g_i M4 b20 v3))), (6, g_n (r31 - r38))] [g_n 0] M35 (g_qI Q))))))))) : g_Call (d + 1) 29 [.ref a0, g_n v1, g_n v2, g_n v3] M (g_qI Q) := by
  refine g_Call.ok fun hok0 => ?_
  replace h := h hok0
  refine r_body rfl (lv := [(0, .ref a0), (1, g_n v1), (2, g_n v2), (3, g_n v3)]) rfl ?_
  refine g_Run.ok fun hok => ?_
  refine r_aload_n x_29_0 rfl ?_
  obtain ⟨hO1, h⟩ := h
  obtain ⟨b2, hb3, h⟩ := h
  refine r_getR x_29_1 rfl (ci := 1) (k := 0) (ns := 0) (by decide +kernel) (by decide) rfl (kz := 0) rfl hO1 hb3 ?_
  refine r_iload_n x_29_4 rfl ?_
  refine r_invS x_29_5 (z := 108) (ns := 1) (by decide +kernel) (as := [.ref b2, g_n v2]) (r := []) rfl rfl rfl ?_
  refine r_callI h fun r7 M4 hx5 hok6 hr8 h => ?_
  replace h := h hx5 hok6 hr8
  replace hO1 := hO1.up hx5
  refine r_istore x_29_8 (by decide +kernel) rfl (lv1 := [(0, .ref a0), (1, g_n v1), (2, g_n v2), (3, g_n v3), (4, g_n r7)]) rfl ?_
  refine r_aload_n x_29_10 rfl ?_
  obtain ⟨b9, hb10, h⟩ := h
  refine r_getR x_29_11 rfl (ci := 1) (k := 1) (ns := 0) (by decide +kernel) (by decide) rfl (kz := 1) rfl hO1 hb10 ?_
  obtain ⟨hO11, h⟩ := h
  obtain ⟨b12, hb13, h⟩ := h
  refine r_getR x_29_14 rfl (ci := 5) (k := 2) (ns := 1) (by decide +kernel) (by decide) rfl (kz := 2) rfl hO11 hb13 ?_
  refine r_iload_n x_29_17 rfl ?_
  obtain ⟨n14, hA15, h⟩ := h
  obtain ⟨h16, h⟩ := h
  refine r_iald x_29_18 hA15 hv3 h16.1 h16.2 ?_
  refine r_aload_n x_29_19 rfl ?_
  obtain ⟨b17, hb18, h⟩ := h
  refine r_getR x_29_20 rfl (ci := 1) (k := 1) (ns := 0) (by decide +kernel) (by decide) rfl (kz := 1) rfl hO1 hb18 ?_
  obtain ⟨hO19, h⟩ := h
  obtain ⟨b20, hb21, h⟩ := h
  refine r_getR x_29_23 rfl (ci := 5) (k := 1) (ns := 1) (by decide +kernel) (by decide) rfl (kz := 1) rfl hO19 hb21 ?_
  refine r_iload_n x_29_26 rfl ?_
  obtain ⟨n22, hA23, h⟩ := h
  obtain ⟨h24, h⟩ := h
  refine r_iald x_29_27 hA23 hv3 h24.1 h24.2 ?_
  refine r_isub x_29_28 ?_
  obtain ⟨h25, h⟩ := h
  refine r_istore x_29_29 (by decide +kernel) rfl (lv1 := [(0, .ref a0), (1, g_n v1), (2, g_n v2), (3, g_n v3), (4, g_n r7), (5, g_n ((g_i M4 b12 v3) - (g_i M4 b20 v3)))]) rfl ?_
  refine r_aload_n x_29_31 rfl ?_
  obtain ⟨b26, hb27, h⟩ := h
  refine r_getR x_29_32 rfl (ci := 1) (k := 0) (ns := 0) (by decide +kernel) (by decide) rfl (kz := 0) rfl hO1 hb27 ?_
  refine r_iload_n x_29_35 rfl ?_
  refine r_invS x_29_36 (z := 111) (ns := 1) (by decide +kernel) (as := [.ref b26, g_n v2]) (r := []) rfl rfl rfl ?_
  refine r_callI h fun r31 M28 hx29 hok30 hr32 h => ?_
  replace h := h hx29 hok30 hr32
  replace hO1 := hO1.up hx29
  replace hO11 := hO11.up hx29
  replace hO19 := hO19.up hx29
  replace hA15 := hA15.up hx29
  replace hA23 := hA23.up hx29
  refine r_aload_n x_29_39 rfl ?_
  obtain ⟨b33, hb34, h⟩ := h
  refine r_getR x_29_40 rfl (ci := 1) (k := 0) (ns := 0) (by decide +kernel) (by decide) rfl (kz := 0) rfl hO1 hb34 ?_
  refine r_iload_n x_29_43 rfl ?_
  refine r_invS x_29_44 (z := 110) (ns := 1) (by decide +kernel) (as := [.ref b33, g_n v2]) (r := [g_n r31]) rfl rfl rfl ?_
  refine r_callI h fun r38 M35 hx36 hok37 hr39 h => ?_
  replace h := h hx36 hok37 hr39
  replace hO1 := hO1.up hx36
  replace hO11 := hO11.up hx36
  replace hO19 := hO19.up hx36
  replace hA15 := hA15.up hx36
  replace hA23 := hA23.up hx36
  refine r_isub x_29_47 ?_
  obtain ⟨h40, h⟩ := h
  refine r_istore x_29_48 (by decide +kernel) rfl (lv1 := [(0, .ref a0), (1, g_n v1), (2, g_n v2), (3, g_n v3), (4, g_n r7), (5, g_n ((g_i M4 b12 v3) - (g_i M4 b20 v3))), (6, g_n (r31 - r38))]) rfl ?_
  refine r_iload_n x_29_50 rfl ?_
  refine r_iconst x_29_51 ?_
  refine r_ic_eq x_29_52 (t := 61) (by decide +kernel) hv1 (g_Rk rfl) (fun hc => ?_) (fun hc => ?_)
  · replace h := h.1 hc
    refine r_iconst x_29_61 ?_
    refine r_goto x_29_62 (t := 66) (by decide +kernel) ?_
    exact h
  · replace h := h.2 hc
    refine r_iload_n x_29_55 rfl ?_
    refine r_bipush x_29_56 (x := 6) rfl ?_
    refine r_ic_ne x_29_58 (t := 65) (by decide +kernel) hv1 (g_Rk rfl) (fun hc => ?_) (fun hc => ?_)
    · replace h := h.2 hc
      refine r_iconst x_29_65 ?_
      exact h
    · replace h := h.1 hc
      refine r_iconst x_29_61 ?_
      refine r_goto x_29_62 (t := 66) (by decide +kernel) ?_
      exact h
theorem s_X1_comesFree_66 {d : Nat} {M : g_M} {Q : Int → g_M → Prop} {a0 : Nat} {v1 : Int} (hv1 : g_InR v1) {v2 : Int} (hv2 : g_InR v2) {v3 : Int} (hv3 : g_InR v3) {v4 : Int} (hv4 : g_InR v4) {v5 : Int} (hv5 : g_InR v5) {v6 : Int} (hv6 : g_InR v6) {w0 : Int} (hw0 : g_InR w0) (h : g_ok M → g_O M a0 1 ∧ g_Call d 27 [.ref a0] M (g_qI fun r5 M2 => g_ext M M2 → g_ok M2 → g_InR r5 → g_InR (v5 + 2) ∧ g_InR ((v5 + 2) + v6) ∧ ((w0 = 0 → g_Run d 29 92 [(0, .ref a0), (1, g_n v1), (2, g_n v2), (3, g_n v3), (4, g_n v4), (5, g_n v5), (6, g_n v6), (7, g_n w0)] [g_n 0, g_n ((v5 + 2) + v6), g_n 0, g_n r5, .ref a0] M2 (g_qI Q)) ∧ (¬ w0 = 0 → g_Run d 29 92 [(0, .ref a0), (1, g_n v1), (2, g_n v2), (3, g_n v3), (4, g_n v4), (5, g_n v5), (6, g_n v6), (7, g_n w0)] [g_n 8, g_n ((v5 + 2) + v6), g_n 0, g_n r5, .ref a0] M2 (g_qI Q))))) : g_Run d 29 66 [(0, .ref a0), (1, g_n v1), (2, g_n v2), (3, g_n v3), (4, g_n v4), (5, g_n v5), (6, g_n v6)] [g_n w0] M (g_qI Q) := by
  refine g_Run.ok fun hok => ?_
  replace h := h hok
  refine r_istore x_29_66 (by decide +kernel) rfl (lv1 := [(0, .ref a0), (1, g_n v1), (2, g_n v2), (3, g_n v3), (4, g_n v4), (5, g_n v5), (6, g_n v6), (7, g_n w0)]) rfl ?_
  refine r_aload_n x_29_68 rfl ?_
  refine r_aload_n x_29_69 rfl ?_
  obtain ⟨hO1, h⟩ := h
  refine r_invV x_29_70 (z := 27) (ns := 0) (by decide +kernel) (as := []) (r := [.ref a0]) rfl rfl rfl hO1 rfl rfl ?_
  refine r_callI h fun r5 M2 hx3 hok4 hr6 h => ?_
  replace h := h hx3 hok4 hr6
  replace hO1 := hO1.up hx3
  refine r_iconst x_29_73 ?_
  refine r_iload x_29_74 rfl ?_
  refine r_iconst x_29_76 ?_
  refine r_iadd x_29_77 ?_
  obtain ⟨h7, h⟩ := h
  refine r_iload x_29_78 rfl ?_
  refine r_iadd x_29_80 ?_
  obtain ⟨h8, h⟩ := h
  refine r_iload x_29_81 rfl ?_
  refine r_if_eq x_29_83 (t := 91) (by decide +kernel) hw0 (fun hc => ?_) (fun hc => ?_)
  · replace h := h.1 hc
    refine r_iconst x_29_91 ?_
    exact h
  · replace h := h.2 hc
    refine r_bipush x_29_86 (x := 8) rfl ?_
    refine r_goto x_29_88 (t := 92) (by decide +kernel) ?_
    exact h
theorem s_X1_comesFree_92 {d : Nat} {M : g_M} {Q : Int → g_M → Prop} {a0 : Nat} {v1 : Int} (hv1 : g_InR v1) {v2 : Int} (hv2 : g_InR v2) {v3 : Int} (hv3 : g_InR v3) {v4 : Int} (hv4 : g_InR v4) {v5 : Int} (hv5 : g_InR v5) {v6 : Int} (hv6 : g_InR v6) {v7 : Int} (hv7 : g_InR v7) {w0 : Int} (hw0 : g_InR w0) {w1 : Int} (hw1 : g_InR w1) {w2 : Int} (hw2 : g_InR w2) {w3 : Int} (hw3 : g_InR w3) {c4 : Nat} (h : g_ok M → g_InR (w1 + w0) ∧ g_O M c4 1 ∧ g_Call d 24 [.ref c4, g_n w3, g_n w2, g_n (w1 + w0)] M (g_qI fun r6 M3 => g_ext M M3 → g_ok M3 → g_InR r6 → ((r6 = 0 → Q 9 M3) ∧ (¬ r6 = 0 → g_O M3 a0 1 ∧ ∃ b9, g_r M3 a0 3 = some b9 ∧ ((v7 = 0 → g_Run d 29 117 [(0, .ref a0), (1, g_n v1), (2, g_n v2), (3, g_n v3), (4, g_n v4), (5, g_n v5), (6, g_n v6), (7, g_n v7)] [g_n v4, .ref b9] M3 (g_qI Q)) ∧ (¬ v7 = 0 → g_Run d 29 117 [(0, .ref a0), (1, g_n v1), (2, g_n v2), (3, g_n v3), (4, g_n v4), (5, g_n v5), (6, g_n v6), (7, g_n v7)] [g_n 4, .ref b9] M3 (g_qI Q))))))) : g_Run d 29 92 [(0, .ref a0), (1, g_n v1), (2, g_n v2), (3, g_n v3), (4, g_n v4), (5, g_n v5), (6, g_n v6), (7, g_n v7)] [g_n w0, g_n w1, g_n w2, g_n w3, .ref c4] M (g_qI Q) := by
  refine g_Run.ok fun hok => ?_
  replace h := h hok
  refine r_iadd x_29_92 ?_
  obtain ⟨h1, h⟩ := h
  obtain ⟨hO2, h⟩ := h
  refine r_invV x_29_93 (z := 24) (ns := 0) (by decide +kernel) (as := [g_n w3, g_n w2, g_n (w1 + w0)]) (r := []) rfl rfl rfl hO2 rfl rfl ?_
  refine r_callI h fun r6 M3 hx4 hok5 hr7 h => ?_
  replace h := h hx4 hok5 hr7
  replace hO2 := hO2.up hx4
  refine r_if_ne x_29_96 (t := 102) (by decide +kernel) hr7 (fun hc => ?_) (fun hc => ?_)
  · replace h := h.2 hc
    refine r_aload_n x_29_102 rfl ?_
    obtain ⟨hO8, h⟩ := h
    obtain ⟨b9, hb10, h⟩ := h
    refine r_getR x_29_103 rfl (ci := 1) (k := 3) (ns := 0) (by decide +kernel) (by decide) rfl (kz := 3) rfl hO8 hb10 ?_
    refine r_iload x_29_106 rfl ?_
    refine r_if_eq x_29_108 (t := 115) (by decide +kernel) hv7 (fun hc => ?_) (fun hc => ?_)
    · replace h := h.1 hc
      refine r_iload x_29_115 rfl ?_
      exact h
    · replace h := h.2 hc
      refine r_iconst x_29_111 ?_
      refine r_goto x_29_112 (t := 117) (by decide +kernel) ?_
      exact h
  · replace h := h.1 hc
    refine r_bipush x_29_99 (x := 9) rfl ?_
    exact r_retI x_29_101 rfl (g_Rk rfl) h
theorem s_X1_comesFree_117 {d : Nat} {M : g_M} {Q : Int → g_M → Prop} {a0 : Nat} {v1 : Int} (hv1 : g_InR v1) {v2 : Int} (hv2 : g_InR v2) {v3 : Int} (hv3 : g_InR v3) {v4 : Int} (hv4 : g_InR v4) {v5 : Int} (hv5 : g_InR v5) {v6 : Int} (hv6 : g_InR v6) {v7 : Int} (hv7 : g_InR v7) {w0 : Int} (hw0 : g_InR w0) {c1 : Nat} (h : g_ok M → g_O M a0 1 ∧ ∃ b2, g_r M a0 1 = some b2 ∧ g_O M b2 5 ∧ ∃ b5, g_r M b2 0 = some b5 ∧ ∃ b7, g_r M a0 1 = some b7 ∧ g_O M b7 5 ∧ ∃ b10, g_r M b7 1 = some b10 ∧ ∃ n12, g_A M b10 1 n12 ∧ ((0 : Int) ≤ v3 ∧ (v3 : Int) < n12) ∧ ∃ b15, g_r M a0 1 = some b15 ∧ g_O M b15 5 ∧ ∃ b18, g_r M b15 2 = some b18 ∧ ∃ n20, g_A M b18 1 n20 ∧ ((0 : Int) ≤ v3 ∧ (v3 : Int) < n20) ∧ g_O M c1 4 ∧ g_Call d 82 [.ref c1, g_n w0, .ref b5, g_n (g_i M b10 v3), g_n (g_i M b18 v3)] M (g_qV fun M24 => g_ext M M24 → g_ok M24 → ((v7 = 0 → ∃ b27, g_r M24 a0 3 = some b27 ∧ ∃ b29, g_r M24 a0 0 = some b29 ∧ g_O M24 b27 4 ∧ g_Call d 84 [.ref b27, .ref b29, g_n v2] M24 (g_qV fun M32 => g_ext M24 M32 → g_ok M32 → Q 0 M32)) ∧ (¬ v7 = 0 → ∃ b35, g_r M24 a0 3 = some b35 ∧ g_O M24 b35 4 ∧ g_Call d 85 [.ref b35] M24 (g_qI fun r41 M38 => g_ext M24 M38 → g_ok M38 → g_InR r41 → ∃ b43, g_r M38 a0 3 = some b43 ∧ g_O M38 b43 4 ∧ g_Call d 83 [.ref b43, g_n v4, g_n 0] M38 (g_qV fun M46 => g_ext M38 M46 → g_ok M46 → ∃ b49, g_r M46 a0 3 = some b49 ∧ ∃ b51, g_r M46 a0 0 = some b51 ∧ g_O M46 b49 4 ∧ g_Call d 84 [.ref b49, .ref b51, g_n v2] M46 (g_qV fun M54 => g_ext M46 M54 → g_ok M54 → ∃ b57, g_r M54 a0 3 = some b57 ∧ g_O M54 b57 4 ∧ g_Call d 86 [.ref b57, g_n r41] M54 (g_qV fun M60 => g_ext M54 M60 → g_ok M60 → Q 0 M60)))))))) : g_Run d 29 117 [(0, .ref a0), (1, g_n v1), (2, g_n v2), (3, g_n v3), (4, g_n v4), (5, g_n v5), (6, g_n v6), (7, g_n v7)] [g_n w0, .ref c1] M (g_qI Q) := by
  refine g_Run.ok fun hok => ?_
  replace h := h hok
  refine r_aload_n x_29_117 rfl ?_
  obtain ⟨hO1, h⟩ := h
  obtain ⟨b2, hb3, h⟩ := h
  refine r_getR x_29_118 rfl (ci := 1) (k := 1) (ns := 0) (by decide +kernel) (by decide) rfl (kz := 1) rfl hO1 hb3 ?_
  obtain ⟨hO4, h⟩ := h
  obtain ⟨b5, hb6, h⟩ := h
  refine r_getR x_29_121 rfl (ci := 5) (k := 0) (ns := 1) (by decide +kernel) (by decide) rfl (kz := 0) rfl hO4 hb6 ?_
  refine r_aload_n x_29_124 rfl ?_
  obtain ⟨b7, hb8, h⟩ := h
  refine r_getR x_29_125 rfl (ci := 1) (k := 1) (ns := 0) (by decide +kernel) (by decide) rfl (kz := 1) rfl hO1 hb8 ?_
  obtain ⟨hO9, h⟩ := h
  obtain ⟨b10, hb11, h⟩ := h
  refine r_getR x_29_128 rfl (ci := 5) (k := 1) (ns := 1) (by decide +kernel) (by decide) rfl (kz := 1) rfl hO9 hb11 ?_
  refine r_iload_n x_29_131 rfl ?_
  obtain ⟨n12, hA13, h⟩ := h
  obtain ⟨h14, h⟩ := h
  refine r_iald x_29_132 hA13 hv3 h14.1 h14.2 ?_
  refine r_aload_n x_29_133 rfl ?_
  obtain ⟨b15, hb16, h⟩ := h
  refine r_getR x_29_134 rfl (ci := 1) (k := 1) (ns := 0) (by decide +kernel) (by decide) rfl (kz := 1) rfl hO1 hb16 ?_
  obtain ⟨hO17, h⟩ := h
  obtain ⟨b18, hb19, h⟩ := h
  refine r_getR x_29_137 rfl (ci := 5) (k := 2) (ns := 1) (by decide +kernel) (by decide) rfl (kz := 2) rfl hO17 hb19 ?_
  refine r_iload_n x_29_140 rfl ?_
  obtain ⟨n20, hA21, h⟩ := h
  obtain ⟨h22, h⟩ := h
  refine r_iald x_29_141 hA21 hv3 h22.1 h22.2 ?_
  obtain ⟨hO23, h⟩ := h
  refine r_invV x_29_142 (z := 82) (ns := 1) (by decide +kernel) (as := [g_n w0, .ref b5, g_n (g_i M b10 v3), g_n (g_i M b18 v3)]) (r := []) rfl rfl rfl hO23 rfl rfl ?_
  refine r_callV h fun M24 hx25 hok26 h => ?_
  replace h := h hx25 hok26
  replace hO1 := hO1.up hx25
  replace hO4 := hO4.up hx25
  replace hO9 := hO9.up hx25
  replace hO17 := hO17.up hx25
  replace hO23 := hO23.up hx25
  replace hA13 := hA13.up hx25
  replace hA21 := hA21.up hx25
  refine r_iload x_29_145 rfl ?_
  refine r_if_eq x_29_147 (t := 193) (by decide +kernel) hv7 (fun hc => ?_) (fun hc => ?_)
  · replace h := h.1 hc
    refine r_aload_n x_29_193 rfl ?_
    obtain ⟨b27, hb28, h⟩ := h
    refine r_getR x_29_194 rfl (ci := 1) (k := 3) (ns := 0) (by decide +kernel) (by decide) rfl (kz := 3) rfl hO1 hb28 ?_
    refine r_aload_n x_29_197 rfl ?_
    obtain ⟨b29, hb30, h⟩ := h
    refine r_getR x_29_198 rfl (ci := 1) (k := 0) (ns := 0) (by decide +kernel) (by decide) rfl (kz := 0) rfl hO1 hb30 ?_
    refine r_iload_n x_29_201 rfl ?_
    obtain ⟨hO31, h⟩ := h
    refine r_invV x_29_202 (z := 84) (ns := 1) (by decide +kernel) (as := [.ref b29, g_n v2]) (r := []) rfl rfl rfl hO31 rfl rfl ?_
    refine r_callV h fun M32 hx33 hok34 h => ?_
    replace h := h hx33 hok34
    replace hO1 := hO1.up hx33
    replace hO4 := hO4.up hx33
    replace hO9 := hO9.up hx33
    replace hO17 := hO17.up hx33
    replace hO23 := hO23.up hx33
    replace hO31 := hO31.up hx33
    replace hA13 := hA13.up hx33
    replace hA21 := hA21.up hx33
    refine r_iconst x_29_205 ?_
    exact r_retI x_29_206 rfl (g_Rk rfl) h
  · replace h := h.2 hc
    refine r_aload_n x_29_150 rfl ?_
    obtain ⟨b35, hb36, h⟩ := h
    refine r_getR x_29_151 rfl (ci := 1) (k := 3) (ns := 0) (by decide +kernel) (by decide) rfl (kz := 3) rfl hO1 hb36 ?_
    obtain ⟨hO37, h⟩ := h
    refine r_invV x_29_154 (z := 85) (ns := 1) (by decide +kernel) (as := []) (r := []) rfl rfl rfl hO37 rfl rfl ?_
    refine r_callI h fun r41 M38 hx39 hok40 hr42 h => ?_
    replace h := h hx39 hok40 hr42
    replace hO1 := hO1.up hx39
    replace hO4 := hO4.up hx39
    replace hO9 := hO9.up hx39
    replace hO17 := hO17.up hx39
    replace hO23 := hO23.up hx39
    replace hO37 := hO37.up hx39
    replace hA13 := hA13.up hx39
    replace hA21 := hA21.up hx39
    refine r_istore x_29_157 (by decide +kernel) rfl (lv1 := [(0, .ref a0), (1, g_n v1), (2, g_n v2), (3, g_n v3), (4, g_n v4), (5, g_n v5), (6, g_n v6), (7, g_n v7), (8, g_n r41)]) rfl ?_
    refine r_aload_n x_29_159 rfl ?_
    obtain ⟨b43, hb44, h⟩ := h
    refine r_getR x_29_160 rfl (ci := 1) (k := 3) (ns := 0) (by decide +kernel) (by decide) rfl (kz := 3) rfl hO1 hb44 ?_
    refine r_iload x_29_163 rfl ?_
    refine r_iconst x_29_165 ?_
    obtain ⟨hO45, h⟩ := h
    refine r_invV x_29_166 (z := 83) (ns := 1) (by decide +kernel) (as := [g_n v4, g_n 0]) (r := []) rfl rfl rfl hO45 rfl rfl ?_
    refine r_callV h fun M46 hx47 hok48 h => ?_
    replace h := h hx47 hok48
    replace hO1 := hO1.up hx47
    replace hO4 := hO4.up hx47
    replace hO9 := hO9.up hx47
    replace hO17 := hO17.up hx47
    replace hO23 := hO23.up hx47
    replace hO37 := hO37.up hx47
    replace hO45 := hO45.up hx47
    replace hA13 := hA13.up hx47
    replace hA21 := hA21.up hx47
    refine r_aload_n x_29_169 rfl ?_
    obtain ⟨b49, hb50, h⟩ := h
    refine r_getR x_29_170 rfl (ci := 1) (k := 3) (ns := 0) (by decide +kernel) (by decide) rfl (kz := 3) rfl hO1 hb50 ?_
    refine r_aload_n x_29_173 rfl ?_
    obtain ⟨b51, hb52, h⟩ := h
    refine r_getR x_29_174 rfl (ci := 1) (k := 0) (ns := 0) (by decide +kernel) (by decide) rfl (kz := 0) rfl hO1 hb52 ?_
    refine r_iload_n x_29_177 rfl ?_
    obtain ⟨hO53, h⟩ := h
    refine r_invV x_29_178 (z := 84) (ns := 1) (by decide +kernel) (as := [.ref b51, g_n v2]) (r := []) rfl rfl rfl hO53 rfl rfl ?_
    refine r_callV h fun M54 hx55 hok56 h => ?_
    replace h := h hx55 hok56
    replace hO1 := hO1.up hx55
    replace hO4 := hO4.up hx55
    replace hO9 := hO9.up hx55
    replace hO17 := hO17.up hx55
    replace hO23 := hO23.up hx55
    replace hO37 := hO37.up hx55
    replace hO45 := hO45.up hx55
    replace hO53 := hO53.up hx55
    replace hA13 := hA13.up hx55
    replace hA21 := hA21.up hx55
    refine r_aload_n x_29_181 rfl ?_
    obtain ⟨b57, hb58, h⟩ := h
    refine r_getR x_29_182 rfl (ci := 1) (k := 3) (ns := 0) (by decide +kernel) (by decide) rfl (kz := 3) rfl hO1 hb58 ?_
    refine r_iload x_29_185 rfl ?_
    obtain ⟨hO59, h⟩ := h
    refine r_invV x_29_187 (z := 86) (ns := 1) (by decide +kernel) (as := [g_n r41]) (r := []) rfl rfl rfl hO59 rfl rfl ?_
    refine r_callV h fun M60 hx61 hok62 h => ?_
    replace h := h hx61 hok62
    replace hO1 := hO1.up hx61
    replace hO4 := hO4.up hx61
    replace hO9 := hO9.up hx61
    replace hO17 := hO17.up hx61
    replace hO23 := hO23.up hx61
    replace hO37 := hO37.up hx61
    replace hO45 := hO45.up hx61
    replace hO53 := hO53.up hx61
    replace hO59 := hO59.up hx61
    replace hA13 := hA13.up hx61
    replace hA21 := hA21.up hx61
    refine r_goto x_29_190 (t := 205) (by decide +kernel) ?_
    refine r_iconst x_29_205 ?_
    exact r_retI x_29_206 rfl (g_Rk rfl) h
theorem m_X1_comesTo {d : Nat} {M : g_M} {Q : Int → g_M → Prop} {a0 : Nat} {v1 : Int} (hv1 : g_InR v1) {v2 : Int} (hv2 : g_InR v2) {v3 : Int} (hv3 : g_InR v3) (h : g_ok M → ((v1 = 1 → g_O M a0 1 ∧ g_Call d 32 [.ref a0, g_n v2, g_n v3] M (g_qI fun r33 M30 => g_ext M M30 → g_ok M30 → g_InR r33 → Q r33 M30)) ∧ (¬ v1 = 1 → ((v1 = 3 → g_O M a0 1 ∧ ∃ b17, g_r M a0 0 = some b17 ∧ g_Call d 117 [.ref b17, g_n v3] M (g_qI fun r22 M19 => g_ext M M19 → g_ok M19 → g_InR r22 → ((r22 = 0 → Q 7 M19) ∧ (¬ r22 = 0 → g_Call d 33 [.ref a0, g_n v2, g_n v3] M19 (g_qI fun r27 M24 => g_ext M19 M24 → g_ok M24 → g_InR r27 → Q r27 M24))))) ∧ (¬ v1 = 3 → g_O M a0 1 ∧ ∃ b2, g_r M a0 0 = some b2 ∧ g_Call d 108 [.ref b2, g_n v3] M (g_qI fun r7 M4 => g_ext M M4 → g_ok M4 → g_InR r7 → ((r7 = 4 → ∃ b9, g_r M4 a0 0 = some b9 ∧ g_Call d 112 [.ref b9, g_n v3] M4 (g_qI fun r14 M11 => g_ext M4 M11 → g_ok M11 → g_InR r14 → g_Run d 30 71 [(0, .ref a0), (1, g_n v1), (2, g_n v2), (3, g_n v3), (4, g_n 0), (5, g_n r14), (6, g_n 0)] [] M11 (g_qI Q))) ∧ (¬ r7 = 4 → Q 7 M4)))))))) : g_Call (d + 1) 30 [.ref a0, g_n v1, g_n v2, g_n v3] M (g_qI Q) := by
  refine g_Call.ok fun hok0 => ?_
  replace h := h hok0
  refine r_body rfl (lv := [(0, .ref a0), (1, g_n v1), (2, g_n v2), (3, g_n v3)]) rfl ?_
  refine g_Run.ok fun hok => ?_
  refine r_iload_n x_30_0 rfl ?_
  refine r_iconst x_30_1 ?_
  refine r_ic_ne x_30_2 (t := 12) (by decide +kernel) hv1 (g_Rk rfl) (fun hc => ?_) (fun hc => ?_)
  · replace h := h.2 hc
    refine r_iload_n x_30_12 rfl ?_
    refine r_iconst x_30_13 ?_
    refine r_ic_ne x_30_14 (t := 40) (by decide +kernel) hv1 (g_Rk rfl) (fun hc => ?_) (fun hc => ?_)
    · replace h := h.2 hc
      refine r_aload_n x_30_40 rfl ?_
      obtain ⟨hO1, h⟩ := h
      obtain ⟨b2, hb3, h⟩ := h
      refine r_getR x_30_41 rfl (ci := 1) (k := 0) (ns := 0) (by decide +kernel) (by decide) rfl (kz := 0) rfl hO1 hb3 ?_
      refine r_iload_n x_30_44 rfl ?_
      refine r_invS x_30_45 (z := 108) (ns := 1) (by decide +kernel) (as := [.ref b2, g_n v3]) (r := []) rfl rfl rfl ?_
      refine r_callI h fun r7 M4 hx5 hok6 hr8 h => ?_
      replace h := h hx5 hok6 hr8
      replace hO1 := hO1.up hx5
      refine r_iconst x_30_48 ?_
      refine r_ic_eq x_30_49 (t := 55) (by decide +kernel) hr8 (g_Rk rfl) (fun hc => ?_) (fun hc => ?_)
      · replace h := h.1 hc
        refine r_iconst x_30_55 ?_
        refine r_istore x_30_56 (by decide +kernel) rfl (lv1 := [(0, .ref a0), (1, g_n v1), (2, g_n v2), (3, g_n v3), (4, g_n 0)]) rfl ?_
        refine r_aload_n x_30_58 rfl ?_
        obtain ⟨b9, hb10, h⟩ := h
        refine r_getR x_30_59 rfl (ci := 1) (k := 0) (ns := 0) (by decide +kernel) (by decide) rfl (kz := 0) rfl hO1 hb10 ?_
        refine r_iload_n x_30_62 rfl ?_
        refine r_invS x_30_63 (z := 112) (ns := 1) (by decide +kernel) (as := [.ref b9, g_n v3]) (r := []) rfl rfl rfl ?_
        refine r_callI h fun r14 M11 hx12 hok13 hr15 h => ?_
        replace h := h hx12 hok13 hr15
        replace hO1 := hO1.up hx12
        refine r_istore x_30_66 (by decide +kernel) rfl (lv1 := [(0, .ref a0), (1, g_n v1), (2, g_n v2), (3, g_n v3), (4, g_n 0), (5, g_n r14)]) rfl ?_
        refine r_iconst x_30_68 ?_
        refine r_istore x_30_69 (by decide +kernel) rfl (lv1 := [(0, .ref a0), (1, g_n v1), (2, g_n v2), (3, g_n v3), (4, g_n 0), (5, g_n r14), (6, g_n 0)]) rfl ?_
        exact h
      · replace h := h.2 hc
        refine r_bipush x_30_52 (x := 7) rfl ?_
        exact r_retI x_30_54 rfl (g_Rk rfl) h
    · replace h := h.1 hc
      refine r_aload_n x_30_17 rfl ?_
      obtain ⟨hO16, h⟩ := h
      obtain ⟨b17, hb18, h⟩ := h
      refine r_getR x_30_18 rfl (ci := 1) (k := 0) (ns := 0) (by decide +kernel) (by decide) rfl (kz := 0) rfl hO16 hb18 ?_
      refine r_iload_n x_30_21 rfl ?_
      refine r_invS x_30_22 (z := 117) (ns := 1) (by decide +kernel) (as := [.ref b17, g_n v3]) (r := []) rfl rfl rfl ?_
      refine r_callI h fun r22 M19 hx20 hok21 hr23 h => ?_
      replace h := h hx20 hok21 hr23
      replace hO16 := hO16.up hx20
      refine r_if_eq x_30_25 (t := 37) (by decide +kernel) hr23 (fun hc => ?_) (fun hc => ?_)
      · replace h := h.1 hc
        refine r_bipush x_30_37 (x := 7) rfl ?_
        exact r_retI x_30_39 rfl (g_Rk rfl) h
      · replace h := h.2 hc
        refine r_aload_n x_30_28 rfl ?_
        refine r_iload_n x_30_29 rfl ?_
        refine r_iload_n x_30_30 rfl ?_
        refine r_invV x_30_31 (z := 33) (ns := 0) (by decide +kernel) (as := [g_n v2, g_n v3]) (r := []) rfl rfl rfl hO16 rfl rfl ?_
        refine r_callI h fun r27 M24 hx25 hok26 hr28 h => ?_
        replace h := h hx25 hok26 hr28
        replace hO16 := hO16.up hx25
        refine r_goto x_30_34 (t := 39) (by decide +kernel) ?_
        exact r_retI x_30_39 rfl hr28 h
  · replace h := h.1 hc
    refine r_aload_n x_30_5 rfl ?_
    refine r_iload_n x_30_6 rfl ?_
    refine r_iload_n x_30_7 rfl ?_
    obtain ⟨hO29, h⟩ := h
    refine r_invV x_30_8 (z := 32) (ns := 0) (by decide +kernel) (as := [g_n v2, g_n v3]) (r := []) rfl rfl rfl hO29 rfl rfl ?_
    refine r_callI h fun r33 M30 hx31 hok32 hr34 h => ?_
    replace h := h hx31 hok32 hr34
    replace hO29 := hO29.up hx31
    exact r_retI x_30_11 rfl hr34 h
theorem s_X1_comesTo_71 {d : Nat} {M : g_M} {Q : Int → g_M → Prop} {a0 : Nat} {v1 : Int} (hv1 : g_InR v1) {v2 : Int} (hv2 : g_InR v2) {v3 : Int} (hv3 : g_InR v3) {v4 : Int} (hv4 : g_InR v4) {v5 : Int} (hv5 : g_InR v5) {v6 : Int} (hv6 : g_InR v6) (h : g_ok M → ((v6 < 100000 → g_O M a0 1 ∧ ∃ b2, g_r M a0 0 = some b2 ∧ g_Call d 108 [.ref b2, g_n v5] M (g_qI fun r7 M4 => g_ext M M4 → g_ok M4 → g_InR r7 → ((r7 = 0 → g_Run d 30 136 [(0, .ref a0), (1, g_n v1), (2, g_n v2), (3, g_n v3), (4, g_n v4), (5, g_n v5), (6, g_n v6)] [] M4 (g_qI Q)) ∧ (¬ r7 = 0 → ((v1 = 6 → ∃ b18, g_r M4 a0 0 = some b18 ∧ ∃ b20, g_r M4 a0 0 = some b20 ∧ g_Call d 121 [.ref b18, g_n v5, .ref b20, g_n v2, g_n 0] M4 (g_qI fun r25 M22 => g_ext M4 M22 → g_ok M22 → g_InR r25 → ((r25 = 0 → Q 0 M22) ∧ (¬ r25 = 0 → g_InR (v4 + 1) ∧ ∃ b28, g_r M22 a0 0 = some b28 ∧ g_Call d 111 [.ref b28, g_n v5] M22 (g_qI fun r33 M30 => g_ext M22 M30 → g_ok M30 → g_InR r33 → g_InR (v6 + 1) ∧ g_Run d 30 71 [(0, .ref a0), (1, g_n v1), (2, g_n v2), (3, g_n v3), (4, g_n (v4 + 1)), (5, g_n r33), (6, g_n (v6 + 1))] [] M30 (g_qI Q)))))) ∧ (¬ v1 = 6 → g_InR (v4 + 1) ∧ ∃ b10, g_r M4 a0 0 = some b10 ∧ g_Call d 111 [.ref b10, g_n v5] M4 (g_qI fun r15 M12 => g_ext M4 M12 → g_ok M12 → g_InR r15 → g_InR (v6 + 1) ∧ g_Run d 30 71 [(0, .ref a0), (1, g_n v1), (2, g_n v2), (3, g_n v3), (4, g_n (v4 + 1)), (5, g_n r15), (6, g_n (v6 + 1))] [] M12 (g_qI Q)))))))) ∧ (¬ v6 < 100000 → g_Run d 30 136 [(0, .ref a0), (1, g_n v1), (2, g_n v2), (3, g_n v3), (4, g_n v4), (5, g_n v5), (6, g_n v6)] [] M (g_qI Q)))) : g_Run d 30 71 [(0, .ref a0), (1, g_n v1), (2, g_n v2), (3, g_n v3), (4, g_n v4), (5, g_n v5), (6, g_n v6)] [] M (g_qI Q) := by
  refine g_Run.ok fun hok => ?_
  replace h := h hok
  refine r_iload x_30_71 rfl ?_
  refine r_ldc x_30_73 (v := g_n 100000) rfl ?_
  refine r_ic_ge x_30_75 (t := 136) (by decide +kernel) hv6 (g_Rk rfl) (fun hc => ?_) (fun hc => ?_)
  · replace h := h.2 hc
    exact h
  · replace h := h.1 hc
    refine r_aload_n x_30_78 rfl ?_
    obtain ⟨hO1, h⟩ := h
    obtain ⟨b2, hb3, h⟩ := h
    refine r_getR x_30_79 rfl (ci := 1) (k := 0) (ns := 0) (by decide +kernel) (by decide) rfl (kz := 0) rfl hO1 hb3 ?_
    refine r_iload x_30_82 rfl ?_
    refine r_invS x_30_84 (z := 108) (ns := 1) (by decide +kernel) (as := [.ref b2, g_n v5]) (r := []) rfl rfl rfl ?_
    refine r_callI h fun r7 M4 hx5 hok6 hr8 h => ?_
    replace h := h hx5 hok6 hr8
    replace hO1 := hO1.up hx5
    refine r_if_eq x_30_87 (t := 136) (by decide +kernel) hr8 (fun hc => ?_) (fun hc => ?_)
    · replace h := h.1 hc
      exact h
    · replace h := h.2 hc
      refine r_iload_n x_30_90 rfl ?_
      refine r_bipush x_30_91 (x := 6) rfl ?_
      refine r_ic_ne x_30_93 (t := 116) (by decide +kernel) hv1 (g_Rk rfl) (fun hc => ?_) (fun hc => ?_)
      · replace h := h.2 hc
        obtain ⟨h9, h⟩ := h
        refine r_iinc x_30_116 (by decide +kernel) rfl rfl (lv1 := [(0, .ref a0), (1, g_n v1), (2, g_n v2), (3, g_n v3), (4, g_n (v4 + 1)), (5, g_n v5), (6, g_n v6)]) rfl ?_
        refine r_aload_n x_30_119 rfl ?_
        obtain ⟨b10, hb11, h⟩ := h
        refine r_getR x_30_120 rfl (ci := 1) (k := 0) (ns := 0) (by decide +kernel) (by decide) rfl (kz := 0) rfl hO1 hb11 ?_
        refine r_iload x_30_123 rfl ?_
        refine r_invS x_30_125 (z := 111) (ns := 1) (by decide +kernel) (as := [.ref b10, g_n v5]) (r := []) rfl rfl rfl ?_
        refine r_callI h fun r15 M12 hx13 hok14 hr16 h => ?_
        replace h := h hx13 hok14 hr16
        replace hO1 := hO1.up hx13
        refine r_istore x_30_128 (by decide +kernel) rfl (lv1 := [(0, .ref a0), (1, g_n v1), (2, g_n v2), (3, g_n v3), (4, g_n (v4 + 1)), (5, g_n r15), (6, g_n v6)]) rfl ?_
        obtain ⟨h17, h⟩ := h
        refine r_iinc x_30_130 (by decide +kernel) rfl rfl (lv1 := [(0, .ref a0), (1, g_n v1), (2, g_n v2), (3, g_n v3), (4, g_n (v4 + 1)), (5, g_n r15), (6, g_n (v6 + 1))]) rfl ?_
        refine r_goto x_30_133 (t := 71) (by decide +kernel) ?_
        exact h
      · replace h := h.1 hc
        refine r_aload_n x_30_96 rfl ?_
        obtain ⟨b18, hb19, h⟩ := h
        refine r_getR x_30_97 rfl (ci := 1) (k := 0) (ns := 0) (by decide +kernel) (by decide) rfl (kz := 0) rfl hO1 hb19 ?_
        refine r_iload x_30_100 rfl ?_
        refine r_aload_n x_30_102 rfl ?_
        obtain ⟨b20, hb21, h⟩ := h
        refine r_getR x_30_103 rfl (ci := 1) (k := 0) (ns := 0) (by decide +kernel) (by decide) rfl (kz := 0) rfl hO1 hb21 ?_
        refine r_iload_n x_30_106 rfl ?_
        refine r_iconst x_30_107 ?_
        refine r_invS x_30_108 (z := 121) (ns := 1) (by decide +kernel) (as := [.ref b18, g_n v5, .ref b20, g_n v2, g_n 0]) (r := []) rfl rfl rfl ?_
        refine r_callI h fun r25 M22 hx23 hok24 hr26 h => ?_
        replace h := h hx23 hok24 hr26
        replace hO1 := hO1.up hx23
        refine r_if_ne x_30_111 (t := 116) (by decide +kernel) hr26 (fun hc => ?_) (fun hc => ?_)
        · replace h := h.2 hc
          obtain ⟨h27, h⟩ := h
          refine r_iinc x_30_116 (by decide +kernel) rfl rfl (lv1 := [(0, .ref a0), (1, g_n v1), (2, g_n v2), (3, g_n v3), (4, g_n (v4 + 1)), (5, g_n v5), (6, g_n v6)]) rfl ?_
          refine r_aload_n x_30_119 rfl ?_
          obtain ⟨b28, hb29, h⟩ := h
          refine r_getR x_30_120 rfl (ci := 1) (k := 0) (ns := 0) (by decide +kernel) (by decide) rfl (kz := 0) rfl hO1 hb29 ?_
          refine r_iload x_30_123 rfl ?_
          refine r_invS x_30_125 (z := 111) (ns := 1) (by decide +kernel) (as := [.ref b28, g_n v5]) (r := []) rfl rfl rfl ?_
          refine r_callI h fun r33 M30 hx31 hok32 hr34 h => ?_
          replace h := h hx31 hok32 hr34
          replace hO1 := hO1.up hx31
          refine r_istore x_30_128 (by decide +kernel) rfl (lv1 := [(0, .ref a0), (1, g_n v1), (2, g_n v2), (3, g_n v3), (4, g_n (v4 + 1)), (5, g_n r33), (6, g_n v6)]) rfl ?_
          obtain ⟨h35, h⟩ := h
          refine r_iinc x_30_130 (by decide +kernel) rfl rfl (lv1 := [(0, .ref a0), (1, g_n v1), (2, g_n v2), (3, g_n v3), (4, g_n (v4 + 1)), (5, g_n r33), (6, g_n (v6 + 1))]) rfl ?_
          refine r_goto x_30_133 (t := 71) (by decide +kernel) ?_
          exact h
        · replace h := h.1 hc
          refine r_iconst x_30_114 ?_
          exact r_retI x_30_115 rfl (g_Rk rfl) h
theorem s_X1_comesTo_136 {d : Nat} {M : g_M} {Q : Int → g_M → Prop} {a0 : Nat} {v1 : Int} (hv1 : g_InR v1) {v2 : Int} (hv2 : g_InR v2) {v3 : Int} (hv3 : g_InR v3) {v4 : Int} (hv4 : g_InR v4) {v5 : Int} (hv5 : g_InR v5) {v6 : Int} (hv6 : g_InR v6) (h : g_ok M → g_O M a0 1 ∧ g_Call d 25 [.ref a0, g_n v3] M (g_qV fun M2 => g_ext M M2 → g_ok M2 → ∃ b5, g_r M2 a0 0 = some b5 ∧ g_Call d 111 [.ref b5, g_n v2] M2 (g_qI fun r10 M7 => g_ext M2 M7 → g_ok M7 → g_InR r10 → ∃ b12, g_r M7 a0 0 = some b12 ∧ g_Call d 110 [.ref b12, g_n v2] M7 (g_qI fun r17 M14 => g_ext M7 M14 → g_ok M14 → g_InR r17 → g_InR (r10 - r17) ∧ g_Call d 31 [g_n v4] M14 (g_qI fun r23 M20 => g_ext M14 M20 → g_ok M20 → g_InR r23 → g_InR (r23 + 2) ∧ g_InR ((r23 + 2) + (r10 - r17)) ∧ g_Call d 24 [.ref a0, g_n v5, g_n 0, g_n ((r23 + 2) + (r10 - r17))] M20 (g_qI fun r30 M27 => g_ext M20 M27 → g_ok M27 → g_InR r30 → ((r30 = 0 → Q 9 M27) ∧ (¬ r30 = 0 → ∃ b32, g_r M27 a0 3 = some b32 ∧ ∃ b34, g_r M27 a0 0 = some b34 ∧ g_Call d 108 [.ref b34, g_n v2] M27 (g_qI fun r39 M36 => g_ext M27 M36 → g_ok M36 → g_InR r39 → g_O M36 b32 4 ∧ g_Call d 83 [.ref b32, g_n r39, g_n v4] M36 (g_qV fun M42 => g_ext M36 M42 → g_ok M42 → ∃ b45, g_r M42 a0 3 = some b45 ∧ ∃ b47, g_r M42 a0 0 = some b47 ∧ g_O M42 b45 4 ∧ g_Call d 84 [.ref b45, .ref b47, g_n v2] M42 (g_qV fun M50 => g_ext M42 M50 → g_ok M50 → Q 0 M50))))))))))) : g_Run d 30 136 [(0, .ref a0), (1, g_n v1), (2, g_n v2), (3, g_n v3), (4, g_n v4), (5, g_n v5), (6, g_n v6)] [] M (g_qI Q) := by
  refine g_Run.ok fun hok => ?_
  replace h := h hok
  refine r_aload_n x_30_136 rfl ?_
  refine r_iload_n x_30_137 rfl ?_
  obtain ⟨hO1, h⟩ := h
  refine r_invV x_30_138 (z := 25) (ns := 0) (by decide +kernel) (as := [g_n v3]) (r := []) rfl rfl rfl hO1 rfl rfl ?_
  refine r_callV h fun M2 hx3 hok4 h => ?_
  replace h := h hx3 hok4
  replace hO1 := hO1.up hx3
  refine r_aload_n x_30_141 rfl ?_
  obtain ⟨b5, hb6, h⟩ := h
  refine r_getR x_30_142 rfl (ci := 1) (k := 0) (ns := 0) (by decide +kernel) (by decide) rfl (kz := 0) rfl hO1 hb6 ?_
  refine r_iload_n x_30_145 rfl ?_
  refine r_invS x_30_146 (z := 111) (ns := 1) (by decide +kernel) (as := [.ref b5, g_n v2]) (r := []) rfl rfl rfl ?_
  refine r_callI h fun r10 M7 hx8 hok9 hr11 h => ?_
  replace h := h hx8 hok9 hr11
  replace hO1 := hO1.up hx8
  refine r_aload_n x_30_149 rfl ?_
  obtain ⟨b12, hb13, h⟩ := h
  refine r_getR x_30_150 rfl (ci := 1) (k := 0) (ns := 0) (by decide +kernel) (by decide) rfl (kz := 0) rfl hO1 hb13 ?_
  refine r_iload_n x_30_153 rfl ?_
  refine r_invS x_30_154 (z := 110) (ns := 1) (by decide +kernel) (as := [.ref b12, g_n v2]) (r := [g_n r10]) rfl rfl rfl ?_
  refine r_callI h fun r17 M14 hx15 hok16 hr18 h => ?_
  replace h := h hx15 hok16 hr18
  replace hO1 := hO1.up hx15
  refine r_isub x_30_157 ?_
  obtain ⟨h19, h⟩ := h
  refine r_istore x_30_158 (by decide +kernel) rfl (lv1 := [(0, .ref a0), (1, g_n v1), (2, g_n v2), (3, g_n v3), (4, g_n v4), (5, g_n v5), (6, g_n (r10 - r17))]) rfl ?_
  refine r_aload_n x_30_160 rfl ?_
  refine r_iload x_30_161 rfl ?_
  refine r_iconst x_30_163 ?_
  refine r_iload x_30_164 rfl ?_
  refine r_invS x_30_166 (z := 31) (ns := 0) (by decide +kernel) (as := [g_n v4]) (r := [g_n 0, g_n v5, .ref a0]) rfl rfl rfl ?_
  refine r_callI h fun r23 M20 hx21 hok22 hr24 h => ?_
  replace h := h hx21 hok22 hr24
  replace hO1 := hO1.up hx21
  refine r_iconst x_30_169 ?_
  refine r_iadd x_30_170 ?_
  obtain ⟨h25, h⟩ := h
  refine r_iload x_30_171 rfl ?_
  refine r_iadd x_30_173 ?_
  obtain ⟨h26, h⟩ := h
  refine r_invV x_30_174 (z := 24) (ns := 0) (by decide +kernel) (as := [g_n v5, g_n 0, g_n ((r23 + 2) + (r10 - r17))]) (r := []) rfl rfl rfl hO1 rfl rfl ?_
  refine r_callI h fun r30 M27 hx28 hok29 hr31 h => ?_
  replace h := h hx28 hok29 hr31
  replace hO1 := hO1.up hx28
  refine r_if_ne x_30_177 (t := 183) (by decide +kernel) hr31 (fun hc => ?_) (fun hc => ?_)
  · replace h := h.2 hc
    refine r_aload_n x_30_183 rfl ?_
    obtain ⟨b32, hb33, h⟩ := h
    refine r_getR x_30_184 rfl (ci := 1) (k := 3) (ns := 0) (by decide +kernel) (by decide) rfl (kz := 3) rfl hO1 hb33 ?_
    refine r_aload_n x_30_187 rfl ?_
    obtain ⟨b34, hb35, h⟩ := h
    refine r_getR x_30_188 rfl (ci := 1) (k := 0) (ns := 0) (by decide +kernel) (by decide) rfl (kz := 0) rfl hO1 hb35 ?_
    refine r_iload_n x_30_191 rfl ?_
    refine r_invS x_30_192 (z := 108) (ns := 1) (by decide +kernel) (as := [.ref b34, g_n v2]) (r := [.ref b32]) rfl rfl rfl ?_
    refine r_callI h fun r39 M36 hx37 hok38 hr40 h => ?_
    replace h := h hx37 hok38 hr40
    replace hO1 := hO1.up hx37
    refine r_iload x_30_195 rfl ?_
    obtain ⟨hO41, h⟩ := h
    refine r_invV x_30_197 (z := 83) (ns := 1) (by decide +kernel) (as := [g_n r39, g_n v4]) (r := []) rfl rfl rfl hO41 rfl rfl ?_
    refine r_callV h fun M42 hx43 hok44 h => ?_
    replace h := h hx43 hok44
    replace hO1 := hO1.up hx43
    replace hO41 := hO41.up hx43
    refine r_aload_n x_30_200 rfl ?_
    obtain ⟨b45, hb46, h⟩ := h
    refine r_getR x_30_201 rfl (ci := 1) (k := 3) (ns := 0) (by decide +kernel) (by decide) rfl (kz := 3) rfl hO1 hb46 ?_
    refine r_aload_n x_30_204 rfl ?_
    obtain ⟨b47, hb48, h⟩ := h
    refine r_getR x_30_205 rfl (ci := 1) (k := 0) (ns := 0) (by decide +kernel) (by decide) rfl (kz := 0) rfl hO1 hb48 ?_
    refine r_iload_n x_30_208 rfl ?_
    obtain ⟨hO49, h⟩ := h
    refine r_invV x_30_209 (z := 84) (ns := 1) (by decide +kernel) (as := [.ref b47, g_n v2]) (r := []) rfl rfl rfl hO49 rfl rfl ?_
    refine r_callV h fun M50 hx51 hok52 h => ?_
    replace h := h hx51 hok52
    replace hO1 := hO1.up hx51
    replace hO41 := hO41.up hx51
    replace hO49 := hO49.up hx51
    refine r_iconst x_30_212 ?_
    exact r_retI x_30_213 rfl (g_Rk rfl) h
  · replace h := h.1 hc
    refine r_bipush x_30_180 (x := 9) rfl ?_
    exact r_retI x_30_182 rfl (g_Rk rfl) h
theorem m_X1_digits {d : Nat} {M : g_M} {Q : Int → g_M → Prop} {v0 : Int} (hv0 : g_InR v0) (h : g_ok M → ((v0 < 10 → Q 1 M) ∧ (¬ v0 < 10 → ((v0 < 100 → Q 2 M) ∧ (¬ v0 < 100 → ((v0 < 1000 → Q 3 M) ∧ (¬ v0 < 1000 → ((v0 < 10000 → Q 4 M) ∧ (¬ v0 < 10000 → Q 5 M))))))))) : g_Call (d + 1) 31 [g_n v0] M (g_qI Q) := by
  refine g_Call.ok fun hok0 => ?_
  replace h := h hok0
  refine r_body rfl (lv := [(0, g_n v0)]) rfl ?_
  refine g_Run.ok fun hok => ?_
  refine r_iload_n x_31_0 rfl ?_
  refine r_bipush x_31_1 (x := 10) rfl ?_
  refine r_ic_ge x_31_3 (t := 10) (by decide +kernel) hv0 (g_Rk rfl) (fun hc => ?_) (fun hc => ?_)
  · replace h := h.2 hc
    refine r_iload_n x_31_10 rfl ?_
    refine r_bipush x_31_11 (x := 100) rfl ?_
    refine r_ic_ge x_31_13 (t := 20) (by decide +kernel) hv0 (g_Rk rfl) (fun hc => ?_) (fun hc => ?_)
    · replace h := h.2 hc
      refine r_iload_n x_31_20 rfl ?_
      refine r_sipush x_31_21 (x := 1000) rfl ?_
      refine r_ic_ge x_31_24 (t := 31) (by decide +kernel) hv0 (g_Rk rfl) (fun hc => ?_) (fun hc => ?_)
      · replace h := h.2 hc
        refine r_iload_n x_31_31 rfl ?_
        refine r_sipush x_31_32 (x := 10000) rfl ?_
        refine r_ic_ge x_31_35 (t := 42) (by decide +kernel) hv0 (g_Rk rfl) (fun hc => ?_) (fun hc => ?_)
        · replace h := h.2 hc
          refine r_iconst x_31_42 ?_
          exact r_retI x_31_43 rfl (g_Rk rfl) h
        · replace h := h.1 hc
          refine r_iconst x_31_38 ?_
          refine r_goto x_31_39 (t := 43) (by decide +kernel) ?_
          exact r_retI x_31_43 rfl (g_Rk rfl) h
      · replace h := h.1 hc
        refine r_iconst x_31_27 ?_
        refine r_goto x_31_28 (t := 43) (by decide +kernel) ?_
        exact r_retI x_31_43 rfl (g_Rk rfl) h
    · replace h := h.1 hc
      refine r_iconst x_31_16 ?_
      refine r_goto x_31_17 (t := 43) (by decide +kernel) ?_
      exact r_retI x_31_43 rfl (g_Rk rfl) h
  · replace h := h.1 hc
    refine r_iconst x_31_6 ?_
    refine r_goto x_31_7 (t := 43) (by decide +kernel) ?_
    exact r_retI x_31_43 rfl (g_Rk rfl) h
theorem m_X1_replace {d : Nat} {M : g_M} {Q : Int → g_M → Prop} {a0 : Nat} {v1 : Int} (hv1 : g_InR v1) {v2 : Int} (hv2 : g_InR v2) (h : g_ok M → g_O M a0 1 ∧ ∃ b2, g_r M a0 0 = some b2 ∧ g_Call d 110 [.ref b2, g_n v1] M (g_qI fun r7 M4 => g_ext M M4 → g_ok M4 → g_InR r7 → ∃ b9, g_r M4 a0 0 = some b9 ∧ g_Call d 111 [.ref b9, g_n v1] M4 (g_qI fun r14 M11 => g_ext M4 M11 → g_ok M11 → g_InR r14 → ∃ b16, g_r M11 a0 0 = some b16 ∧ g_Call d 110 [.ref b16, g_n v2] M11 (g_qI fun r21 M18 => g_ext M11 M18 → g_ok M18 → g_InR r21 → ∃ b23, g_r M18 a0 0 = some b23 ∧ g_Call d 111 [.ref b23, g_n v2] M18 (g_qI fun r28 M25 => g_ext M18 M25 → g_ok M25 → g_InR r28 → ∃ b30, g_r M25 a0 0 = some b30 ∧ ∃ n32, g_A M25 b30 0 n32 ∧ ((0 : Int) ≤ v1 ∧ (v1 : Int) < n32) ∧ ∃ b35, g_r M25 a0 0 = some b35 ∧ ∃ n37, g_A M25 b35 0 n37 ∧ ((0 : Int) ≤ v2 ∧ (v2 : Int) < n37) ∧ ((g_i M25 b30 v1 = g_i M25 b35 v2 → ∃ b40, g_r M25 a0 0 = some b40 ∧ ∃ b42, g_r M25 a0 0 = some b42 ∧ g_Call d 123 [.ref b40, g_n r7, g_n r14, .ref b42, g_n r21, g_n r28] M25 (g_qI fun r47 M44 => g_ext M25 M44 → g_ok M44 → g_InR r47 → ((r47 = 0 → Q 0 M44) ∧ (¬ r47 = 0 → g_Run d 32 77 [(0, .ref a0), (1, g_n v1), (2, g_n v2), (3, g_n r7), (4, g_n r14), (5, g_n r21), (6, g_n r28)] [] M44 (g_qI Q))))) ∧ (¬ g_i M25 b30 v1 = g_i M25 b35 v2 → g_Run d 32 77 [(0, .ref a0), (1, g_n v1), (2, g_n v2), (3, g_n r7), (4, g_n r14), (5, g_n r21), (6, g_n r28)] [] M25 (g_qI Q)))))))) : g_Call (d + 1) 32 [.ref a0, g_n v1, g_n v2] M (g_qI Q) := by
  refine g_Call.ok fun hok0 => ?_
  replace h := h hok0
  refine r_body rfl (lv := [(0, .ref a0), (1, g_n v1), (2, g_n v2)]) rfl ?_
  refine g_Run.ok fun hok => ?_
  refine r_aload_n x_32_0 rfl ?_
  obtain ⟨hO1, h⟩ := h
  obtain ⟨b2, hb3, h⟩ := h
  refine r_getR x_32_1 rfl (ci := 1) (k := 0) (ns := 0) (by decide +kernel) (by decide) rfl (kz := 0) rfl hO1 hb3 ?_
  refine r_iload_n x_32_4 rfl ?_
  refine r_invS x_32_5 (z := 110) (ns := 1) (by decide +kernel) (as := [.ref b2, g_n v1]) (r := []) rfl rfl rfl ?_
  refine r_callI h fun r7 M4 hx5 hok6 hr8 h => ?_
  replace h := h hx5 hok6 hr8
  replace hO1 := hO1.up hx5
  refine r_istore_n x_32_8 (by decide +kernel) rfl (lv1 := [(0, .ref a0), (1, g_n v1), (2, g_n v2), (3, g_n r7)]) rfl ?_
  refine r_aload_n x_32_9 rfl ?_
  obtain ⟨b9, hb10, h⟩ := h
  refine r_getR x_32_10 rfl (ci := 1) (k := 0) (ns := 0) (by decide +kernel) (by decide) rfl (kz := 0) rfl hO1 hb10 ?_
  refine r_iload_n x_32_13 rfl ?_
  refine r_invS x_32_14 (z := 111) (ns := 1) (by decide +kernel) (as := [.ref b9, g_n v1]) (r := []) rfl rfl rfl ?_
  refine r_callI h fun r14 M11 hx12 hok13 hr15 h => ?_
  replace h := h hx12 hok13 hr15
  replace hO1 := hO1.up hx12
  refine r_istore x_32_17 (by decide +kernel) rfl (lv1 := [(0, .ref a0), (1, g_n v1), (2, g_n v2), (3, g_n r7), (4, g_n r14)]) rfl ?_
  refine r_aload_n x_32_19 rfl ?_
  obtain ⟨b16, hb17, h⟩ := h
  refine r_getR x_32_20 rfl (ci := 1) (k := 0) (ns := 0) (by decide +kernel) (by decide) rfl (kz := 0) rfl hO1 hb17 ?_
  refine r_iload_n x_32_23 rfl ?_
  refine r_invS x_32_24 (z := 110) (ns := 1) (by decide +kernel) (as := [.ref b16, g_n v2]) (r := []) rfl rfl rfl ?_
  refine r_callI h fun r21 M18 hx19 hok20 hr22 h => ?_
  replace h := h hx19 hok20 hr22
  replace hO1 := hO1.up hx19
  refine r_istore x_32_27 (by decide +kernel) rfl (lv1 := [(0, .ref a0), (1, g_n v1), (2, g_n v2), (3, g_n r7), (4, g_n r14), (5, g_n r21)]) rfl ?_
  refine r_aload_n x_32_29 rfl ?_
  obtain ⟨b23, hb24, h⟩ := h
  refine r_getR x_32_30 rfl (ci := 1) (k := 0) (ns := 0) (by decide +kernel) (by decide) rfl (kz := 0) rfl hO1 hb24 ?_
  refine r_iload_n x_32_33 rfl ?_
  refine r_invS x_32_34 (z := 111) (ns := 1) (by decide +kernel) (as := [.ref b23, g_n v2]) (r := []) rfl rfl rfl ?_
  refine r_callI h fun r28 M25 hx26 hok27 hr29 h => ?_
  replace h := h hx26 hok27 hr29
  replace hO1 := hO1.up hx26
  refine r_istore x_32_37 (by decide +kernel) rfl (lv1 := [(0, .ref a0), (1, g_n v1), (2, g_n v2), (3, g_n r7), (4, g_n r14), (5, g_n r21), (6, g_n r28)]) rfl ?_
  refine r_aload_n x_32_39 rfl ?_
  obtain ⟨b30, hb31, h⟩ := h
  refine r_getR x_32_40 rfl (ci := 1) (k := 0) (ns := 0) (by decide +kernel) (by decide) rfl (kz := 0) rfl hO1 hb31 ?_
  refine r_iload_n x_32_43 rfl ?_
  obtain ⟨n32, hA33, h⟩ := h
  obtain ⟨h34, h⟩ := h
  refine r_bald x_32_44 (Or.inl rfl) hA33 hv1 h34.1 h34.2 ?_
  refine r_aload_n x_32_45 rfl ?_
  obtain ⟨b35, hb36, h⟩ := h
  refine r_getR x_32_46 rfl (ci := 1) (k := 0) (ns := 0) (by decide +kernel) (by decide) rfl (kz := 0) rfl hO1 hb36 ?_
  refine r_iload_n x_32_49 rfl ?_
  obtain ⟨n37, hA38, h⟩ := h
  obtain ⟨h39, h⟩ := h
  refine r_bald x_32_50 (Or.inl rfl) hA38 hv2 h39.1 h39.2 ?_
  refine r_ic_ne x_32_51 (t := 77) (by decide +kernel) (hok27.1 _ _) (hok27.1 _ _) (fun hc => ?_) (fun hc => ?_)
  · replace h := h.2 hc
    exact h
  · replace h := h.1 hc
    refine r_aload_n x_32_54 rfl ?_
    obtain ⟨b40, hb41, h⟩ := h
    refine r_getR x_32_55 rfl (ci := 1) (k := 0) (ns := 0) (by decide +kernel) (by decide) rfl (kz := 0) rfl hO1 hb41 ?_
    refine r_iload_n x_32_58 rfl ?_
    refine r_iload x_32_59 rfl ?_
    refine r_aload_n x_32_61 rfl ?_
    obtain ⟨b42, hb43, h⟩ := h
    refine r_getR x_32_62 rfl (ci := 1) (k := 0) (ns := 0) (by decide +kernel) (by decide) rfl (kz := 0) rfl hO1 hb43 ?_
    refine r_iload x_32_65 rfl ?_
    refine r_iload x_32_67 rfl ?_
    refine r_invS x_32_69 (z := 123) (ns := 1) (by decide +kernel) (as := [.ref b40, g_n r7, g_n r14, .ref b42, g_n r21, g_n r28]) (r := []) rfl rfl rfl ?_
    refine r_callI h fun r47 M44 hx45 hok46 hr48 h => ?_
    replace h := h hx45 hok46 hr48
    replace hO1 := hO1.up hx45
    replace hA33 := hA33.up hx45
    replace hA38 := hA38.up hx45
    refine r_if_ne x_32_72 (t := 77) (by decide +kernel) hr48 (fun hc => ?_) (fun hc => ?_)
    · replace h := h.2 hc
      exact h
    · replace h := h.1 hc
      refine r_iconst x_32_75 ?_
      exact r_retI x_32_76 rfl (g_Rk rfl) h
theorem s_X1_replace_77 {d : Nat} {M : g_M} {Q : Int → g_M → Prop} {a0 : Nat} {v1 : Int} (hv1 : g_InR v1) {v2 : Int} (hv2 : g_InR v2) {v3 : Int} (hv3 : g_InR v3) {v4 : Int} (hv4 : g_InR v4) {v5 : Int} (hv5 : g_InR v5) {v6 : Int} (hv6 : g_InR v6) (h : g_ok M → g_InR (v6 - v5) ∧ g_InR (v4 - v3) ∧ g_O M a0 1 ∧ g_Call d 24 [.ref a0, g_n v5, g_n (v6 - v5), g_n (v4 - v3)] M (g_qI fun r7 M4 => g_ext M M4 → g_ok M4 → g_InR r7 → ((r7 = 0 → Q 9 M4) ∧ (¬ r7 = 0 → ∃ b9, g_r M4 a0 3 = some b9 ∧ ∃ b11, g_r M4 a0 0 = some b11 ∧ g_O M4 b9 4 ∧ g_Call d 84 [.ref b9, .ref b11, g_n v1] M4 (g_qV fun M14 => g_ext M4 M14 → g_ok M14 → ∃ b17, g_r M14 a0 0 = some b17 ∧ ∃ b19, g_r M14 a0 0 = some b19 ∧ ∃ n21, g_A M14 b19 0 n21 ∧ ((0 : Int) ≤ v1 ∧ (v1 : Int) < n21) ∧ ∃ n24, g_A M14 b17 0 n24 ∧ ((0 : Int) ≤ v2 ∧ (v2 : Int) < n24) ∧ (∀ M27, M27 = g_wi M14 b17 v2 (g_w8 (g_i M14 b19 v1)) → g_ok M27 → Q 0 M27)))))) : g_Run d 32 77 [(0, .ref a0), (1, g_n v1), (2, g_n v2), (3, g_n v3), (4, g_n v4), (5, g_n v5), (6, g_n v6)] [] M (g_qI Q) := by
  refine g_Run.ok fun hok => ?_
  replace h := h hok
  refine r_aload_n x_32_77 rfl ?_
  refine r_iload x_32_78 rfl ?_
  refine r_iload x_32_80 rfl ?_
  refine r_iload x_32_82 rfl ?_
  refine r_isub x_32_84 ?_
  obtain ⟨h1, h⟩ := h
  refine r_iload x_32_85 rfl ?_
  refine r_iload_n x_32_87 rfl ?_
  refine r_isub x_32_88 ?_
  obtain ⟨h2, h⟩ := h
  obtain ⟨hO3, h⟩ := h
  refine r_invV x_32_89 (z := 24) (ns := 0) (by decide +kernel) (as := [g_n v5, g_n (v6 - v5), g_n (v4 - v3)]) (r := []) rfl rfl rfl hO3 rfl rfl ?_
  refine r_callI h fun r7 M4 hx5 hok6 hr8 h => ?_
  replace h := h hx5 hok6 hr8
  replace hO3 := hO3.up hx5
  refine r_if_ne x_32_92 (t := 98) (by decide +kernel) hr8 (fun hc => ?_) (fun hc => ?_)
  · replace h := h.2 hc
    refine r_aload_n x_32_98 rfl ?_
    obtain ⟨b9, hb10, h⟩ := h
    refine r_getR x_32_99 rfl (ci := 1) (k := 3) (ns := 0) (by decide +kernel) (by decide) rfl (kz := 3) rfl hO3 hb10 ?_
    refine r_aload_n x_32_102 rfl ?_
    obtain ⟨b11, hb12, h⟩ := h
    refine r_getR x_32_103 rfl (ci := 1) (k := 0) (ns := 0) (by decide +kernel) (by decide) rfl (kz := 0) rfl hO3 hb12 ?_
    refine r_iload_n x_32_106 rfl ?_
    obtain ⟨hO13, h⟩ := h
    refine r_invV x_32_107 (z := 84) (ns := 1) (by decide +kernel) (as := [.ref b11, g_n v1]) (r := []) rfl rfl rfl hO13 rfl rfl ?_
    refine r_callV h fun M14 hx15 hok16 h => ?_
    replace h := h hx15 hok16
    replace hO3 := hO3.up hx15
    replace hO13 := hO13.up hx15
    refine r_aload_n x_32_110 rfl ?_
    obtain ⟨b17, hb18, h⟩ := h
    refine r_getR x_32_111 rfl (ci := 1) (k := 0) (ns := 0) (by decide +kernel) (by decide) rfl (kz := 0) rfl hO3 hb18 ?_
    refine r_iload_n x_32_114 rfl ?_
    refine r_aload_n x_32_115 rfl ?_
    obtain ⟨b19, hb20, h⟩ := h
    refine r_getR x_32_116 rfl (ci := 1) (k := 0) (ns := 0) (by decide +kernel) (by decide) rfl (kz := 0) rfl hO3 hb20 ?_
    refine r_iload_n x_32_119 rfl ?_
    obtain ⟨n21, hA22, h⟩ := h
    obtain ⟨h23, h⟩ := h
    refine r_bald x_32_120 (Or.inl rfl) hA22 hv1 h23.1 h23.2 ?_
    obtain ⟨n24, hA25, h⟩ := h
    obtain ⟨h26, h⟩ := h
    refine r_bast0 x_32_121 hA25 hv2 h26.1 h26.2 ?_
    obtain ⟨M27, hM28⟩ : ∃ Mz, Mz = g_wi M14 b17 v2 (g_w8 (g_i M14 b19 v1)) := ⟨_, rfl⟩
    rw [← hM28]
    refine g_Run.ok fun hok29 => ?_
    replace h := h M27 hM28 hok29
    have hx30 := g_extW hM28
    replace hO3 := hO3.up hx30
    replace hO13 := hO13.up hx30
    replace hA22 := hA22.up hx30
    replace hA25 := hA25.up hx30
    refine r_iconst x_32_122 ?_
    exact r_retI x_32_123 rfl (g_Rk rfl) h
  · replace h := h.1 hc
    refine r_bipush x_32_95 (x := 9) rfl ?_
    exact r_retI x_32_97 rfl (g_Rk rfl) h
theorem m_X1_add {d : Nat} {M : g_M} {Q : Int → g_M → Prop} {a0 : Nat} {v1 : Int} (hv1 : g_InR v1) {v2 : Int} (hv2 : g_InR v2) (h : g_ok M → g_O M a0 1 ∧ ∃ b2, g_r M a0 0 = some b2 ∧ g_Call d 118 [.ref b2, g_n v2] M (g_qL fun R7 M4 => g_ext M M4 → g_ok M4 → ∃ b8, g_r M4 a0 0 = some b8 ∧ g_Call d 118 [.ref b8, g_n v1] M4 (g_qL fun R13 M10 => g_ext M4 M10 → g_ok M10 → ((g_lc ((R7 ^^^ (R7 + R13)) &&& (R13 ^^^ (R7 + R13))) 0 < 0 → Q 8 M10) ∧ (¬ g_lc ((R7 ^^^ (R7 + R13)) &&& (R13 ^^^ (R7 + R13))) 0 < 0 → ∃ b14, g_r M10 a0 0 = some b14 ∧ ∃ n16, g_A M10 b14 0 n16 ∧ ((0 : Int) ≤ v2 ∧ (v2 : Int) < n16) ∧ ((g_i M10 b14 v2 = 16 → ∃ b19, g_r M10 a0 0 = some b19 ∧ ∃ n21, g_A M10 b19 0 n21 ∧ ((0 : Int) ≤ v1 ∧ (v1 : Int) < n21) ∧ ((g_i M10 b19 v1 = 16 → ((g_lc (R7 + R13) (Int64.ofInt ((R7 + R13).toInt32.toInt)) = 0 → g_Run d 33 94 [(0, .ref a0), (1, g_n v1), (2, g_n v2), (3, .long R7), (5, .long R13), (7, .long (R7 + R13)), (9, g_n 1)] [g_n 16] M10 (g_qI Q)) ∧ (¬ g_lc (R7 + R13) (Int64.ofInt ((R7 + R13).toInt32.toInt)) = 0 → g_Run d 33 94 [(0, .ref a0), (1, g_n v1), (2, g_n v2), (3, .long R7), (5, .long R13), (7, .long (R7 + R13)), (9, g_n 0)] [g_n 18] M10 (g_qI Q)))) ∧ (¬ g_i M10 b19 v1 = 16 → g_Run d 33 94 [(0, .ref a0), (1, g_n v1), (2, g_n v2), (3, .long R7), (5, .long R13), (7, .long (R7 + R13)), (9, g_n 0)] [g_n 18] M10 (g_qI Q)))) ∧ (¬ g_i M10 b14 v2 = 16 → g_Run d 33 94 [(0, .ref a0), (1, g_n v1), (2, g_n v2), (3, .long R7), (5, .long R13), (7, .long (R7 + R13)), (9, g_n 0)] [g_n 18] M10 (g_qI Q)))))))) : g_Call (d + 1) 33 [.ref a0, g_n v1, g_n v2] M (g_qI Q) := by
  refine g_Call.ok fun hok0 => ?_
  replace h := h hok0
  refine r_body rfl (lv := [(0, .ref a0), (1, g_n v1), (2, g_n v2)]) rfl ?_
  refine g_Run.ok fun hok => ?_
  refine r_aload_n x_33_0 rfl ?_
  obtain ⟨hO1, h⟩ := h
  obtain ⟨b2, hb3, h⟩ := h
  refine r_getR x_33_1 rfl (ci := 1) (k := 0) (ns := 0) (by decide +kernel) (by decide) rfl (kz := 0) rfl hO1 hb3 ?_
  refine r_iload_n x_33_4 rfl ?_
  refine r_invS x_33_5 (z := 118) (ns := 1) (by decide +kernel) (as := [.ref b2, g_n v2]) (r := []) rfl rfl rfl ?_
  refine r_callL h fun R7 M4 hx5 hok6 h => ?_
  replace h := h hx5 hok6
  replace hO1 := hO1.up hx5
  refine r_lstore_n x_33_8 (by decide +kernel) rfl (lv1 := [(0, .ref a0), (1, g_n v1), (2, g_n v2), (3, .long R7)]) rfl ?_
  refine r_aload_n x_33_9 rfl ?_
  obtain ⟨b8, hb9, h⟩ := h
  refine r_getR x_33_10 rfl (ci := 1) (k := 0) (ns := 0) (by decide +kernel) (by decide) rfl (kz := 0) rfl hO1 hb9 ?_
  refine r_iload_n x_33_13 rfl ?_
  refine r_invS x_33_14 (z := 118) (ns := 1) (by decide +kernel) (as := [.ref b8, g_n v1]) (r := []) rfl rfl rfl ?_
  refine r_callL h fun R13 M10 hx11 hok12 h => ?_
  replace h := h hx11 hok12
  replace hO1 := hO1.up hx11
  refine r_lstore x_33_17 (by decide +kernel) rfl (lv1 := [(0, .ref a0), (1, g_n v1), (2, g_n v2), (3, .long R7), (5, .long R13)]) rfl ?_
  refine r_lload_n x_33_19 rfl ?_
  refine r_lload x_33_20 rfl ?_
  refine r_ladd x_33_22 ?_
  refine r_lstore x_33_23 (by decide +kernel) rfl (lv1 := [(0, .ref a0), (1, g_n v1), (2, g_n v2), (3, .long R7), (5, .long R13), (7, .long (R7 + R13))]) rfl ?_
  refine r_lload_n x_33_25 rfl ?_
  refine r_lload x_33_26 rfl ?_
  refine r_lxor x_33_28 ?_
  refine r_lload x_33_29 rfl ?_
  refine r_lload x_33_31 rfl ?_
  refine r_lxor x_33_33 ?_
  refine r_land x_33_34 ?_
  refine r_lconst x_33_35 ?_
  show g_Run d 33 36 [(0, .ref a0), (1, g_n v1), (2, g_n v2), (3, .long R7), (5, .long R13), (7, .long (R7 + R13))] [.long 0, .long ((R7 ^^^ (R7 + R13)) &&& (R13 ^^^ (R7 + R13)))] M10 _
  refine r_lcmp x_33_36 ?_
  refine r_if_ge x_33_37 (t := 43) (by decide +kernel) (g_InR_toInt _) (fun hc => ?_) (fun hc => ?_)
  · replace h := h.2 hc
    refine r_aload_n x_33_43 rfl ?_
    obtain ⟨b14, hb15, h⟩ := h
    refine r_getR x_33_44 rfl (ci := 1) (k := 0) (ns := 0) (by decide +kernel) (by decide) rfl (kz := 0) rfl hO1 hb15 ?_
    refine r_iload_n x_33_47 rfl ?_
    obtain ⟨n16, hA17, h⟩ := h
    obtain ⟨h18, h⟩ := h
    refine r_bald x_33_48 (Or.inl rfl) hA17 hv2 h18.1 h18.2 ?_
    refine r_bipush x_33_49 (x := 16) rfl ?_
    refine r_ic_ne x_33_51 (t := 79) (by decide +kernel) (hok12.1 _ _) (g_Rk rfl) (fun hc => ?_) (fun hc => ?_)
    · replace h := h.2 hc
      refine r_iconst x_33_79 ?_
      refine r_istore x_33_80 (by decide +kernel) rfl (lv1 := [(0, .ref a0), (1, g_n v1), (2, g_n v2), (3, .long R7), (5, .long R13), (7, .long (R7 + R13)), (9, g_n 0)]) rfl ?_
      refine r_iload x_33_82 rfl ?_
      refine r_if_eq x_33_84 (t := 92) (by decide +kernel) (g_Rk rfl) (fun hc => ?_) (fun hc => ?_)
      · skip
        refine r_bipush x_33_92 (x := 18) rfl ?_
        exact h
      · exfalso; omega
    · replace h := h.1 hc
      refine r_aload_n x_33_54 rfl ?_
      obtain ⟨b19, hb20, h⟩ := h
      refine r_getR x_33_55 rfl (ci := 1) (k := 0) (ns := 0) (by decide +kernel) (by decide) rfl (kz := 0) rfl hO1 hb20 ?_
      refine r_iload_n x_33_58 rfl ?_
      obtain ⟨n21, hA22, h⟩ := h
      obtain ⟨h23, h⟩ := h
      refine r_bald x_33_59 (Or.inl rfl) hA22 hv1 h23.1 h23.2 ?_
      refine r_bipush x_33_60 (x := 16) rfl ?_
      refine r_ic_ne x_33_62 (t := 79) (by decide +kernel) (hok12.1 _ _) (g_Rk rfl) (fun hc => ?_) (fun hc => ?_)
      · replace h := h.2 hc
        refine r_iconst x_33_79 ?_
        refine r_istore x_33_80 (by decide +kernel) rfl (lv1 := [(0, .ref a0), (1, g_n v1), (2, g_n v2), (3, .long R7), (5, .long R13), (7, .long (R7 + R13)), (9, g_n 0)]) rfl ?_
        refine r_iload x_33_82 rfl ?_
        refine r_if_eq x_33_84 (t := 92) (by decide +kernel) (g_Rk rfl) (fun hc => ?_) (fun hc => ?_)
        · skip
          refine r_bipush x_33_92 (x := 18) rfl ?_
          exact h
        · exfalso; omega
      · replace h := h.1 hc
        refine r_lload x_33_65 rfl ?_
        refine r_lload x_33_67 rfl ?_
        refine r_l2i x_33_69 ?_
        refine r_i2l x_33_70 (g_InR_toInt _) ?_
        refine r_lcmp x_33_71 ?_
        refine r_if_ne x_33_72 (t := 79) (by decide +kernel) (g_InR_toInt _) (fun hc => ?_) (fun hc => ?_)
        · replace h := h.2 hc
          refine r_iconst x_33_79 ?_
          refine r_istore x_33_80 (by decide +kernel) rfl (lv1 := [(0, .ref a0), (1, g_n v1), (2, g_n v2), (3, .long R7), (5, .long R13), (7, .long (R7 + R13)), (9, g_n 0)]) rfl ?_
          refine r_iload x_33_82 rfl ?_
          refine r_if_eq x_33_84 (t := 92) (by decide +kernel) (g_Rk rfl) (fun hc => ?_) (fun hc => ?_)
          · skip
            refine r_bipush x_33_92 (x := 18) rfl ?_
            exact h
          · exfalso; omega
        · replace h := h.1 hc
          refine r_iconst x_33_75 ?_
          refine r_goto x_33_76 (t := 80) (by decide +kernel) ?_
          refine r_istore x_33_80 (by decide +kernel) rfl (lv1 := [(0, .ref a0), (1, g_n v1), (2, g_n v2), (3, .long R7), (5, .long R13), (7, .long (R7 + R13)), (9, g_n 1)]) rfl ?_
          refine r_iload x_33_82 rfl ?_
          refine r_if_eq x_33_84 (t := 92) (by decide +kernel) (g_Rk rfl) (fun hc => ?_) (fun hc => ?_)
          · exfalso; omega
          · skip
            refine r_bipush x_33_87 (x := 16) rfl ?_
            refine r_goto x_33_89 (t := 94) (by decide +kernel) ?_
            exact h
  · replace h := h.1 hc
    refine r_bipush x_33_40 (x := 8) rfl ?_
    exact r_retI x_33_42 rfl (g_Rk rfl) h
theorem s_X1_add_94 {d : Nat} {M : g_M} {Q : Int → g_M → Prop} {a0 : Nat} {v1 : Int} (hv1 : g_InR v1) {v2 : Int} (hv2 : g_InR v2) {V3 : Int64} {V5 : Int64} {V7 : Int64} {v9 : Int} (hv9 : g_InR v9) {w0 : Int} (hw0 : g_InR w0) (h : g_ok M → g_O M a0 1 ∧ ∃ b2, g_r M a0 0 = some b2 ∧ ∃ n4, g_A M b2 0 n4 ∧ ((0 : Int) ≤ v2 ∧ (v2 : Int) < n4) ∧ ((w0 = g_i M b2 v2 → ((g_lc V5 0 = 0 → Q 0 M) ∧ (¬ g_lc V5 0 = 0 → g_Run d 33 116 [(0, .ref a0), (1, g_n v1), (2, g_n v2), (3, .long V3), (5, .long V5), (7, .long V7), (9, g_n v9), (10, g_n w0)] [] M (g_qI Q)))) ∧ (¬ w0 = g_i M b2 v2 → g_Run d 33 116 [(0, .ref a0), (1, g_n v1), (2, g_n v2), (3, .long V3), (5, .long V5), (7, .long V7), (9, g_n v9), (10, g_n w0)] [] M (g_qI Q)))) : g_Run d 33 94 [(0, .ref a0), (1, g_n v1), (2, g_n v2), (3, .long V3), (5, .long V5), (7, .long V7), (9, g_n v9)] [g_n w0] M (g_qI Q) := by
  refine g_Run.ok fun hok => ?_
  replace h := h hok
  refine r_istore x_33_94 (by decide +kernel) rfl (lv1 := [(0, .ref a0), (1, g_n v1), (2, g_n v2), (3, .long V3), (5, .long V5), (7, .long V7), (9, g_n v9), (10, g_n w0)]) rfl ?_
  refine r_iload x_33_96 rfl ?_
  refine r_aload_n x_33_98 rfl ?_
  obtain ⟨hO1, h⟩ := h
  obtain ⟨b2, hb3, h⟩ := h
  refine r_getR x_33_99 rfl (ci := 1) (k := 0) (ns := 0) (by decide +kernel) (by decide) rfl (kz := 0) rfl hO1 hb3 ?_
  refine r_iload_n x_33_102 rfl ?_
  obtain ⟨n4, hA5, h⟩ := h
  obtain ⟨h6, h⟩ := h
  refine r_bald x_33_103 (Or.inl rfl) hA5 hv2 h6.1 h6.2 ?_
  refine r_ic_ne x_33_104 (t := 116) (by decide +kernel) hw0 (hok.1 _ _) (fun hc => ?_) (fun hc => ?_)
  · replace h := h.2 hc
    exact h
  · replace h := h.1 hc
    refine r_lload x_33_107 rfl ?_
    refine r_lconst x_33_109 ?_
    show g_Run d 33 110 [(0, .ref a0), (1, g_n v1), (2, g_n v2), (3, .long V3), (5, .long V5), (7, .long V7), (9, g_n v9), (10, g_n w0)] [.long 0, .long V5] M _
    refine r_lcmp x_33_110 ?_
    refine r_if_ne x_33_111 (t := 116) (by decide +kernel) (g_InR_toInt _) (fun hc => ?_) (fun hc => ?_)
    · replace h := h.2 hc
      exact h
    · replace h := h.1 hc
      refine r_iconst x_33_114 ?_
      exact r_retI x_33_115 rfl (g_Rk rfl) h
theorem s_X1_add_116 {d : Nat} {M : g_M} {Q : Int → g_M → Prop} {a0 : Nat} {v1 : Int} (hv1 : g_InR v1) {v2 : Int} (hv2 : g_InR v2) {V3 : Int64} {V5 : Int64} {V7 : Int64} {v9 : Int} (hv9 : g_InR v9) {v10 : Int} (hv10 : g_InR v10) (h : g_ok M → g_O M a0 1 ∧ ∃ b2, g_r M a0 0 = some b2 ∧ g_Call d 110 [.ref b2, g_n v2] M (g_qI fun r7 M4 => g_ext M M4 → g_ok M4 → g_InR r7 → ∃ b9, g_r M4 a0 0 = some b9 ∧ ∃ n11, g_A M4 b9 0 n11 ∧ ((0 : Int) ≤ v2 ∧ (v2 : Int) < n11) ∧ ((g_i M4 b9 v2 = 16 → ((v9 = 0 → g_Run d 33 153 [(0, .ref a0), (1, g_n v1), (2, g_n v2), (3, .long V3), (5, .long V5), (7, .long V7), (9, g_n v9), (10, g_n v10)] [g_n 8, g_n 4, g_n r7, .ref a0] M4 (g_qI Q)) ∧ (¬ v9 = 0 → g_Run d 33 153 [(0, .ref a0), (1, g_n v1), (2, g_n v2), (3, .long V3), (5, .long V5), (7, .long V7), (9, g_n v9), (10, g_n v10)] [g_n 4, g_n 4, g_n r7, .ref a0] M4 (g_qI Q)))) ∧ (¬ g_i M4 b9 v2 = 16 → ((v9 = 0 → g_Run d 33 153 [(0, .ref a0), (1, g_n v1), (2, g_n v2), (3, .long V3), (5, .long V5), (7, .long V7), (9, g_n v9), (10, g_n v10)] [g_n 8, g_n 8, g_n r7, .ref a0] M4 (g_qI Q)) ∧ (¬ v9 = 0 → g_Run d 33 153 [(0, .ref a0), (1, g_n v1), (2, g_n v2), (3, .long V3), (5, .long V5), (7, .long V7), (9, g_n v9), (10, g_n v10)] [g_n 4, g_n 8, g_n r7, .ref a0] M4 (g_qI Q))))))) : g_Run d 33 116 [(0, .ref a0), (1, g_n v1), (2, g_n v2), (3, .long V3), (5, .long V5), (7, .long V7), (9, g_n v9), (10, g_n v10)] [] M (g_qI Q) := by
  refine g_Run.ok fun hok => ?_
  replace h := h hok
  refine r_aload_n x_33_116 rfl ?_
  refine r_aload_n x_33_117 rfl ?_
  obtain ⟨hO1, h⟩ := h
  obtain ⟨b2, hb3, h⟩ := h
  refine r_getR x_33_118 rfl (ci := 1) (k := 0) (ns := 0) (by decide +kernel) (by decide) rfl (kz := 0) rfl hO1 hb3 ?_
  refine r_iload_n x_33_121 rfl ?_
  refine r_invS x_33_122 (z := 110) (ns := 1) (by decide +kernel) (as := [.ref b2, g_n v2]) (r := [.ref a0]) rfl rfl rfl ?_
  refine r_callI h fun r7 M4 hx5 hok6 hr8 h => ?_
  replace h := h hx5 hok6 hr8
  replace hO1 := hO1.up hx5
  refine r_aload_n x_33_125 rfl ?_
  obtain ⟨b9, hb10, h⟩ := h
  refine r_getR x_33_126 rfl (ci := 1) (k := 0) (ns := 0) (by decide +kernel) (by decide) rfl (kz := 0) rfl hO1 hb10 ?_
  refine r_iload_n x_33_129 rfl ?_
  obtain ⟨n11, hA12, h⟩ := h
  obtain ⟨h13, h⟩ := h
  refine r_bald x_33_130 (Or.inl rfl) hA12 hv2 h13.1 h13.2 ?_
  refine r_bipush x_33_131 (x := 16) rfl ?_
  refine r_ic_ne x_33_133 (t := 140) (by decide +kernel) (hok6.1 _ _) (g_Rk rfl) (fun hc => ?_) (fun hc => ?_)
  · replace h := h.2 hc
    refine r_bipush x_33_140 (x := 8) rfl ?_
    refine r_iload x_33_142 rfl ?_
    refine r_if_eq x_33_144 (t := 151) (by decide +kernel) hv9 (fun hc => ?_) (fun hc => ?_)
    · replace h := h.1 hc
      refine r_bipush x_33_151 (x := 8) rfl ?_
      exact h
    · replace h := h.2 hc
      refine r_iconst x_33_147 ?_
      refine r_goto x_33_148 (t := 153) (by decide +kernel) ?_
      exact h
  · replace h := h.1 hc
    refine r_iconst x_33_136 ?_
    refine r_goto x_33_137 (t := 142) (by decide +kernel) ?_
    refine r_iload x_33_142 rfl ?_
    refine r_if_eq x_33_144 (t := 151) (by decide +kernel) hv9 (fun hc => ?_) (fun hc => ?_)
    · replace h := h.1 hc
      refine r_bipush x_33_151 (x := 8) rfl ?_
      exact h
    · replace h := h.2 hc
      refine r_iconst x_33_147 ?_
      refine r_goto x_33_148 (t := 153) (by decide +kernel) ?_
      exact h
theorem s_X1_add_153 {d : Nat} {M : g_M} {Q : Int → g_M → Prop} {a0 : Nat} {v1 : Int} (hv1 : g_InR v1) {v2 : Int} (hv2 : g_InR v2) {V3 : Int64} {V5 : Int64} {V7 : Int64} {v9 : Int} (hv9 : g_InR v9) {v10 : Int} (hv10 : g_InR v10) {w0 : Int} (hw0 : g_InR w0) {w1 : Int} (hw1 : g_InR w1) {w2 : Int} (hw2 : g_InR w2) {c3 : Nat} (h : g_ok M → g_O M c3 1 ∧ g_Call d 24 [.ref c3, g_n w2, g_n w1, g_n w0] M (g_qI fun r5 M2 => g_ext M M2 → g_ok M2 → g_InR r5 → ((r5 = 0 → Q 9 M2) ∧ (¬ r5 = 0 → g_O M2 a0 1 ∧ ∃ b8, g_r M2 a0 0 = some b8 ∧ ∃ n10, g_A M2 b8 0 n10 ∧ ((0 : Int) ≤ v2 ∧ (v2 : Int) < n10) ∧ (∀ M13, M13 = g_wi M2 b8 v2 (g_w8 (g_w8 v10)) → g_ok M13 → ((v9 = 0 → ∃ b17, g_r M13 a0 3 = some b17 ∧ g_O M13 b17 4 ∧ g_Call d 78 [.ref b17, .long V7] M13 (g_qV fun M20 => g_ext M13 M20 → g_ok M20 → Q 0 M20)) ∧ (¬ v9 = 0 → ∃ b23, g_r M13 a0 3 = some b23 ∧ g_O M13 b23 4 ∧ g_Call d 77 [.ref b23, g_n V7.toInt32.toInt] M13 (g_qV fun M26 => g_ext M13 M26 → g_ok M26 → Q 0 M26)))))))) : g_Run d 33 153 [(0, .ref a0), (1, g_n v1), (2, g_n v2), (3, .long V3), (5, .long V5), (7, .long V7), (9, g_n v9), (10, g_n v10)] [g_n w0, g_n w1, g_n w2, .ref c3] M (g_qI Q) := by
  refine g_Run.ok fun hok => ?_
  replace h := h hok
  obtain ⟨hO1, h⟩ := h
  refine r_invV x_33_153 (z := 24) (ns := 0) (by decide +kernel) (as := [g_n w2, g_n w1, g_n w0]) (r := []) rfl rfl rfl hO1 rfl rfl ?_
  refine r_callI h fun r5 M2 hx3 hok4 hr6 h => ?_
  replace h := h hx3 hok4 hr6
  replace hO1 := hO1.up hx3
  refine r_if_ne x_33_156 (t := 162) (by decide +kernel) hr6 (fun hc => ?_) (fun hc => ?_)
  · replace h := h.2 hc
    refine r_aload_n x_33_162 rfl ?_
    obtain ⟨hO7, h⟩ := h
    obtain ⟨b8, hb9, h⟩ := h
    refine r_getR x_33_163 rfl (ci := 1) (k := 0) (ns := 0) (by decide +kernel) (by decide) rfl (kz := 0) rfl hO7 hb9 ?_
    refine r_iload_n x_33_166 rfl ?_
    refine r_iload x_33_167 rfl ?_
    refine r_i2b x_33_169 ?_
    obtain ⟨n10, hA11, h⟩ := h
    obtain ⟨h12, h⟩ := h
    refine r_bast0 x_33_170 hA11 hv2 h12.1 h12.2 ?_
    obtain ⟨M13, hM14⟩ : ∃ Mz, Mz = g_wi M2 b8 v2 (g_w8 (g_w8 v10)) := ⟨_, rfl⟩
    rw [← hM14]
    refine g_Run.ok fun hok15 => ?_
    replace h := h M13 hM14 hok15
    have hx16 := g_extW hM14
    replace hO1 := hO1.up hx16
    replace hO7 := hO7.up hx16
    replace hA11 := hA11.up hx16
    refine r_iload x_33_171 rfl ?_
    refine r_if_eq x_33_173 (t := 189) (by decide +kernel) hv9 (fun hc => ?_) (fun hc => ?_)
    · replace h := h.1 hc
      refine r_aload_n x_33_189 rfl ?_
      obtain ⟨b17, hb18, h⟩ := h
      refine r_getR x_33_190 rfl (ci := 1) (k := 3) (ns := 0) (by decide +kernel) (by decide) rfl (kz := 3) rfl hO7 hb18 ?_
      refine r_lload x_33_193 rfl ?_
      obtain ⟨hO19, h⟩ := h
      refine r_invV x_33_195 (z := 78) (ns := 1) (by decide +kernel) (as := [.long V7]) (r := []) rfl rfl rfl hO19 rfl rfl ?_
      refine r_callV h fun M20 hx21 hok22 h => ?_
      replace h := h hx21 hok22
      replace hO1 := hO1.up hx21
      replace hO7 := hO7.up hx21
      replace hO19 := hO19.up hx21
      replace hA11 := hA11.up hx21
      refine r_iconst x_33_198 ?_
      exact r_retI x_33_199 rfl (g_Rk rfl) h
    · replace h := h.2 hc
      refine r_aload_n x_33_176 rfl ?_
      obtain ⟨b23, hb24, h⟩ := h
      refine r_getR x_33_177 rfl (ci := 1) (k := 3) (ns := 0) (by decide +kernel) (by decide) rfl (kz := 3) rfl hO7 hb24 ?_
      refine r_lload x_33_180 rfl ?_
      refine r_l2i x_33_182 ?_
      obtain ⟨hO25, h⟩ := h
      refine r_invV x_33_183 (z := 77) (ns := 1) (by decide +kernel) (as := [g_n V7.toInt32.toInt]) (r := []) rfl rfl rfl hO25 rfl rfl ?_
      refine r_callV h fun M26 hx27 hok28 h => ?_
      replace h := h hx27 hok28
      replace hO1 := hO1.up hx27
      replace hO7 := hO7.up hx27
      replace hO25 := hO25.up hx27
      replace hA11 := hA11.up hx27
      refine r_goto x_33_186 (t := 198) (by decide +kernel) ?_
      refine r_iconst x_33_198 ?_
      exact r_retI x_33_199 rfl (g_Rk rfl) h
  · replace h := h.1 hc
    refine r_bipush x_33_159 (x := 9) rfl ?_
    exact r_retI x_33_161 rfl (g_Rk rfl) h
theorem m_X1_takes {d : Nat} {M : g_M} {Q : Int → g_M → Prop} {a0 : Nat} {v1 : Int} (hv1 : g_InR v1) {v2 : Int} (hv2 : g_InR v2) (h : g_ok M → g_O M a0 1 ∧ (∀ M2, M2 = g_wi M a0 4 0 → g_ok M2 → g_Run d 34 11 [(0, .ref a0), (1, g_n v1), (2, g_n v2), (3, g_n 163608), (4, g_n 0)] [] M2 (g_qI Q))) : g_Call (d + 1) 34 [.ref a0, g_n v1, g_n v2] M (g_qI Q) := by
  refine g_Call.ok fun hok0 => ?_
  replace h := h hok0
  refine r_body rfl (lv := [(0, .ref a0), (1, g_n v1), (2, g_n v2)]) rfl ?_
  refine g_Run.ok fun hok => ?_
  refine r_ldc x_34_0 (v := g_n 163608) rfl ?_
  refine r_istore_n x_34_2 (by decide +kernel) rfl (lv1 := [(0, .ref a0), (1, g_n v1), (2, g_n v2), (3, g_n 163608)]) rfl ?_
  refine r_aload_n x_34_3 rfl ?_
  refine r_iconst x_34_4 ?_
  obtain ⟨hO1, h⟩ := h
  refine r_putI x_34_5 (ci := 1) (k := 4) (ns := 0) (by decide +kernel) (by decide) (g_f0 (by decide +kernel)) rfl (g_Rk rfl) trivial (kz := 4) rfl hO1 ?_
  obtain ⟨M2, hM3⟩ : ∃ Mz, Mz = g_wi M a0 4 0 := ⟨_, rfl⟩
  rw [← hM3]
  refine g_Run.ok fun hok4 => ?_
  replace h := h M2 hM3 hok4
  have hx5 := g_extW hM3
  replace hO1 := hO1.up hx5
  refine r_iconst x_34_8 ?_
  refine r_istore x_34_9 (by decide +kernel) rfl (lv1 := [(0, .ref a0), (1, g_n v1), (2, g_n v2), (3, g_n 163608), (4, g_n 0)]) rfl ?_
  exact h
theorem s_X1_takes_11 {d : Nat} {M : g_M} {Q : Int → g_M → Prop} {a0 : Nat} {v1 : Int} (hv1 : g_InR v1) {v2 : Int} (hv2 : g_InR v2) {v3 : Int} (hv3 : g_InR v3) {v4 : Int} (hv4 : g_InR v4) (h : g_ok M → g_O M a0 1 ∧ ∃ b2, g_r M a0 1 = some b2 ∧ g_O M b2 5 ∧ ((v4 < g_i M b2 3 → ∃ b20, g_r M a0 0 = some b20 ∧ g_Call d 108 [.ref b20, g_n v3] M (g_qI fun r25 M22 => g_ext M M22 → g_ok M22 → g_InR r25 → ((r25 = 3 → g_Run d 34 47 [(0, .ref a0), (1, g_n v1), (2, g_n v2), (3, g_n v3), (4, g_n v4), (5, g_n r25)] [] M22 (g_qI Q)) ∧ (¬ r25 = 3 → ((r25 = 4 → g_Run d 34 47 [(0, .ref a0), (1, g_n v1), (2, g_n v2), (3, g_n v3), (4, g_n v4), (5, g_n r25)] [] M22 (g_qI Q)) ∧ (¬ r25 = 4 → Q 0 M22)))))) ∧ (¬ v4 < g_i M b2 3 → ((v1 = 2 → g_Call d 35 [.ref a0, g_n v3] M (g_qV fun M17 => g_ext M M17 → g_ok M17 → Q 0 M17)) ∧ (¬ v1 = 2 → ∃ b5, g_r M a0 0 = some b5 ∧ g_Call d 108 [.ref b5, g_n v3] M (g_qI fun r10 M7 => g_ext M M7 → g_ok M7 → g_InR r10 → ((r10 = 4 → g_Call d 36 [.ref a0, g_n v2, g_n v3] M7 (g_qI fun r15 M12 => g_ext M7 M12 → g_ok M12 → g_InR r15 → Q r15 M12)) ∧ (¬ r10 = 4 → Q 7 M7)))))))) : g_Run d 34 11 [(0, .ref a0), (1, g_n v1), (2, g_n v2), (3, g_n v3), (4, g_n v4)] [] M (g_qI Q) := by
  refine g_Run.ok fun hok => ?_
  replace h := h hok
  refine r_iload x_34_11 rfl ?_
  refine r_aload_n x_34_13 rfl ?_
  obtain ⟨hO1, h⟩ := h
  obtain ⟨b2, hb3, h⟩ := h
  refine r_getR x_34_14 rfl (ci := 1) (k := 1) (ns := 0) (by decide +kernel) (by decide) rfl (kz := 1) rfl hO1 hb3 ?_
  obtain ⟨hO4, h⟩ := h
  refine r_getI x_34_17 rfl (ci := 5) (k := 3) (ns := 1) (by decide +kernel) (by decide) rfl (kz := 3) rfl hO4 ?_
  refine r_ic_ge x_34_20 (t := 100) (by decide +kernel) hv4 (hok.1 _ _) (fun hc => ?_) (fun hc => ?_)
  · replace h := h.2 hc
    refine r_iload_n x_34_100 rfl ?_
    refine r_iconst x_34_101 ?_
    refine r_ic_ne x_34_102 (t := 112) (by decide +kernel) hv1 (g_Rk rfl) (fun hc => ?_) (fun hc => ?_)
    · replace h := h.2 hc
      refine r_aload_n x_34_112 rfl ?_
      obtain ⟨b5, hb6, h⟩ := h
      refine r_getR x_34_113 rfl (ci := 1) (k := 0) (ns := 0) (by decide +kernel) (by decide) rfl (kz := 0) rfl hO1 hb6 ?_
      refine r_iload_n x_34_116 rfl ?_
      refine r_invS x_34_117 (z := 108) (ns := 1) (by decide +kernel) (as := [.ref b5, g_n v3]) (r := []) rfl rfl rfl ?_
      refine r_callI h fun r10 M7 hx8 hok9 hr11 h => ?_
      replace h := h hx8 hok9 hr11
      replace hO1 := hO1.up hx8
      replace hO4 := hO4.up hx8
      refine r_iconst x_34_120 ?_
      refine r_ic_ne x_34_121 (t := 133) (by decide +kernel) hr11 (g_Rk rfl) (fun hc => ?_) (fun hc => ?_)
      · replace h := h.2 hc
        refine r_bipush x_34_133 (x := 7) rfl ?_
        exact r_retI x_34_135 rfl (g_Rk rfl) h
      · replace h := h.1 hc
        refine r_aload_n x_34_124 rfl ?_
        refine r_iload_n x_34_125 rfl ?_
        refine r_iload_n x_34_126 rfl ?_
        refine r_invV x_34_127 (z := 36) (ns := 0) (by decide +kernel) (as := [g_n v2, g_n v3]) (r := []) rfl rfl rfl hO1 rfl rfl ?_
        refine r_callI h fun r15 M12 hx13 hok14 hr16 h => ?_
        replace h := h hx13 hok14 hr16
        replace hO1 := hO1.up hx13
        replace hO4 := hO4.up hx13
        refine r_goto x_34_130 (t := 135) (by decide +kernel) ?_
        exact r_retI x_34_135 rfl hr16 h
    · replace h := h.1 hc
      refine r_aload_n x_34_105 rfl ?_
      refine r_iload_n x_34_106 rfl ?_
      refine r_invV x_34_107 (z := 35) (ns := 0) (by decide +kernel) (as := [g_n v3]) (r := []) rfl rfl rfl hO1 rfl rfl ?_
      refine r_callV h fun M17 hx18 hok19 h => ?_
      replace h := h hx18 hok19
      replace hO1 := hO1.up hx18
      replace hO4 := hO4.up hx18
      refine r_iconst x_34_110 ?_
      exact r_retI x_34_111 rfl (g_Rk rfl) h
  · replace h := h.1 hc
    refine r_aload_n x_34_23 rfl ?_
    obtain ⟨b20, hb21, h⟩ := h
    refine r_getR x_34_24 rfl (ci := 1) (k := 0) (ns := 0) (by decide +kernel) (by decide) rfl (kz := 0) rfl hO1 hb21 ?_
    refine r_iload_n x_34_27 rfl ?_
    refine r_invS x_34_28 (z := 108) (ns := 1) (by decide +kernel) (as := [.ref b20, g_n v3]) (r := []) rfl rfl rfl ?_
    refine r_callI h fun r25 M22 hx23 hok24 hr26 h => ?_
    replace h := h hx23 hok24 hr26
    replace hO1 := hO1.up hx23
    replace hO4 := hO4.up hx23
    refine r_istore x_34_31 (by decide +kernel) rfl (lv1 := [(0, .ref a0), (1, g_n v1), (2, g_n v2), (3, g_n v3), (4, g_n v4), (5, g_n r25)]) rfl ?_
    refine r_iload x_34_33 rfl ?_
    refine r_iconst x_34_35 ?_
    refine r_ic_eq x_34_36 (t := 47) (by decide +kernel) hr26 (g_Rk rfl) (fun hc => ?_) (fun hc => ?_)
    · replace h := h.1 hc
      exact h
    · replace h := h.2 hc
      refine r_iload x_34_39 rfl ?_
      refine r_iconst x_34_41 ?_
      refine r_ic_eq x_34_42 (t := 47) (by decide +kernel) hr26 (g_Rk rfl) (fun hc => ?_) (fun hc => ?_)
      · replace h := h.1 hc
        exact h
      · replace h := h.2 hc
        refine r_iconst x_34_45 ?_
        exact r_retI x_34_46 rfl (g_Rk rfl) h
theorem s_X1_takes_47 {d : Nat} {M : g_M} {Q : Int → g_M → Prop} {a0 : Nat} {v1 : Int} (hv1 : g_InR v1) {v2 : Int} (hv2 : g_InR v2) {v3 : Int} (hv3 : g_InR v3) {v4 : Int} (hv4 : g_InR v4) {v5 : Int} (hv5 : g_InR v5) (h : g_ok M → g_O M a0 1 ∧ g_Call d 25 [.ref a0, g_n v3] M (g_qV fun M2 => g_ext M M2 → g_ok M2 → ∃ b5, g_r M2 a0 0 = some b5 ∧ ∃ b7, g_r M2 a0 1 = some b7 ∧ g_O M2 b7 5 ∧ ∃ b10, g_r M2 b7 0 = some b10 ∧ ∃ b12, g_r M2 a0 1 = some b12 ∧ g_O M2 b12 5 ∧ ∃ b15, g_r M2 b12 1 = some b15 ∧ ∃ n17, g_A M2 b15 1 n17 ∧ ((0 : Int) ≤ v4 ∧ (v4 : Int) < n17) ∧ ∃ b20, g_r M2 a0 1 = some b20 ∧ g_O M2 b20 5 ∧ ∃ b23, g_r M2 b20 2 = some b23 ∧ ∃ n25, g_A M2 b23 1 n25 ∧ ((0 : Int) ≤ v4 ∧ (v4 : Int) < n25) ∧ g_Call d 114 [.ref b5, g_n v3, .ref b10, g_n (g_i M2 b15 v4), g_n (g_i M2 b23 v4)] M2 (g_qI fun r31 M28 => g_ext M2 M28 → g_ok M28 → g_InR r31 → ((r31 < 0 → Q 0 M28) ∧ (¬ r31 < 0 → g_InR (v4 + 1) ∧ g_Run d 34 11 [(0, .ref a0), (1, g_n v1), (2, g_n v2), (3, g_n r31), (4, g_n (v4 + 1))] [] M28 (g_qI Q)))))) : g_Run d 34 47 [(0, .ref a0), (1, g_n v1), (2, g_n v2), (3, g_n v3), (4, g_n v4), (5, g_n v5)] [] M (g_qI Q) := by
  refine g_Run.ok fun hok => ?_
  replace h := h hok
  refine r_aload_n x_34_47 rfl ?_
  refine r_iload_n x_34_48 rfl ?_
  obtain ⟨hO1, h⟩ := h
  refine r_invV x_34_49 (z := 25) (ns := 0) (by decide +kernel) (as := [g_n v3]) (r := []) rfl rfl rfl hO1 rfl rfl ?_
  refine r_callV h fun M2 hx3 hok4 h => ?_
  replace h := h hx3 hok4
  replace hO1 := hO1.up hx3
  refine r_aload_n x_34_52 rfl ?_
  obtain ⟨b5, hb6, h⟩ := h
  refine r_getR x_34_53 rfl (ci := 1) (k := 0) (ns := 0) (by decide +kernel) (by decide) rfl (kz := 0) rfl hO1 hb6 ?_
  refine r_iload_n x_34_56 rfl ?_
  refine r_aload_n x_34_57 rfl ?_
  obtain ⟨b7, hb8, h⟩ := h
  refine r_getR x_34_58 rfl (ci := 1) (k := 1) (ns := 0) (by decide +kernel) (by decide) rfl (kz := 1) rfl hO1 hb8 ?_
  obtain ⟨hO9, h⟩ := h
  obtain ⟨b10, hb11, h⟩ := h
  refine r_getR x_34_61 rfl (ci := 5) (k := 0) (ns := 1) (by decide +kernel) (by decide) rfl (kz := 0) rfl hO9 hb11 ?_
  refine r_aload_n x_34_64 rfl ?_
  obtain ⟨b12, hb13, h⟩ := h
  refine r_getR x_34_65 rfl (ci := 1) (k := 1) (ns := 0) (by decide +kernel) (by decide) rfl (kz := 1) rfl hO1 hb13 ?_
  obtain ⟨hO14, h⟩ := h
  obtain ⟨b15, hb16, h⟩ := h
  refine r_getR x_34_68 rfl (ci := 5) (k := 1) (ns := 1) (by decide +kernel) (by decide) rfl (kz := 1) rfl hO14 hb16 ?_
  refine r_iload x_34_71 rfl ?_
  obtain ⟨n17, hA18, h⟩ := h
  obtain ⟨h19, h⟩ := h
  refine r_iald x_34_73 hA18 hv4 h19.1 h19.2 ?_
  refine r_aload_n x_34_74 rfl ?_
  obtain ⟨b20, hb21, h⟩ := h
  refine r_getR x_34_75 rfl (ci := 1) (k := 1) (ns := 0) (by decide +kernel) (by decide) rfl (kz := 1) rfl hO1 hb21 ?_
  obtain ⟨hO22, h⟩ := h
  obtain ⟨b23, hb24, h⟩ := h
  refine r_getR x_34_78 rfl (ci := 5) (k := 2) (ns := 1) (by decide +kernel) (by decide) rfl (kz := 2) rfl hO22 hb24 ?_
  refine r_iload x_34_81 rfl ?_
  obtain ⟨n25, hA26, h⟩ := h
  obtain ⟨h27, h⟩ := h
  refine r_iald x_34_83 hA26 hv4 h27.1 h27.2 ?_
  refine r_invS x_34_84 (z := 114) (ns := 1) (by decide +kernel) (as := [.ref b5, g_n v3, .ref b10, g_n (g_i M2 b15 v4), g_n (g_i M2 b23 v4)]) (r := []) rfl rfl rfl ?_
  refine r_callI h fun r31 M28 hx29 hok30 hr32 h => ?_
  replace h := h hx29 hok30 hr32
  replace hO1 := hO1.up hx29
  replace hO9 := hO9.up hx29
  replace hO14 := hO14.up hx29
  replace hO22 := hO22.up hx29
  replace hA18 := hA18.up hx29
  replace hA26 := hA26.up hx29
  refine r_istore_n x_34_87 (by decide +kernel) rfl (lv1 := [(0, .ref a0), (1, g_n v1), (2, g_n v2), (3, g_n r31), (4, g_n v4), (5, g_n v5)]) rfl ?_
  refine r_iload_n x_34_88 rfl ?_
  refine r_if_ge x_34_89 (t := 94) (by decide +kernel) hr32 (fun hc => ?_) (fun hc => ?_)
  · replace h := h.2 hc
    obtain ⟨h33, h⟩ := h
    refine r_iinc x_34_94 (by decide +kernel) rfl rfl (lv1 := [(0, .ref a0), (1, g_n v1), (2, g_n v2), (3, g_n r31), (4, g_n (v4 + 1)), (5, g_n v5)]) rfl ?_
    refine r_goto x_34_97 (t := 11) (by decide +kernel) ?_
    refine g_drop [0, 1, 2, 3, 4] (lv1 := [(0, .ref a0), (1, g_n v1), (2, g_n v2), (3, g_n r31), (4, g_n (v4 + 1))]) rfl ?_
    exact h
  · replace h := h.1 hc
    refine r_iconst x_34_92 ?_
    exact r_retI x_34_93 rfl (g_Rk rfl) h
theorem m_X1_unset {d : Nat} {M : g_M} {Q : g_M → Prop} {a0 : Nat} {v1 : Int} (hv1 : g_InR v1) (h : g_ok M → g_O M a0 1 ∧ ((0 < g_i M a0 4 → ∃ b2, g_r M a0 2 = some b2 ∧ g_InR ((g_i M a0 4) - 1) ∧ ∃ n5, g_A M b2 1 n5 ∧ ((0 : Int) ≤ (g_i M a0 4) - 1 ∧ ((g_i M a0 4) - 1 : Int) < n5) ∧ g_Run d 35 23 [(0, .ref a0), (1, g_n v1)] [g_n (g_i M b2 ((g_i M a0 4) - 1))] M (g_qV Q)) ∧ (¬ 0 < g_i M a0 4 → g_Run d 35 23 [(0, .ref a0), (1, g_n v1)] [g_n 163608] M (g_qV Q)))) : g_Call (d + 1) 35 [.ref a0, g_n v1] M (g_qV Q) := by
  refine g_Call.ok fun hok0 => ?_
  replace h := h hok0
  refine r_body rfl (lv := [(0, .ref a0), (1, g_n v1)]) rfl ?_
  refine g_Run.ok fun hok => ?_
  refine r_aload_n x_35_0 rfl ?_
  obtain ⟨hO1, h⟩ := h
  refine r_getI x_35_1 rfl (ci := 1) (k := 4) (ns := 0) (by decide +kernel) (by decide) rfl (kz := 4) rfl hO1 ?_
  refine r_if_le x_35_4 (t := 21) (by decide +kernel) (hok.1 _ _) (fun hc => ?_) (fun hc => ?_)
  · replace h := h.2 hc
    refine r_ldc x_35_21 (v := g_n 163608) rfl ?_
    exact h
  · replace h := h.1 hc
    refine r_aload_n x_35_7 rfl ?_
    obtain ⟨b2, hb3, h⟩ := h
    refine r_getR x_35_8 rfl (ci := 1) (k := 2) (ns := 0) (by decide +kernel) (by decide) rfl (kz := 2) rfl hO1 hb3 ?_
    refine r_aload_n x_35_11 rfl ?_
    refine r_getI x_35_12 rfl (ci := 1) (k := 4) (ns := 0) (by decide +kernel) (by decide) rfl (kz := 4) rfl hO1 ?_
    refine r_iconst x_35_15 ?_
    refine r_isub x_35_16 ?_
    obtain ⟨h4, h⟩ := h
    obtain ⟨n5, hA6, h⟩ := h
    obtain ⟨h7, h⟩ := h
    refine r_iald x_35_17 hA6 h4 h7.1 h7.2 ?_
    refine r_goto x_35_18 (t := 23) (by decide +kernel) ?_
    exact h
theorem s_X1_unset_23 {d : Nat} {M : g_M} {Q : g_M → Prop} {a0 : Nat} {v1 : Int} (hv1 : g_InR v1) {w0 : Int} (hw0 : g_InR w0) (h : g_ok M → g_O M a0 1 ∧ ∃ b2, g_r M a0 0 = some b2 ∧ g_Call d 108 [.ref b2, g_n w0] M (g_qI fun r7 M4 => g_ext M M4 → g_ok M4 → g_InR r7 → ((r7 = 3 → ∃ b43, g_r M4 a0 0 = some b43 ∧ g_Call d 111 [.ref b43, g_n v1] M4 (g_qI fun r48 M45 => g_ext M4 M45 → g_ok M45 → g_InR r48 → g_InR (r48 - v1) ∧ g_Call d 24 [.ref a0, g_n v1, g_n (r48 - v1), g_n 0] M45 (g_qI fun r54 M51 => g_ext M45 M51 → g_ok M51 → g_InR r54 → Q M51))) ∧ (¬ r7 = 3 → ∃ b9, g_r M4 a0 0 = some b9 ∧ ∃ n11, g_A M4 b9 0 n11 ∧ ((0 : Int) ≤ v1 ∧ (v1 : Int) < n11) ∧ ((g_i M4 b9 v1 = 10 → Q M4) ∧ (¬ g_i M4 b9 v1 = 10 → ∃ b14, g_r M4 a0 0 = some b14 ∧ g_Call d 110 [.ref b14, g_n v1] M4 (g_qI fun r19 M16 => g_ext M4 M16 → g_ok M16 → g_InR r19 → ∃ b21, g_r M16 a0 0 = some b21 ∧ g_Call d 111 [.ref b21, g_n v1] M16 (g_qI fun r26 M23 => g_ext M16 M23 → g_ok M23 → g_InR r26 → g_InR (r26 - r19) ∧ g_Call d 24 [.ref a0, g_n r19, g_n (r26 - r19), g_n 0] M23 (g_qI fun r32 M29 => g_ext M23 M29 → g_ok M29 → g_InR r32 → ∃ b34, g_r M29 a0 0 = some b34 ∧ ∃ n36, g_A M29 b34 0 n36 ∧ ((0 : Int) ≤ v1 ∧ (v1 : Int) < n36) ∧ (∀ M39, M39 = g_wi M29 b34 v1 (g_w8 10) → g_ok M39 → Q M39)))))))))) : g_Run d 35 23 [(0, .ref a0), (1, g_n v1)] [g_n w0] M (g_qV Q) := by
  refine g_Run.ok fun hok => ?_
  replace h := h hok
  refine r_istore_n x_35_23 (by decide +kernel) rfl (lv1 := [(0, .ref a0), (1, g_n v1), (2, g_n w0)]) rfl ?_
  refine r_aload_n x_35_24 rfl ?_
  obtain ⟨hO1, h⟩ := h
  obtain ⟨b2, hb3, h⟩ := h
  refine r_getR x_35_25 rfl (ci := 1) (k := 0) (ns := 0) (by decide +kernel) (by decide) rfl (kz := 0) rfl hO1 hb3 ?_
  refine r_iload_n x_35_28 rfl ?_
  refine r_invS x_35_29 (z := 108) (ns := 1) (by decide +kernel) (as := [.ref b2, g_n w0]) (r := []) rfl rfl rfl ?_
  refine r_callI h fun r7 M4 hx5 hok6 hr8 h => ?_
  replace h := h hx5 hok6 hr8
  replace hO1 := hO1.up hx5
  refine r_iconst x_35_32 ?_
  refine r_ic_ne x_35_33 (t := 56) (by decide +kernel) hr8 (g_Rk rfl) (fun hc => ?_) (fun hc => ?_)
  · replace h := h.2 hc
    refine r_aload_n x_35_56 rfl ?_
    obtain ⟨b9, hb10, h⟩ := h
    refine r_getR x_35_57 rfl (ci := 1) (k := 0) (ns := 0) (by decide +kernel) (by decide) rfl (kz := 0) rfl hO1 hb10 ?_
    refine r_iload_n x_35_60 rfl ?_
    obtain ⟨n11, hA12, h⟩ := h
    obtain ⟨h13, h⟩ := h
    refine r_bald x_35_61 (Or.inl rfl) hA12 hv1 h13.1 h13.2 ?_
    refine r_bipush x_35_62 (x := 10) rfl ?_
    refine r_ic_eq x_35_64 (t := 101) (by decide +kernel) (hok6.1 _ _) (g_Rk rfl) (fun hc => ?_) (fun hc => ?_)
    · replace h := h.1 hc
      exact r_retV x_35_101 rfl h
    · replace h := h.2 hc
      refine r_aload_n x_35_67 rfl ?_
      obtain ⟨b14, hb15, h⟩ := h
      refine r_getR x_35_68 rfl (ci := 1) (k := 0) (ns := 0) (by decide +kernel) (by decide) rfl (kz := 0) rfl hO1 hb15 ?_
      refine r_iload_n x_35_71 rfl ?_
      refine r_invS x_35_72 (z := 110) (ns := 1) (by decide +kernel) (as := [.ref b14, g_n v1]) (r := []) rfl rfl rfl ?_
      refine r_callI h fun r19 M16 hx17 hok18 hr20 h => ?_
      replace h := h hx17 hok18 hr20
      replace hO1 := hO1.up hx17
      replace hA12 := hA12.up hx17
      refine r_istore_n x_35_75 (by decide +kernel) rfl (lv1 := [(0, .ref a0), (1, g_n v1), (2, g_n w0), (3, g_n r19)]) rfl ?_
      refine r_aload_n x_35_76 rfl ?_
      refine r_iload_n x_35_77 rfl ?_
      refine r_aload_n x_35_78 rfl ?_
      obtain ⟨b21, hb22, h⟩ := h
      refine r_getR x_35_79 rfl (ci := 1) (k := 0) (ns := 0) (by decide +kernel) (by decide) rfl (kz := 0) rfl hO1 hb22 ?_
      refine r_iload_n x_35_82 rfl ?_
      refine r_invS x_35_83 (z := 111) (ns := 1) (by decide +kernel) (as := [.ref b21, g_n v1]) (r := [g_n r19, .ref a0]) rfl rfl rfl ?_
      refine r_callI h fun r26 M23 hx24 hok25 hr27 h => ?_
      replace h := h hx24 hok25 hr27
      replace hO1 := hO1.up hx24
      replace hA12 := hA12.up hx24
      refine r_iload_n x_35_86 rfl ?_
      refine r_isub x_35_87 ?_
      obtain ⟨h28, h⟩ := h
      refine r_iconst x_35_88 ?_
      refine r_invV x_35_89 (z := 24) (ns := 0) (by decide +kernel) (as := [g_n r19, g_n (r26 - r19), g_n 0]) (r := []) rfl rfl rfl hO1 rfl rfl ?_
      refine r_callI h fun r32 M29 hx30 hok31 hr33 h => ?_
      replace h := h hx30 hok31 hr33
      replace hO1 := hO1.up hx30
      replace hA12 := hA12.up hx30
      refine r_pop x_35_92 rfl ?_
      refine r_aload_n x_35_93 rfl ?_
      obtain ⟨b34, hb35, h⟩ := h
      refine r_getR x_35_94 rfl (ci := 1) (k := 0) (ns := 0) (by decide +kernel) (by decide) rfl (kz := 0) rfl hO1 hb35 ?_
      refine r_iload_n x_35_97 rfl ?_
      refine r_bipush x_35_98 (x := 10) rfl ?_
      obtain ⟨n36, hA37, h⟩ := h
      obtain ⟨h38, h⟩ := h
      refine r_bast0 x_35_100 hA37 hv1 h38.1 h38.2 ?_
      obtain ⟨M39, hM40⟩ : ∃ Mz, Mz = g_wi M29 b34 v1 (g_w8 10) := ⟨_, rfl⟩
      rw [← hM40]
      refine g_Run.ok fun hok41 => ?_
      replace h := h M39 hM40 hok41
      have hx42 := g_extW hM40
      replace hO1 := hO1.up hx42
      replace hA12 := hA12.up hx42
      replace hA37 := hA37.up hx42
      exact r_retV x_35_101 rfl h
  · replace h := h.1 hc
    refine r_aload_n x_35_36 rfl ?_
    refine r_iload_n x_35_37 rfl ?_
    refine r_aload_n x_35_38 rfl ?_
    obtain ⟨b43, hb44, h⟩ := h
    refine r_getR x_35_39 rfl (ci := 1) (k := 0) (ns := 0) (by decide +kernel) (by decide) rfl (kz := 0) rfl hO1 hb44 ?_
    refine r_iload_n x_35_42 rfl ?_
    refine r_invS x_35_43 (z := 111) (ns := 1) (by decide +kernel) (as := [.ref b43, g_n v1]) (r := [g_n v1, .ref a0]) rfl rfl rfl ?_
    refine r_callI h fun r48 M45 hx46 hok47 hr49 h => ?_
    replace h := h hx46 hok47 hr49
    replace hO1 := hO1.up hx46
    refine r_iload_n x_35_46 rfl ?_
    refine r_isub x_35_47 ?_
    obtain ⟨h50, h⟩ := h
    refine r_iconst x_35_48 ?_
    refine r_invV x_35_49 (z := 24) (ns := 0) (by decide +kernel) (as := [g_n v1, g_n (r48 - v1), g_n 0]) (r := []) rfl rfl rfl hO1 rfl rfl ?_
    refine r_callI h fun r54 M51 hx52 hok53 hr55 h => ?_
    replace h := h hx52 hok53 hr55
    replace hO1 := hO1.up hx52
    refine r_pop x_35_52 rfl ?_
    refine r_goto x_35_53 (t := 101) (by decide +kernel) ?_
    exact r_retV x_35_101 rfl h
theorem m_X1_pull {d : Nat} {M : g_M} {Q : Int → g_M → Prop} {a0 : Nat} {v1 : Int} (hv1 : g_InR v1) {v2 : Int} (hv2 : g_InR v2) (h : g_ok M → g_O M a0 1 ∧ g_Call d 25 [.ref a0, g_n v2] M (g_qV fun M2 => g_ext M M2 → g_ok M2 → ∃ b5, g_r M2 a0 0 = some b5 ∧ g_Call d 112 [.ref b5, g_n v2] M2 (g_qI fun r10 M7 => g_ext M2 M7 → g_ok M7 → g_InR r10 → g_Run d 36 20 [(0, .ref a0), (1, g_n v1), (2, g_n v2), (3, g_n 0), (4, g_n r10), (5, g_n 0)] [] M7 (g_qI Q)))) : g_Call (d + 1) 36 [.ref a0, g_n v1, g_n v2] M (g_qI Q) := by
  refine g_Call.ok fun hok0 => ?_
  replace h := h hok0
  refine r_body rfl (lv := [(0, .ref a0), (1, g_n v1), (2, g_n v2)]) rfl ?_
  refine g_Run.ok fun hok => ?_
  refine r_aload_n x_36_0 rfl ?_
  refine r_iload_n x_36_1 rfl ?_
  obtain ⟨hO1, h⟩ := h
  refine r_invV x_36_2 (z := 25) (ns := 0) (by decide +kernel) (as := [g_n v2]) (r := []) rfl rfl rfl hO1 rfl rfl ?_
  refine r_callV h fun M2 hx3 hok4 h => ?_
  replace h := h hx3 hok4
  replace hO1 := hO1.up hx3
  refine r_iconst x_36_5 ?_
  refine r_istore_n x_36_6 (by decide +kernel) rfl (lv1 := [(0, .ref a0), (1, g_n v1), (2, g_n v2), (3, g_n 0)]) rfl ?_
  refine r_aload_n x_36_7 rfl ?_
  obtain ⟨b5, hb6, h⟩ := h
  refine r_getR x_36_8 rfl (ci := 1) (k := 0) (ns := 0) (by decide +kernel) (by decide) rfl (kz := 0) rfl hO1 hb6 ?_
  refine r_iload_n x_36_11 rfl ?_
  refine r_invS x_36_12 (z := 112) (ns := 1) (by decide +kernel) (as := [.ref b5, g_n v2]) (r := []) rfl rfl rfl ?_
  refine r_callI h fun r10 M7 hx8 hok9 hr11 h => ?_
  replace h := h hx8 hok9 hr11
  replace hO1 := hO1.up hx8
  refine r_istore x_36_15 (by decide +kernel) rfl (lv1 := [(0, .ref a0), (1, g_n v1), (2, g_n v2), (3, g_n 0), (4, g_n r10)]) rfl ?_
  refine r_iconst x_36_17 ?_
  refine r_istore x_36_18 (by decide +kernel) rfl (lv1 := [(0, .ref a0), (1, g_n v1), (2, g_n v2), (3, g_n 0), (4, g_n r10), (5, g_n 0)]) rfl ?_
  exact h
theorem s_X1_pull_20 {d : Nat} {M : g_M} {Q : Int → g_M → Prop} {a0 : Nat} {v1 : Int} (hv1 : g_InR v1) {v2 : Int} (hv2 : g_InR v2) {v3 : Int} (hv3 : g_InR v3) {v4 : Int} (hv4 : g_InR v4) {v5 : Int} (hv5 : g_InR v5) (h : g_ok M → ((v5 < 100000 → g_O M a0 1 ∧ ∃ b2, g_r M a0 0 = some b2 ∧ g_Call d 108 [.ref b2, g_n v4] M (g_qI fun r7 M4 => g_ext M M4 → g_ok M4 → g_InR r7 → ((r7 = 0 → Q 0 M4) ∧ (¬ r7 = 0 → ∃ b9, g_r M4 a0 0 = some b9 ∧ ∃ b11, g_r M4 a0 0 = some b11 ∧ g_Call d 121 [.ref b9, g_n v4, .ref b11, g_n v1, g_n 0] M4 (g_qI fun r16 M13 => g_ext M4 M13 → g_ok M13 → g_InR r16 → ((r16 = 0 → ∃ b87, g_r M13 a0 0 = some b87 ∧ g_Call d 111 [.ref b87, g_n v4] M13 (g_qI fun r92 M89 => g_ext M13 M89 → g_ok M89 → g_InR r92 → g_InR (r92 - v4) ∧ g_Call d 24 [.ref a0, g_n v4, g_n (r92 - v4), g_n 0] M89 (g_qI fun r98 M95 => g_ext M89 M95 → g_ok M95 → g_InR r98 → g_InR (v5 + 1) ∧ g_Run d 36 20 [(0, .ref a0), (1, g_n v1), (2, g_n v2), (3, g_n v3), (4, g_n v4), (5, g_n (v5 + 1))] [] M95 (g_qI Q)))) ∧ (¬ r16 = 0 → g_InR (v4 + 1) ∧ ∃ b19, g_r M13 a0 0 = some b19 ∧ g_Call d 110 [.ref b19, g_n v4] M13 (g_qI fun r24 M21 => g_ext M13 M21 → g_ok M21 → g_InR r24 → g_InR (r24 - 1) ∧ ∃ b27, g_r M21 a0 0 = some b27 ∧ g_Call d 125 [.ref b27, g_n (v4 + 1), g_n (r24 - 1), g_n v3] M21 (g_qI fun r32 M29 => g_ext M21 M29 → g_ok M29 → g_InR r32 → ((r32 = 0 → g_InR ((r24 - 1) + 1) ∧ g_InR (((r24 - 1) + 1) - v4) ∧ g_Call d 31 [g_n v3] M29 (g_qI fun r48 M45 => g_ext M29 M45 → g_ok M45 → g_InR r48 → g_InR (r48 + 2) ∧ g_Call d 24 [.ref a0, g_n v4, g_n (((r24 - 1) + 1) - v4), g_n (r48 + 2)] M45 (g_qI fun r54 M51 => g_ext M45 M51 → g_ok M51 → g_InR r54 → ((r54 = 0 → g_InR (v3 + 1) ∧ ∃ b57, g_r M51 a0 0 = some b57 ∧ g_Call d 111 [.ref b57, g_n v4] M51 (g_qI fun r62 M59 => g_ext M51 M59 → g_ok M59 → g_InR r62 → g_InR (v5 + 1) ∧ g_Run d 36 20 [(0, .ref a0), (1, g_n v1), (2, g_n v2), (3, g_n (v3 + 1)), (4, g_n r62), (5, g_n (v5 + 1))] [] M59 (g_qI Q))) ∧ (¬ r54 = 0 → ∃ b65, g_r M51 a0 3 = some b65 ∧ ∃ b67, g_r M51 a0 0 = some b67 ∧ g_Call d 108 [.ref b67, g_n v4] M51 (g_qI fun r72 M69 => g_ext M51 M69 → g_ok M69 → g_InR r72 → g_O M69 b65 4 ∧ g_Call d 83 [.ref b65, g_n r72, g_n v3] M69 (g_qV fun M75 => g_ext M69 M75 → g_ok M75 → g_InR (v3 + 1) ∧ ∃ b79, g_r M75 a0 0 = some b79 ∧ g_Call d 111 [.ref b79, g_n v4] M75 (g_qI fun r84 M81 => g_ext M75 M81 → g_ok M81 → g_InR r84 → g_InR (v5 + 1) ∧ g_Run d 36 20 [(0, .ref a0), (1, g_n v1), (2, g_n v2), (3, g_n (v3 + 1)), (4, g_n r84), (5, g_n (v5 + 1))] [] M81 (g_qI Q))))))))) ∧ (¬ r32 = 0 → g_InR (v3 + 1) ∧ ∃ b35, g_r M29 a0 0 = some b35 ∧ g_Call d 111 [.ref b35, g_n v4] M29 (g_qI fun r40 M37 => g_ext M29 M37 → g_ok M37 → g_InR r40 → g_InR (v5 + 1) ∧ g_Run d 36 20 [(0, .ref a0), (1, g_n v1), (2, g_n v2), (3, g_n (v3 + 1)), (4, g_n r40), (5, g_n (v5 + 1))] [] M37 (g_qI Q))))))))))))) ∧ (¬ v5 < 100000 → Q 0 M))) : g_Run d 36 20 [(0, .ref a0), (1, g_n v1), (2, g_n v2), (3, g_n v3), (4, g_n v4), (5, g_n v5)] [] M (g_qI Q) := by
  refine g_Run.ok fun hok => ?_
  replace h := h hok
  refine r_iload x_36_20 rfl ?_
  refine r_ldc x_36_22 (v := g_n 100000) rfl ?_
  refine r_ic_ge x_36_24 (t := 173) (by decide +kernel) hv5 (g_Rk rfl) (fun hc => ?_) (fun hc => ?_)
  · replace h := h.2 hc
    refine r_iconst x_36_173 ?_
    exact r_retI x_36_174 rfl (g_Rk rfl) h
  · replace h := h.1 hc
    refine r_aload_n x_36_27 rfl ?_
    obtain ⟨hO1, h⟩ := h
    obtain ⟨b2, hb3, h⟩ := h
    refine r_getR x_36_28 rfl (ci := 1) (k := 0) (ns := 0) (by decide +kernel) (by decide) rfl (kz := 0) rfl hO1 hb3 ?_
    refine r_iload x_36_31 rfl ?_
    refine r_invS x_36_33 (z := 108) (ns := 1) (by decide +kernel) (as := [.ref b2, g_n v4]) (r := []) rfl rfl rfl ?_
    refine r_callI h fun r7 M4 hx5 hok6 hr8 h => ?_
    replace h := h hx5 hok6 hr8
    replace hO1 := hO1.up hx5
    refine r_if_eq x_36_36 (t := 173) (by decide +kernel) hr8 (fun hc => ?_) (fun hc => ?_)
    · replace h := h.1 hc
      refine r_iconst x_36_173 ?_
      exact r_retI x_36_174 rfl (g_Rk rfl) h
    · replace h := h.2 hc
      refine r_aload_n x_36_39 rfl ?_
      obtain ⟨b9, hb10, h⟩ := h
      refine r_getR x_36_40 rfl (ci := 1) (k := 0) (ns := 0) (by decide +kernel) (by decide) rfl (kz := 0) rfl hO1 hb10 ?_
      refine r_iload x_36_43 rfl ?_
      refine r_aload_n x_36_45 rfl ?_
      obtain ⟨b11, hb12, h⟩ := h
      refine r_getR x_36_46 rfl (ci := 1) (k := 0) (ns := 0) (by decide +kernel) (by decide) rfl (kz := 0) rfl hO1 hb12 ?_
      refine r_iload_n x_36_49 rfl ?_
      refine r_iconst x_36_50 ?_
      refine r_invS x_36_51 (z := 121) (ns := 1) (by decide +kernel) (as := [.ref b9, g_n v4, .ref b11, g_n v1, g_n 0]) (r := []) rfl rfl rfl ?_
      refine r_callI h fun r16 M13 hx14 hok15 hr17 h => ?_
      replace h := h hx14 hok15 hr17
      replace hO1 := hO1.up hx14
      refine r_if_ne x_36_54 (t := 80) (by decide +kernel) hr17 (fun hc => ?_) (fun hc => ?_)
      · replace h := h.2 hc
        refine r_iload x_36_80 rfl ?_
        refine r_iconst x_36_82 ?_
        refine r_iadd x_36_83 ?_
        obtain ⟨h18, h⟩ := h
        refine r_istore x_36_84 (by decide +kernel) rfl (lv1 := [(0, .ref a0), (1, g_n v1), (2, g_n v2), (3, g_n v3), (4, g_n v4), (5, g_n v5), (6, g_n (v4 + 1))]) rfl ?_
        refine r_aload_n x_36_86 rfl ?_
        obtain ⟨b19, hb20, h⟩ := h
        refine r_getR x_36_87 rfl (ci := 1) (k := 0) (ns := 0) (by decide +kernel) (by decide) rfl (kz := 0) rfl hO1 hb20 ?_
        refine r_iload x_36_90 rfl ?_
        refine r_invS x_36_92 (z := 110) (ns := 1) (by decide +kernel) (as := [.ref b19, g_n v4]) (r := []) rfl rfl rfl ?_
        refine r_callI h fun r24 M21 hx22 hok23 hr25 h => ?_
        replace h := h hx22 hok23 hr25
        replace hO1 := hO1.up hx22
        refine r_iconst x_36_95 ?_
        refine r_isub x_36_96 ?_
        obtain ⟨h26, h⟩ := h
        refine r_istore x_36_97 (by decide +kernel) rfl (lv1 := [(0, .ref a0), (1, g_n v1), (2, g_n v2), (3, g_n v3), (4, g_n v4), (5, g_n v5), (6, g_n (v4 + 1)), (7, g_n (r24 - 1))]) rfl ?_
        refine r_aload_n x_36_99 rfl ?_
        obtain ⟨b27, hb28, h⟩ := h
        refine r_getR x_36_100 rfl (ci := 1) (k := 0) (ns := 0) (by decide +kernel) (by decide) rfl (kz := 0) rfl hO1 hb28 ?_
        refine r_iload x_36_103 rfl ?_
        refine r_iload x_36_105 rfl ?_
        refine r_iload_n x_36_107 rfl ?_
        refine r_invS x_36_108 (z := 125) (ns := 1) (by decide +kernel) (as := [.ref b27, g_n (v4 + 1), g_n (r24 - 1), g_n v3]) (r := []) rfl rfl rfl ?_
        refine r_callI h fun r32 M29 hx30 hok31 hr33 h => ?_
        replace h := h hx30 hok31 hr33
        replace hO1 := hO1.up hx30
        refine r_if_ne x_36_111 (t := 153) (by decide +kernel) hr33 (fun hc => ?_) (fun hc => ?_)
        · replace h := h.2 hc
          obtain ⟨h34, h⟩ := h
          refine r_iinc x_36_153 (by decide +kernel) rfl rfl (lv1 := [(0, .ref a0), (1, g_n v1), (2, g_n v2), (3, g_n (v3 + 1)), (4, g_n v4), (5, g_n v5), (6, g_n (v4 + 1)), (7, g_n (r24 - 1))]) rfl ?_
          refine r_aload_n x_36_156 rfl ?_
          obtain ⟨b35, hb36, h⟩ := h
          refine r_getR x_36_157 rfl (ci := 1) (k := 0) (ns := 0) (by decide +kernel) (by decide) rfl (kz := 0) rfl hO1 hb36 ?_
          refine r_iload x_36_160 rfl ?_
          refine r_invS x_36_162 (z := 111) (ns := 1) (by decide +kernel) (as := [.ref b35, g_n v4]) (r := []) rfl rfl rfl ?_
          refine r_callI h fun r40 M37 hx38 hok39 hr41 h => ?_
          replace h := h hx38 hok39 hr41
          replace hO1 := hO1.up hx38
          refine r_istore x_36_165 (by decide +kernel) rfl (lv1 := [(0, .ref a0), (1, g_n v1), (2, g_n v2), (3, g_n (v3 + 1)), (4, g_n r40), (5, g_n v5), (6, g_n (v4 + 1)), (7, g_n (r24 - 1))]) rfl ?_
          obtain ⟨h42, h⟩ := h
          refine r_iinc x_36_167 (by decide +kernel) rfl rfl (lv1 := [(0, .ref a0), (1, g_n v1), (2, g_n v2), (3, g_n (v3 + 1)), (4, g_n r40), (5, g_n (v5 + 1)), (6, g_n (v4 + 1)), (7, g_n (r24 - 1))]) rfl ?_
          refine r_goto x_36_170 (t := 20) (by decide +kernel) ?_
          refine g_drop [0, 1, 2, 3, 4, 5] (lv1 := [(0, .ref a0), (1, g_n v1), (2, g_n v2), (3, g_n (v3 + 1)), (4, g_n r40), (5, g_n (v5 + 1))]) rfl ?_
          exact h
        · replace h := h.1 hc
          refine r_aload_n x_36_114 rfl ?_
          refine r_iload x_36_115 rfl ?_
          refine r_iload x_36_117 rfl ?_
          refine r_iconst x_36_119 ?_
          refine r_iadd x_36_120 ?_
          obtain ⟨h43, h⟩ := h
          refine r_iload x_36_121 rfl ?_
          refine r_isub x_36_123 ?_
          obtain ⟨h44, h⟩ := h
          refine r_iload_n x_36_124 rfl ?_
          refine r_invS x_36_125 (z := 31) (ns := 0) (by decide +kernel) (as := [g_n v3]) (r := [g_n (((r24 - 1) + 1) - v4), g_n v4, .ref a0]) rfl rfl rfl ?_
          refine r_callI h fun r48 M45 hx46 hok47 hr49 h => ?_
          replace h := h hx46 hok47 hr49
          replace hO1 := hO1.up hx46
          refine r_iconst x_36_128 ?_
          refine r_iadd x_36_129 ?_
          obtain ⟨h50, h⟩ := h
          refine r_invV x_36_130 (z := 24) (ns := 0) (by decide +kernel) (as := [g_n v4, g_n (((r24 - 1) + 1) - v4), g_n (r48 + 2)]) (r := []) rfl rfl rfl hO1 rfl rfl ?_
          refine r_callI h fun r54 M51 hx52 hok53 hr55 h => ?_
          replace h := h hx52 hok53 hr55
          replace hO1 := hO1.up hx52
          refine r_if_eq x_36_133 (t := 153) (by decide +kernel) hr55 (fun hc => ?_) (fun hc => ?_)
          · replace h := h.1 hc
            obtain ⟨h56, h⟩ := h
            refine r_iinc x_36_153 (by decide +kernel) rfl rfl (lv1 := [(0, .ref a0), (1, g_n v1), (2, g_n v2), (3, g_n (v3 + 1)), (4, g_n v4), (5, g_n v5), (6, g_n (v4 + 1)), (7, g_n (r24 - 1))]) rfl ?_
            refine r_aload_n x_36_156 rfl ?_
            obtain ⟨b57, hb58, h⟩ := h
            refine r_getR x_36_157 rfl (ci := 1) (k := 0) (ns := 0) (by decide +kernel) (by decide) rfl (kz := 0) rfl hO1 hb58 ?_
            refine r_iload x_36_160 rfl ?_
            refine r_invS x_36_162 (z := 111) (ns := 1) (by decide +kernel) (as := [.ref b57, g_n v4]) (r := []) rfl rfl rfl ?_
            refine r_callI h fun r62 M59 hx60 hok61 hr63 h => ?_
            replace h := h hx60 hok61 hr63
            replace hO1 := hO1.up hx60
            refine r_istore x_36_165 (by decide +kernel) rfl (lv1 := [(0, .ref a0), (1, g_n v1), (2, g_n v2), (3, g_n (v3 + 1)), (4, g_n r62), (5, g_n v5), (6, g_n (v4 + 1)), (7, g_n (r24 - 1))]) rfl ?_
            obtain ⟨h64, h⟩ := h
            refine r_iinc x_36_167 (by decide +kernel) rfl rfl (lv1 := [(0, .ref a0), (1, g_n v1), (2, g_n v2), (3, g_n (v3 + 1)), (4, g_n r62), (5, g_n (v5 + 1)), (6, g_n (v4 + 1)), (7, g_n (r24 - 1))]) rfl ?_
            refine r_goto x_36_170 (t := 20) (by decide +kernel) ?_
            refine g_drop [0, 1, 2, 3, 4, 5] (lv1 := [(0, .ref a0), (1, g_n v1), (2, g_n v2), (3, g_n (v3 + 1)), (4, g_n r62), (5, g_n (v5 + 1))]) rfl ?_
            exact h
          · replace h := h.2 hc
            refine r_aload_n x_36_136 rfl ?_
            obtain ⟨b65, hb66, h⟩ := h
            refine r_getR x_36_137 rfl (ci := 1) (k := 3) (ns := 0) (by decide +kernel) (by decide) rfl (kz := 3) rfl hO1 hb66 ?_
            refine r_aload_n x_36_140 rfl ?_
            obtain ⟨b67, hb68, h⟩ := h
            refine r_getR x_36_141 rfl (ci := 1) (k := 0) (ns := 0) (by decide +kernel) (by decide) rfl (kz := 0) rfl hO1 hb68 ?_
            refine r_iload x_36_144 rfl ?_
            refine r_invS x_36_146 (z := 108) (ns := 1) (by decide +kernel) (as := [.ref b67, g_n v4]) (r := [.ref b65]) rfl rfl rfl ?_
            refine r_callI h fun r72 M69 hx70 hok71 hr73 h => ?_
            replace h := h hx70 hok71 hr73
            replace hO1 := hO1.up hx70
            refine r_iload_n x_36_149 rfl ?_
            obtain ⟨hO74, h⟩ := h
            refine r_invV x_36_150 (z := 83) (ns := 1) (by decide +kernel) (as := [g_n r72, g_n v3]) (r := []) rfl rfl rfl hO74 rfl rfl ?_
            refine r_callV h fun M75 hx76 hok77 h => ?_
            replace h := h hx76 hok77
            replace hO1 := hO1.up hx76
            replace hO74 := hO74.up hx76
            obtain ⟨h78, h⟩ := h
            refine r_iinc x_36_153 (by decide +kernel) rfl rfl (lv1 := [(0, .ref a0), (1, g_n v1), (2, g_n v2), (3, g_n (v3 + 1)), (4, g_n v4), (5, g_n v5), (6, g_n (v4 + 1)), (7, g_n (r24 - 1))]) rfl ?_
            refine r_aload_n x_36_156 rfl ?_
            obtain ⟨b79, hb80, h⟩ := h
            refine r_getR x_36_157 rfl (ci := 1) (k := 0) (ns := 0) (by decide +kernel) (by decide) rfl (kz := 0) rfl hO1 hb80 ?_
            refine r_iload x_36_160 rfl ?_
            refine r_invS x_36_162 (z := 111) (ns := 1) (by decide +kernel) (as := [.ref b79, g_n v4]) (r := []) rfl rfl rfl ?_
            refine r_callI h fun r84 M81 hx82 hok83 hr85 h => ?_
            replace h := h hx82 hok83 hr85
            replace hO1 := hO1.up hx82
            replace hO74 := hO74.up hx82
            refine r_istore x_36_165 (by decide +kernel) rfl (lv1 := [(0, .ref a0), (1, g_n v1), (2, g_n v2), (3, g_n (v3 + 1)), (4, g_n r84), (5, g_n v5), (6, g_n (v4 + 1)), (7, g_n (r24 - 1))]) rfl ?_
            obtain ⟨h86, h⟩ := h
            refine r_iinc x_36_167 (by decide +kernel) rfl rfl (lv1 := [(0, .ref a0), (1, g_n v1), (2, g_n v2), (3, g_n (v3 + 1)), (4, g_n r84), (5, g_n (v5 + 1)), (6, g_n (v4 + 1)), (7, g_n (r24 - 1))]) rfl ?_
            refine r_goto x_36_170 (t := 20) (by decide +kernel) ?_
            refine g_drop [0, 1, 2, 3, 4, 5] (lv1 := [(0, .ref a0), (1, g_n v1), (2, g_n v2), (3, g_n (v3 + 1)), (4, g_n r84), (5, g_n (v5 + 1))]) rfl ?_
            exact h
      · replace h := h.1 hc
        refine r_aload_n x_36_57 rfl ?_
        refine r_iload x_36_58 rfl ?_
        refine r_aload_n x_36_60 rfl ?_
        obtain ⟨b87, hb88, h⟩ := h
        refine r_getR x_36_61 rfl (ci := 1) (k := 0) (ns := 0) (by decide +kernel) (by decide) rfl (kz := 0) rfl hO1 hb88 ?_
        refine r_iload x_36_64 rfl ?_
        refine r_invS x_36_66 (z := 111) (ns := 1) (by decide +kernel) (as := [.ref b87, g_n v4]) (r := [g_n v4, .ref a0]) rfl rfl rfl ?_
        refine r_callI h fun r92 M89 hx90 hok91 hr93 h => ?_
        replace h := h hx90 hok91 hr93
        replace hO1 := hO1.up hx90
        refine r_iload x_36_69 rfl ?_
        refine r_isub x_36_71 ?_
        obtain ⟨h94, h⟩ := h
        refine r_iconst x_36_72 ?_
        refine r_invV x_36_73 (z := 24) (ns := 0) (by decide +kernel) (as := [g_n v4, g_n (r92 - v4), g_n 0]) (r := []) rfl rfl rfl hO1 rfl rfl ?_
        refine r_callI h fun r98 M95 hx96 hok97 hr99 h => ?_
        replace h := h hx96 hok97 hr99
        replace hO1 := hO1.up hx96
        refine r_pop x_36_76 rfl ?_
        refine r_goto x_36_77 (t := 167) (by decide +kernel) ?_
        obtain ⟨h100, h⟩ := h
        refine r_iinc x_36_167 (by decide +kernel) rfl rfl (lv1 := [(0, .ref a0), (1, g_n v1), (2, g_n v2), (3, g_n v3), (4, g_n v4), (5, g_n (v5 + 1))]) rfl ?_
        refine r_goto x_36_170 (t := 20) (by decide +kernel) ?_
        exact h
