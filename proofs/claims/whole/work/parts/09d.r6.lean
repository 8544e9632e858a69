theorem x_96_0 : decode (q_code 96) 0 = .ok (.aload_n 0, 1) := by decide +kernel
theorem x_96_1 : decode (q_code 96) 1 = .ok (.iconst 4, 1) := by decide +kernel
theorem x_96_2 : decode (q_code 96) 2 = .ok (.iconst 4, 1) := by decide +kernel
theorem x_96_3 : decode (q_code 96) 3 = .ok (.iload_n 1, 1) := by decide +kernel
theorem x_96_4 : decode (q_code 96) 4 = .ok (.iadd, 1) := by decide +kernel
theorem x_96_5 : decode (q_code 96) 5 = .ok (.iconst 3, 1) := by decide +kernel
theorem x_96_6 : decode (q_code 96) 6 = .ok (.iconst 1, 1) := by decide +kernel
theorem x_96_7 : decode (q_code 96) 7 = .ok (.invokevirtual 15, 3) := by decide +kernel
theorem x_96_10 : decode (q_code 96) 10 = .ok (.ifCond .lt 7, 3) := by decide +kernel
theorem x_96_13 : decode (q_code 96) 13 = .ok (.iconst 1, 1) := by decide +kernel
theorem x_96_14 : decode (q_code 96) 14 = .ok (.goto 4, 3) := by decide +kernel
theorem x_96_17 : decode (q_code 96) 17 = .ok (.iconst 0, 1) := by decide +kernel
theorem x_96_18 : decode (q_code 96) 18 = .ok (.ireturn, 1) := by decide +kernel
theorem x_97_0 : decode (q_code 97) 0 = .ok (.aload_n 0, 1) := by decide +kernel
theorem x_97_1 : decode (q_code 97) 1 = .ok (.iload_n 1, 1) := by decide +kernel
theorem x_97_2 : decode (q_code 97) 2 = .ok (.putfield 19, 3) := by decide +kernel
theorem x_97_5 : decode (q_code 97) 5 = .ok (.aload_n 0, 1) := by decide +kernel
theorem x_97_6 : decode (q_code 97) 6 = .ok (.iload_n 2, 1) := by decide +kernel
theorem x_97_7 : decode (q_code 97) 7 = .ok (.iconst 4, 1) := by decide +kernel
theorem x_97_8 : decode (q_code 97) 8 = .ok (.isub, 1) := by decide +kernel
theorem x_97_9 : decode (q_code 97) 9 = .ok (.putfield 23, 3) := by decide +kernel
theorem x_97_12 : decode (q_code 97) 12 = .ok (.iconst (-1), 1) := by decide +kernel
theorem x_97_13 : decode (q_code 97) 13 = .ok (.ireturn, 1) := by decide +kernel
theorem x_98_0 : decode (q_code 98) 0 = .ok (.iload_n 2, 1) := by decide +kernel
theorem x_98_1 : decode (q_code 98) 1 = .ok (.iload_n 1, 1) := by decide +kernel
theorem x_98_2 : decode (q_code 98) 2 = .ok (.isub, 1) := by decide +kernel
theorem x_98_3 : decode (q_code 98) 3 = .ok (.istore 5, 2) := by decide +kernel
theorem x_98_5 : decode (q_code 98) 5 = .ok (.iload 5, 2) := by decide +kernel
theorem x_98_7 : decode (q_code 98) 7 = .ok (.iconst 4, 1) := by decide +kernel
theorem x_98_8 : decode (q_code 98) 8 = .ok (.if_icmp .ge 10, 3) := by decide +kernel
theorem x_98_11 : decode (q_code 98) 11 = .ok (.aload_n 0, 1) := by decide +kernel
theorem x_98_12 : decode (q_code 98) 12 = .ok (.iconst 1, 1) := by decide +kernel
theorem x_98_13 : decode (q_code 98) 13 = .ok (.iload_n 1, 1) := by decide +kernel
theorem x_98_14 : decode (q_code 98) 14 = .ok (.invokevirtual 26, 3) := by decide +kernel
theorem x_98_17 : decode (q_code 98) 17 = .ok (.ireturn, 1) := by decide +kernel
theorem x_98_18 : decode (q_code 98) 18 = .ok (.aload_n 0, 1) := by decide +kernel
theorem x_98_19 : decode (q_code 98) 19 = .ok (.getfield 9, 3) := by decide +kernel
theorem x_98_22 : decode (q_code 98) 22 = .ok (.iload_n 1, 1) := by decide +kernel
theorem x_98_23 : decode (q_code 98) 23 = .ok (.invokestatic 30, 3) := by decide +kernel
theorem x_98_26 : decode (q_code 98) 26 = .ok (.i2l, 1) := by decide +kernel
theorem x_98_27 : decode (q_code 98) 27 = .ok (.ldc2_w 36, 3) := by decide +kernel
theorem x_98_30 : decode (q_code 98) 30 = .ok (.land, 1) := by decide +kernel
theorem x_98_31 : decode (q_code 98) 31 = .ok (.lstore 6, 2) := by decide +kernel
theorem x_98_33 : decode (q_code 98) 33 = .ok (.lload 6, 2) := by decide +kernel
theorem x_98_35 : decode (q_code 98) 35 = .ok (.ldc2_w 38, 3) := by decide +kernel
theorem x_98_38 : decode (q_code 98) 38 = .ok (.lcmp, 1) := by decide +kernel
theorem x_98_39 : decode (q_code 98) 39 = .ok (.ifCond .lt 18, 3) := by decide +kernel
theorem x_98_42 : decode (q_code 98) 42 = .ok (.iload 4, 2) := by decide +kernel
theorem x_98_44 : decode (q_code 98) 44 = .ok (.iconst 1, 1) := by decide +kernel
theorem x_98_45 : decode (q_code 98) 45 = .ok (.if_icmp .ne 19, 3) := by decide +kernel
theorem x_98_48 : decode (q_code 98) 48 = .ok (.lload 6, 2) := by decide +kernel
theorem x_98_50 : decode (q_code 98) 50 = .ok (.iload 5, 2) := by decide +kernel
theorem x_98_52 : decode (q_code 98) 52 = .ok (.i2l, 1) := by decide +kernel
theorem x_98_53 : decode (q_code 98) 53 = .ok (.lcmp, 1) := by decide +kernel
theorem x_98_54 : decode (q_code 98) 54 = .ok (.ifCond .ge 10, 3) := by decide +kernel
theorem x_98_57 : decode (q_code 98) 57 = .ok (.aload_n 0, 1) := by decide +kernel
theorem x_98_58 : decode (q_code 98) 58 = .ok (.iconst 2, 1) := by decide +kernel
theorem x_98_59 : decode (q_code 98) 59 = .ok (.iload_n 1, 1) := by decide +kernel
theorem x_98_60 : decode (q_code 98) 60 = .ok (.invokevirtual 26, 3) := by decide +kernel
theorem x_98_63 : decode (q_code 98) 63 = .ok (.ireturn, 1) := by decide +kernel
theorem x_98_64 : decode (q_code 98) 64 = .ok (.lload 6, 2) := by decide +kernel
theorem x_98_66 : decode (q_code 98) 66 = .ok (.iload 5, 2) := by decide +kernel
theorem x_98_68 : decode (q_code 98) 68 = .ok (.i2l, 1) := by decide +kernel
theorem x_98_69 : decode (q_code 98) 69 = .ok (.lcmp, 1) := by decide +kernel
theorem x_98_70 : decode (q_code 98) 70 = .ok (.ifCond .le 10, 3) := by decide +kernel
theorem x_98_73 : decode (q_code 98) 73 = .ok (.aload_n 0, 1) := by decide +kernel
theorem x_98_74 : decode (q_code 98) 74 = .ok (.iconst 1, 1) := by decide +kernel
theorem x_98_75 : decode (q_code 98) 75 = .ok (.iload_n 1, 1) := by decide +kernel
theorem x_98_76 : decode (q_code 98) 76 = .ok (.invokevirtual 26, 3) := by decide +kernel
theorem x_98_79 : decode (q_code 98) 79 = .ok (.ireturn, 1) := by decide +kernel
theorem x_98_80 : decode (q_code 98) 80 = .ok (.iload 4, 2) := by decide +kernel
theorem x_98_82 : decode (q_code 98) 82 = .ok (.bipush 16, 2) := by decide +kernel
theorem x_98_84 : decode (q_code 98) 84 = .ok (.if_icmp .le 11, 3) := by decide +kernel
theorem x_98_87 : decode (q_code 98) 87 = .ok (.aload_n 0, 1) := by decide +kernel
theorem x_98_88 : decode (q_code 98) 88 = .ok (.bipush 8, 2) := by decide +kernel
theorem x_98_90 : decode (q_code 98) 90 = .ok (.iload_n 1, 1) := by decide +kernel
theorem x_98_91 : decode (q_code 98) 91 = .ok (.invokevirtual 26, 3) := by decide +kernel
theorem x_98_94 : decode (q_code 98) 94 = .ok (.ireturn, 1) := by decide +kernel
theorem x_98_95 : decode (q_code 98) 95 = .ok (.iload_n 1, 1) := by decide +kernel
theorem x_98_96 : decode (q_code 98) 96 = .ok (.lload 6, 2) := by decide +kernel
theorem x_98_98 : decode (q_code 98) 98 = .ok (.l2i, 1) := by decide +kernel
theorem x_98_99 : decode (q_code 98) 99 = .ok (.iadd, 1) := by decide +kernel
theorem x_98_100 : decode (q_code 98) 100 = .ok (.iconst 1, 1) := by decide +kernel
theorem x_98_101 : decode (q_code 98) 101 = .ok (.isub, 1) := by decide +kernel
theorem x_98_102 : decode (q_code 98) 102 = .ok (.istore 8, 2) := by decide +kernel
theorem x_98_104 : decode (q_code 98) 104 = .ok (.iload_n 1, 1) := by decide +kernel
theorem x_98_105 : decode (q_code 98) 105 = .ok (.iconst 4, 1) := by decide +kernel
theorem x_98_106 : decode (q_code 98) 106 = .ok (.iadd, 1) := by decide +kernel
theorem x_98_107 : decode (q_code 98) 107 = .ok (.istore 9, 2) := by decide +kernel
theorem x_98_109 : decode (q_code 98) 109 = .ok (.iconst 0, 1) := by decide +kernel
theorem x_98_110 : decode (q_code 98) 110 = .ok (.istore 10, 2) := by decide +kernel
theorem x_98_112 : decode (q_code 98) 112 = .ok (.iload 10, 2) := by decide +kernel
theorem x_98_114 : decode (q_code 98) 114 = .ok (.sipush 2000, 3) := by decide +kernel
theorem x_98_117 : decode (q_code 98) 117 = .ok (.if_icmp .ge 49, 3) := by decide +kernel
theorem x_98_120 : decode (q_code 98) 120 = .ok (.iload 9, 2) := by decide +kernel
theorem x_98_122 : decode (q_code 98) 122 = .ok (.iload 8, 2) := by decide +kernel
theorem x_98_124 : decode (q_code 98) 124 = .ok (.if_icmp .ge 42, 3) := by decide +kernel
theorem x_98_127 : decode (q_code 98) 127 = .ok (.aload_n 0, 1) := by decide +kernel
theorem x_98_128 : decode (q_code 98) 128 = .ok (.iload_n 1, 1) := by decide +kernel
theorem x_98_129 : decode (q_code 98) 129 = .ok (.iconst 4, 1) := by decide +kernel
theorem x_98_130 : decode (q_code 98) 130 = .ok (.iadd, 1) := by decide +kernel
theorem x_98_131 : decode (q_code 98) 131 = .ok (.iload 9, 2) := by decide +kernel
theorem x_98_133 : decode (q_code 98) 133 = .ok (.iload 8, 2) := by decide +kernel
theorem x_98_135 : decode (q_code 98) 135 = .ok (.iload_n 3, 1) := by decide +kernel
theorem x_98_136 : decode (q_code 98) 136 = .ok (.iconst 4, 1) := by decide +kernel
theorem x_98_137 : decode (q_code 98) 137 = .ok (.if_icmp .ne 8, 3) := by decide +kernel
theorem x_98_140 : decode (q_code 98) 140 = .ok (.iload 10, 2) := by decide +kernel
theorem x_98_142 : decode (q_code 98) 142 = .ok (.goto 4, 3) := by decide +kernel
theorem x_98_145 : decode (q_code 98) 145 = .ok (.iconst (-1), 1) := by decide +kernel
theorem x_98_146 : decode (q_code 98) 146 = .ok (.iload 4, 2) := by decide +kernel
theorem x_98_148 : decode (q_code 98) 148 = .ok (.invokevirtual 40, 3) := by decide +kernel
theorem x_98_151 : decode (q_code 98) 151 = .ok (.istore 9, 2) := by decide +kernel
theorem x_98_153 : decode (q_code 98) 153 = .ok (.iload 9, 2) := by decide +kernel
theorem x_98_155 : decode (q_code 98) 155 = .ok (.ifCond .ge 5, 3) := by decide +kernel
theorem x_98_158 : decode (q_code 98) 158 = .ok (.iconst (-1), 1) := by decide +kernel
theorem x_98_159 : decode (q_code 98) 159 = .ok (.ireturn, 1) := by decide +kernel
theorem x_98_160 : decode (q_code 98) 160 = .ok (.iinc 10 1, 3) := by decide +kernel
theorem x_98_163 : decode (q_code 98) 163 = .ok (.goto (-51), 3) := by decide +kernel
theorem x_98_166 : decode (q_code 98) 166 = .ok (.aload_n 0, 1) := by decide +kernel
theorem x_98_167 : decode (q_code 98) 167 = .ok (.getfield 9, 3) := by decide +kernel
theorem x_98_170 : decode (q_code 98) 170 = .ok (.iload 8, 2) := by decide +kernel
theorem x_98_172 : decode (q_code 98) 172 = .ok (.baload, 1) := by decide +kernel
theorem x_98_173 : decode (q_code 98) 173 = .ok (.ifCond .ne 10, 3) := by decide +kernel
theorem x_98_176 : decode (q_code 98) 176 = .ok (.iload 8, 2) := by decide +kernel
theorem x_98_178 : decode (q_code 98) 178 = .ok (.iconst 1, 1) := by decide +kernel
theorem x_98_179 : decode (q_code 98) 179 = .ok (.iadd, 1) := by decide +kernel
theorem x_98_180 : decode (q_code 98) 180 = .ok (.goto 10, 3) := by decide +kernel
theorem x_98_183 : decode (q_code 98) 183 = .ok (.aload_n 0, 1) := by decide +kernel
theorem x_98_184 : decode (q_code 98) 184 = .ok (.iconst 2, 1) := by decide +kernel
theorem x_98_185 : decode (q_code 98) 185 = .ok (.iload 8, 2) := by decide +kernel
theorem x_98_187 : decode (q_code 98) 187 = .ok (.invokevirtual 26, 3) := by decide +kernel
theorem x_98_190 : decode (q_code 98) 190 = .ok (.ireturn, 1) := by decide +kernel
theorem x_99_0 : decode (q_code 99) 0 = .ok (.aload_n 0, 1) := by decide +kernel
theorem x_99_1 : decode (q_code 99) 1 = .ok (.getfield 9, 3) := by decide +kernel
theorem x_99_4 : decode (q_code 99) 4 = .ok (.iload_n 2, 1) := by decide +kernel
theorem x_99_5 : decode (q_code 99) 5 = .ok (.baload, 1) := by decide +kernel
theorem x_99_6 : decode (q_code 99) 6 = .ok (.istore 6, 2) := by decide +kernel
theorem x_99_8 : decode (q_code 99) 8 = .ok (.iload 6, 2) := by decide +kernel
theorem x_99_10 : decode (q_code 99) 10 = .ok (.ifCond .ne 10, 3) := by decide +kernel
theorem x_99_13 : decode (q_code 99) 13 = .ok (.aload_n 0, 1) := by decide +kernel
theorem x_99_14 : decode (q_code 99) 14 = .ok (.iconst 2, 1) := by decide +kernel
theorem x_99_15 : decode (q_code 99) 15 = .ok (.iload_n 2, 1) := by decide +kernel
theorem x_99_16 : decode (q_code 99) 16 = .ok (.invokevirtual 26, 3) := by decide +kernel
theorem x_99_19 : decode (q_code 99) 19 = .ok (.ireturn, 1) := by decide +kernel
theorem x_99_20 : decode (q_code 99) 20 = .ok (.iload 6, 2) := by decide +kernel
theorem x_99_22 : decode (q_code 99) 22 = .ok (.bipush 16, 2) := by decide +kernel
theorem x_99_24 : decode (q_code 99) 24 = .ok (.if_icmp .eq 49, 3) := by decide +kernel
theorem x_99_27 : decode (q_code 99) 27 = .ok (.iload 6, 2) := by decide +kernel
theorem x_99_29 : decode (q_code 99) 29 = .ok (.bipush 18, 2) := by decide +kernel
theorem x_99_31 : decode (q_code 99) 31 = .ok (.if_icmp .eq 42, 3) := by decide +kernel
theorem x_99_34 : decode (q_code 99) 34 = .ok (.iload 6, 2) := by decide +kernel
theorem x_99_36 : decode (q_code 99) 36 = .ok (.bipush 8, 2) := by decide +kernel
theorem x_99_38 : decode (q_code 99) 38 = .ok (.if_icmp .eq 35, 3) := by decide +kernel
theorem x_99_41 : decode (q_code 99) 41 = .ok (.iload 6, 2) := by decide +kernel
theorem x_99_43 : decode (q_code 99) 43 = .ok (.bipush 10, 2) := by decide +kernel
theorem x_99_45 : decode (q_code 99) 45 = .ok (.if_icmp .eq 28, 3) := by decide +kernel
theorem x_99_48 : decode (q_code 99) 48 = .ok (.iload 6, 2) := by decide +kernel
theorem x_99_50 : decode (q_code 99) 50 = .ok (.iconst 2, 1) := by decide +kernel
theorem x_99_51 : decode (q_code 99) 51 = .ok (.if_icmp .eq 22, 3) := by decide +kernel
theorem x_99_54 : decode (q_code 99) 54 = .ok (.iload 6, 2) := by decide +kernel
theorem x_99_56 : decode (q_code 99) 56 = .ok (.iconst 3, 1) := by decide +kernel
theorem x_99_57 : decode (q_code 99) 57 = .ok (.if_icmp .eq 16, 3) := by decide +kernel
theorem x_99_60 : decode (q_code 99) 60 = .ok (.iload 6, 2) := by decide +kernel
theorem x_99_62 : decode (q_code 99) 62 = .ok (.iconst 4, 1) := by decide +kernel
theorem x_99_63 : decode (q_code 99) 63 = .ok (.if_icmp .eq 10, 3) := by decide +kernel
theorem x_99_66 : decode (q_code 99) 66 = .ok (.aload_n 0, 1) := by decide +kernel
theorem x_99_67 : decode (q_code 99) 67 = .ok (.iconst 3, 1) := by decide +kernel
theorem x_99_68 : decode (q_code 99) 68 = .ok (.iload_n 2, 1) := by decide +kernel
theorem x_99_69 : decode (q_code 99) 69 = .ok (.invokevirtual 26, 3) := by decide +kernel
theorem x_99_72 : decode (q_code 99) 72 = .ok (.ireturn, 1) := by decide +kernel
theorem x_99_73 : decode (q_code 99) 73 = .ok (.iload_n 2, 1) := by decide +kernel
theorem x_99_74 : decode (q_code 99) 74 = .ok (.iconst 1, 1) := by decide +kernel
theorem x_99_75 : decode (q_code 99) 75 = .ok (.iadd, 1) := by decide +kernel
theorem x_99_76 : decode (q_code 99) 76 = .ok (.istore 7, 2) := by decide +kernel
theorem x_99_78 : decode (q_code 99) 78 = .ok (.aload_n 0, 1) := by decide +kernel
theorem x_99_79 : decode (q_code 99) 79 = .ok (.getfield 9, 3) := by decide +kernel
theorem x_99_82 : decode (q_code 99) 82 = .ok (.iload_n 2, 1) := by decide +kernel
theorem x_99_83 : decode (q_code 99) 83 = .ok (.invokestatic 44, 3) := by decide +kernel
theorem x_99_86 : decode (q_code 99) 86 = .ok (.iconst 1, 1) := by decide +kernel
theorem x_99_87 : decode (q_code 99) 87 = .ok (.isub, 1) := by decide +kernel
theorem x_99_88 : decode (q_code 99) 88 = .ok (.istore 8, 2) := by decide +kernel
theorem x_99_90 : decode (q_code 99) 90 = .ok (.iload 8, 2) := by decide +kernel
theorem x_99_92 : decode (q_code 99) 92 = .ok (.iload_n 3, 1) := by decide +kernel
theorem x_99_93 : decode (q_code 99) 93 = .ok (.if_icmp .ge 13, 3) := by decide +kernel
theorem x_99_96 : decode (q_code 99) 96 = .ok (.aload_n 0, 1) := by decide +kernel
theorem x_99_97 : decode (q_code 99) 97 = .ok (.getfield 9, 3) := by decide +kernel
theorem x_99_100 : decode (q_code 99) 100 = .ok (.iload 8, 2) := by decide +kernel
theorem x_99_102 : decode (q_code 99) 102 = .ok (.baload, 1) := by decide +kernel
theorem x_99_103 : decode (q_code 99) 103 = .ok (.ifCond .eq 11, 3) := by decide +kernel
theorem x_99_106 : decode (q_code 99) 106 = .ok (.aload_n 0, 1) := by decide +kernel
theorem x_99_107 : decode (q_code 99) 107 = .ok (.iconst 1, 1) := by decide +kernel
theorem x_99_108 : decode (q_code 99) 108 = .ok (.iload 7, 2) := by decide +kernel
theorem x_99_110 : decode (q_code 99) 110 = .ok (.invokevirtual 26, 3) := by decide +kernel
theorem x_99_113 : decode (q_code 99) 113 = .ok (.ireturn, 1) := by decide +kernel
theorem x_99_114 : decode (q_code 99) 114 = .ok (.aload_n 0, 1) := by decide +kernel
theorem x_99_115 : decode (q_code 99) 115 = .ok (.getfield 9, 3) := by decide +kernel
theorem x_99_118 : decode (q_code 99) 118 = .ok (.iload 7, 2) := by decide +kernel
theorem x_99_120 : decode (q_code 99) 120 = .ok (.iload 8, 2) := by decide +kernel
theorem x_99_122 : decode (q_code 99) 122 = .ok (.invokestatic 47, 3) := by decide +kernel
theorem x_99_125 : decode (q_code 99) 125 = .ok (.istore 9, 2) := by decide +kernel
theorem x_99_127 : decode (q_code 99) 127 = .ok (.iload 9, 2) := by decide +kernel
theorem x_99_129 : decode (q_code 99) 129 = .ok (.ifCond .lt 11, 3) := by decide +kernel
theorem x_99_132 : decode (q_code 99) 132 = .ok (.aload_n 0, 1) := by decide +kernel
theorem x_99_133 : decode (q_code 99) 133 = .ok (.iconst 4, 1) := by decide +kernel
theorem x_99_134 : decode (q_code 99) 134 = .ok (.iload 9, 2) := by decide +kernel
theorem x_99_136 : decode (q_code 99) 136 = .ok (.invokevirtual 26, 3) := by decide +kernel
theorem x_99_139 : decode (q_code 99) 139 = .ok (.ireturn, 1) := by decide +kernel
theorem x_99_140 : decode (q_code 99) 140 = .ok (.iload 4, 2) := by decide +kernel
theorem x_99_142 : decode (q_code 99) 142 = .ok (.ifCond .lt 22, 3) := by decide +kernel
theorem x_99_145 : decode (q_code 99) 145 = .ok (.aload_n 0, 1) := by decide +kernel
theorem x_99_146 : decode (q_code 99) 146 = .ok (.getfield 9, 3) := by decide +kernel
theorem x_99_149 : decode (q_code 99) 149 = .ok (.iload 7, 2) := by decide +kernel
theorem x_99_151 : decode (q_code 99) 151 = .ok (.iload 8, 2) := by decide +kernel
theorem x_99_153 : decode (q_code 99) 153 = .ok (.iload 4, 2) := by decide +kernel
theorem x_99_155 : decode (q_code 99) 155 = .ok (.invokestatic 51, 3) := by decide +kernel
theorem x_99_158 : decode (q_code 99) 158 = .ok (.ifCond .ne 26, 3) := by decide +kernel
theorem x_99_161 : decode (q_code 99) 161 = .ok (.goto 14, 3) := by decide +kernel
theorem x_99_164 : decode (q_code 99) 164 = .ok (.aload_n 0, 1) := by decide +kernel
theorem x_99_165 : decode (q_code 99) 165 = .ok (.iload_n 1, 1) := by decide +kernel
theorem x_99_166 : decode (q_code 99) 166 = .ok (.iload_n 2, 1) := by decide +kernel
theorem x_99_167 : decode (q_code 99) 167 = .ok (.iload 8, 2) := by decide +kernel
theorem x_99_169 : decode (q_code 99) 169 = .ok (.invokevirtual 55, 3) := by decide +kernel
theorem x_99_172 : decode (q_code 99) 172 = .ok (.ifCond .eq 12, 3) := by decide +kernel
theorem x_99_175 : decode (q_code 99) 175 = .ok (.aload_n 0, 1) := by decide +kernel
theorem x_99_176 : decode (q_code 99) 176 = .ok (.bipush 7, 2) := by decide +kernel
theorem x_99_178 : decode (q_code 99) 178 = .ok (.iload 7, 2) := by decide +kernel
theorem x_99_180 : decode (q_code 99) 180 = .ok (.invokevirtual 26, 3) := by decide +kernel
theorem x_99_183 : decode (q_code 99) 183 = .ok (.ireturn, 1) := by decide +kernel
theorem x_99_184 : decode (q_code 99) 184 = .ok (.aload_n 0, 1) := by decide +kernel
theorem x_99_185 : decode (q_code 99) 185 = .ok (.iload 6, 2) := by decide +kernel
theorem x_99_187 : decode (q_code 99) 187 = .ok (.iload 8, 2) := by decide +kernel
theorem x_99_189 : decode (q_code 99) 189 = .ok (.iconst 1, 1) := by decide +kernel
theorem x_99_190 : decode (q_code 99) 190 = .ok (.iadd, 1) := by decide +kernel
theorem x_99_191 : decode (q_code 99) 191 = .ok (.iload_n 3, 1) := by decide +kernel
theorem x_99_192 : decode (q_code 99) 192 = .ok (.iload 5, 2) := by decide +kernel
theorem x_99_194 : decode (q_code 99) 194 = .ok (.invokevirtual 59, 3) := by decide +kernel
theorem x_99_197 : decode (q_code 99) 197 = .ok (.ireturn, 1) := by decide +kernel
theorem x_100_0 : decode (q_code 100) 0 = .ok (.iload_n 1, 1) := by decide +kernel
theorem x_100_1 : decode (q_code 100) 1 = .ok (.istore 4, 2) := by decide +kernel
theorem x_100_3 : decode (q_code 100) 3 = .ok (.iconst 0, 1) := by decide +kernel
theorem x_100_4 : decode (q_code 100) 4 = .ok (.istore 5, 2) := by decide +kernel
theorem x_100_6 : decode (q_code 100) 6 = .ok (.iload 5, 2) := by decide +kernel
theorem x_100_8 : decode (q_code 100) 8 = .ok (.sipush 2000, 3) := by decide +kernel
theorem x_100_11 : decode (q_code 100) 11 = .ok (.if_icmp .ge 61, 3) := by decide +kernel
theorem x_100_14 : decode (q_code 100) 14 = .ok (.iload 4, 2) := by decide +kernel
theorem x_100_16 : decode (q_code 100) 16 = .ok (.iload_n 2, 1) := by decide +kernel
theorem x_100_17 : decode (q_code 100) 17 = .ok (.if_icmp .ge 55, 3) := by decide +kernel
theorem x_100_20 : decode (q_code 100) 20 = .ok (.aload_n 0, 1) := by decide +kernel
theorem x_100_21 : decode (q_code 100) 21 = .ok (.getfield 9, 3) := by decide +kernel
theorem x_100_24 : decode (q_code 100) 24 = .ok (.iload 4, 2) := by decide +kernel
theorem x_100_26 : decode (q_code 100) 26 = .ok (.iconst 1, 1) := by decide +kernel
theorem x_100_27 : decode (q_code 100) 27 = .ok (.iadd, 1) := by decide +kernel
theorem x_100_28 : decode (q_code 100) 28 = .ok (.aload_n 0, 1) := by decide +kernel
theorem x_100_29 : decode (q_code 100) 29 = .ok (.getfield 9, 3) := by decide +kernel
theorem x_100_32 : decode (q_code 100) 32 = .ok (.iload 4, 2) := by decide +kernel
theorem x_100_34 : decode (q_code 100) 34 = .ok (.invokestatic 44, 3) := by decide +kernel
theorem x_100_37 : decode (q_code 100) 37 = .ok (.iconst 1, 1) := by decide +kernel
theorem x_100_38 : decode (q_code 100) 38 = .ok (.isub, 1) := by decide +kernel
theorem x_100_39 : decode (q_code 100) 39 = .ok (.aload_n 0, 1) := by decide +kernel
theorem x_100_40 : decode (q_code 100) 40 = .ok (.getfield 9, 3) := by decide +kernel
theorem x_100_43 : decode (q_code 100) 43 = .ok (.iload_n 2, 1) := by decide +kernel
theorem x_100_44 : decode (q_code 100) 44 = .ok (.iconst 1, 1) := by decide +kernel
theorem x_100_45 : decode (q_code 100) 45 = .ok (.iadd, 1) := by decide +kernel
theorem x_100_46 : decode (q_code 100) 46 = .ok (.iload_n 3, 1) := by decide +kernel
theorem x_100_47 : decode (q_code 100) 47 = .ok (.invokestatic 62, 3) := by decide +kernel
theorem x_100_50 : decode (q_code 100) 50 = .ok (.ifCond .ne 5, 3) := by decide +kernel
theorem x_100_53 : decode (q_code 100) 53 = .ok (.iconst 1, 1) := by decide +kernel
theorem x_100_54 : decode (q_code 100) 54 = .ok (.ireturn, 1) := by decide +kernel
theorem x_100_55 : decode (q_code 100) 55 = .ok (.aload_n 0, 1) := by decide +kernel
theorem x_100_56 : decode (q_code 100) 56 = .ok (.getfield 9, 3) := by decide +kernel
theorem x_100_59 : decode (q_code 100) 59 = .ok (.iload 4, 2) := by decide +kernel
theorem x_100_61 : decode (q_code 100) 61 = .ok (.invokestatic 66, 3) := by decide +kernel
theorem x_100_64 : decode (q_code 100) 64 = .ok (.istore 4, 2) := by decide +kernel
theorem x_100_66 : decode (q_code 100) 66 = .ok (.iinc 5 1, 3) := by decide +kernel
theorem x_100_69 : decode (q_code 100) 69 = .ok (.goto (-63), 3) := by decide +kernel
theorem x_100_72 : decode (q_code 100) 72 = .ok (.iconst 0, 1) := by decide +kernel
theorem x_100_73 : decode (q_code 100) 73 = .ok (.ireturn, 1) := by decide +kernel
theorem x_101_0 : decode (q_code 101) 0 = .ok (.iload_n 3, 1) := by decide +kernel
theorem x_101_1 : decode (q_code 101) 1 = .ok (.iload_n 2, 1) := by decide +kernel
theorem x_101_2 : decode (q_code 101) 2 = .ok (.isub, 1) := by decide +kernel
theorem x_101_3 : decode (q_code 101) 3 = .ok (.istore 5, 2) := by decide +kernel
theorem x_101_5 : decode (q_code 101) 5 = .ok (.iload_n 1, 1) := by decide +kernel
theorem x_101_6 : decode (q_code 101) 6 = .ok (.lookupswitch 145 #[(2, 137), (8, 92), (10, 90), (16, 50), (18, 69)], 50) := by decide +kernel
theorem x_101_56 : decode (q_code 101) 56 = .ok (.iload 5, 2) := by decide +kernel
theorem x_101_58 : decode (q_code 101) 58 = .ok (.iconst 4, 1) := by decide +kernel
theorem x_101_59 : decode (q_code 101) 59 = .ok (.if_icmp .ge 12, 3) := by decide +kernel
theorem x_101_62 : decode (q_code 101) 62 = .ok (.aload_n 0, 1) := by decide +kernel
theorem x_101_63 : decode (q_code 101) 63 = .ok (.iconst 1, 1) := by decide +kernel
theorem x_101_64 : decode (q_code 101) 64 = .ok (.iload_n 2, 1) := by decide +kernel
theorem x_101_65 : decode (q_code 101) 65 = .ok (.invokevirtual 26, 3) := by decide +kernel
theorem x_101_68 : decode (q_code 101) 68 = .ok (.goto 6, 3) := by decide +kernel
theorem x_101_71 : decode (q_code 101) 71 = .ok (.iload_n 2, 1) := by decide +kernel
theorem x_101_72 : decode (q_code 101) 72 = .ok (.iconst 4, 1) := by decide +kernel
theorem x_101_73 : decode (q_code 101) 73 = .ok (.iadd, 1) := by decide +kernel
theorem x_101_74 : decode (q_code 101) 74 = .ok (.ireturn, 1) := by decide +kernel
theorem x_101_75 : decode (q_code 101) 75 = .ok (.iload 5, 2) := by decide +kernel
theorem x_101_77 : decode (q_code 101) 77 = .ok (.bipush 8, 2) := by decide +kernel
theorem x_101_79 : decode (q_code 101) 79 = .ok (.if_icmp .ge 12, 3) := by decide +kernel
theorem x_101_82 : decode (q_code 101) 82 = .ok (.aload_n 0, 1) := by decide +kernel
theorem x_101_83 : decode (q_code 101) 83 = .ok (.iconst 1, 1) := by decide +kernel
theorem x_101_84 : decode (q_code 101) 84 = .ok (.iload_n 2, 1) := by decide +kernel
theorem x_101_85 : decode (q_code 101) 85 = .ok (.invokevirtual 26, 3) := by decide +kernel
theorem x_101_88 : decode (q_code 101) 88 = .ok (.goto 7, 3) := by decide +kernel
theorem x_101_91 : decode (q_code 101) 91 = .ok (.iload_n 2, 1) := by decide +kernel
theorem x_101_92 : decode (q_code 101) 92 = .ok (.bipush 8, 2) := by decide +kernel
theorem x_101_94 : decode (q_code 101) 94 = .ok (.iadd, 1) := by decide +kernel
theorem x_101_95 : decode (q_code 101) 95 = .ok (.ireturn, 1) := by decide +kernel
theorem x_101_96 : decode (q_code 101) 96 = .ok (.iload_n 2, 1) := by decide +kernel
theorem x_101_97 : decode (q_code 101) 97 = .ok (.ireturn, 1) := by decide +kernel
theorem x_101_98 : decode (q_code 101) 98 = .ok (.iload 5, 2) := by decide +kernel
theorem x_101_100 : decode (q_code 101) 100 = .ok (.iconst 1, 1) := by decide +kernel
theorem x_101_101 : decode (q_code 101) 101 = .ok (.if_icmp .ge 10, 3) := by decide +kernel
theorem x_101_104 : decode (q_code 101) 104 = .ok (.aload_n 0, 1) := by decide +kernel
theorem x_101_105 : decode (q_code 101) 105 = .ok (.iconst 1, 1) := by decide +kernel
theorem x_101_106 : decode (q_code 101) 106 = .ok (.iload_n 2, 1) := by decide +kernel
theorem x_101_107 : decode (q_code 101) 107 = .ok (.invokevirtual 26, 3) := by decide +kernel
theorem x_101_110 : decode (q_code 101) 110 = .ok (.ireturn, 1) := by decide +kernel
theorem x_101_111 : decode (q_code 101) 111 = .ok (.aload_n 0, 1) := by decide +kernel
theorem x_101_112 : decode (q_code 101) 112 = .ok (.getfield 9, 3) := by decide +kernel
theorem x_101_115 : decode (q_code 101) 115 = .ok (.iload_n 2, 1) := by decide +kernel
theorem x_101_116 : decode (q_code 101) 116 = .ok (.baload, 1) := by decide +kernel
theorem x_101_117 : decode (q_code 101) 117 = .ok (.ifCond .eq 13, 3) := by decide +kernel
theorem x_101_120 : decode (q_code 101) 120 = .ok (.aload_n 0, 1) := by decide +kernel
theorem x_101_121 : decode (q_code 101) 121 = .ok (.getfield 9, 3) := by decide +kernel
theorem x_101_124 : decode (q_code 101) 124 = .ok (.iload_n 2, 1) := by decide +kernel
theorem x_101_125 : decode (q_code 101) 125 = .ok (.baload, 1) := by decide +kernel
theorem x_101_126 : decode (q_code 101) 126 = .ok (.iconst 1, 1) := by decide +kernel
theorem x_101_127 : decode (q_code 101) 127 = .ok (.if_icmp .ne 9, 3) := by decide +kernel
theorem x_101_130 : decode (q_code 101) 130 = .ok (.iload_n 2, 1) := by decide +kernel
theorem x_101_131 : decode (q_code 101) 131 = .ok (.iconst 1, 1) := by decide +kernel
theorem x_101_132 : decode (q_code 101) 132 = .ok (.iadd, 1) := by decide +kernel
theorem x_101_133 : decode (q_code 101) 133 = .ok (.goto 9, 3) := by decide +kernel
theorem x_101_136 : decode (q_code 101) 136 = .ok (.aload_n 0, 1) := by decide +kernel
theorem x_101_137 : decode (q_code 101) 137 = .ok (.iconst 5, 1) := by decide +kernel
theorem x_101_138 : decode (q_code 101) 138 = .ok (.iload_n 2, 1) := by decide +kernel
theorem x_101_139 : decode (q_code 101) 139 = .ok (.invokevirtual 26, 3) := by decide +kernel
theorem x_101_142 : decode (q_code 101) 142 = .ok (.ireturn, 1) := by decide +kernel
theorem x_101_143 : decode (q_code 101) 143 = .ok (.aload_n 0, 1) := by decide +kernel
theorem x_101_144 : decode (q_code 101) 144 = .ok (.iload_n 2, 1) := by decide +kernel
theorem x_101_145 : decode (q_code 101) 145 = .ok (.iload 5, 2) := by decide +kernel
theorem x_101_147 : decode (q_code 101) 147 = .ok (.invokevirtual 69, 3) := by decide +kernel
theorem x_101_150 : decode (q_code 101) 150 = .ok (.ireturn, 1) := by decide +kernel
theorem x_101_151 : decode (q_code 101) 151 = .ok (.aload_n 0, 1) := by decide +kernel
theorem x_101_152 : decode (q_code 101) 152 = .ok (.iload_n 2, 1) := by decide +kernel
theorem x_101_153 : decode (q_code 101) 153 = .ok (.iload_n 3, 1) := by decide +kernel
theorem x_101_154 : decode (q_code 101) 154 = .ok (.iload_n 1, 1) := by decide +kernel
theorem x_101_155 : decode (q_code 101) 155 = .ok (.iload 4, 2) := by decide +kernel
theorem x_101_157 : decode (q_code 101) 157 = .ok (.iconst 1, 1) := by decide +kernel
theorem x_101_158 : decode (q_code 101) 158 = .ok (.iadd, 1) := by decide +kernel
theorem x_101_159 : decode (q_code 101) 159 = .ok (.invokevirtual 15, 3) := by decide +kernel
theorem x_101_162 : decode (q_code 101) 162 = .ok (.ireturn, 1) := by decide +kernel
theorem x_102_0 : decode (q_code 102) 0 = .ok (.iload_n 2, 1) := by decide +kernel
theorem x_102_1 : decode (q_code 102) 1 = .ok (.iconst 4, 1) := by decide +kernel
theorem x_102_2 : decode (q_code 102) 2 = .ok (.if_icmp .ge 10, 3) := by decide +kernel
theorem x_102_5 : decode (q_code 102) 5 = .ok (.aload_n 0, 1) := by decide +kernel
theorem x_102_6 : decode (q_code 102) 6 = .ok (.iconst 1, 1) := by decide +kernel
theorem x_102_7 : decode (q_code 102) 7 = .ok (.iload_n 1, 1) := by decide +kernel
theorem x_102_8 : decode (q_code 102) 8 = .ok (.invokevirtual 26, 3) := by decide +kernel
theorem x_102_11 : decode (q_code 102) 11 = .ok (.ireturn, 1) := by decide +kernel
theorem x_102_12 : decode (q_code 102) 12 = .ok (.aload_n 0, 1) := by decide +kernel
theorem x_102_13 : decode (q_code 102) 13 = .ok (.getfield 9, 3) := by decide +kernel
theorem x_102_16 : decode (q_code 102) 16 = .ok (.iload_n 1, 1) := by decide +kernel
theorem x_102_17 : decode (q_code 102) 17 = .ok (.invokestatic 30, 3) := by decide +kernel
theorem x_102_20 : decode (q_code 102) 20 = .ok (.i2l, 1) := by decide +kernel
theorem x_102_21 : decode (q_code 102) 21 = .ok (.ldc2_w 36, 3) := by decide +kernel
theorem x_102_24 : decode (q_code 102) 24 = .ok (.land, 1) := by decide +kernel
theorem x_102_25 : decode (q_code 102) 25 = .ok (.lstore_n 3, 1) := by decide +kernel
theorem x_102_26 : decode (q_code 102) 26 = .ok (.lload_n 3, 1) := by decide +kernel
theorem x_102_27 : decode (q_code 102) 27 = .ok (.lconst 1, 1) := by decide +kernel
theorem x_102_28 : decode (q_code 102) 28 = .ok (.lcmp, 1) := by decide +kernel
theorem x_102_29 : decode (q_code 102) 29 = .ok (.ifCond .ge 11, 3) := by decide +kernel
theorem x_102_32 : decode (q_code 102) 32 = .ok (.aload_n 0, 1) := by decide +kernel
theorem x_102_33 : decode (q_code 102) 33 = .ok (.bipush 6, 2) := by decide +kernel
theorem x_102_35 : decode (q_code 102) 35 = .ok (.iload_n 1, 1) := by decide +kernel
theorem x_102_36 : decode (q_code 102) 36 = .ok (.invokevirtual 26, 3) := by decide +kernel
theorem x_102_39 : decode (q_code 102) 39 = .ok (.ireturn, 1) := by decide +kernel
theorem x_102_40 : decode (q_code 102) 40 = .ok (.lload_n 3, 1) := by decide +kernel
theorem x_102_41 : decode (q_code 102) 41 = .ok (.iload_n 2, 1) := by decide +kernel
theorem x_102_42 : decode (q_code 102) 42 = .ok (.iconst 4, 1) := by decide +kernel
theorem x_102_43 : decode (q_code 102) 43 = .ok (.isub, 1) := by decide +kernel
theorem x_102_44 : decode (q_code 102) 44 = .ok (.i2l, 1) := by decide +kernel
theorem x_102_45 : decode (q_code 102) 45 = .ok (.lcmp, 1) := by decide +kernel
theorem x_102_46 : decode (q_code 102) 46 = .ok (.ifCond .le 10, 3) := by decide +kernel
theorem x_102_49 : decode (q_code 102) 49 = .ok (.aload_n 0, 1) := by decide +kernel
theorem x_102_50 : decode (q_code 102) 50 = .ok (.iconst 1, 1) := by decide +kernel
theorem x_102_51 : decode (q_code 102) 51 = .ok (.iload_n 1, 1) := by decide +kernel
theorem x_102_52 : decode (q_code 102) 52 = .ok (.invokevirtual 26, 3) := by decide +kernel
theorem x_102_55 : decode (q_code 102) 55 = .ok (.ireturn, 1) := by decide +kernel
theorem x_102_56 : decode (q_code 102) 56 = .ok (.iload_n 1, 1) := by decide +kernel
theorem x_102_57 : decode (q_code 102) 57 = .ok (.iconst 3, 1) := by decide +kernel
theorem x_102_58 : decode (q_code 102) 58 = .ok (.iadd, 1) := by decide +kernel
theorem x_102_59 : decode (q_code 102) 59 = .ok (.lload_n 3, 1) := by decide +kernel
theorem x_102_60 : decode (q_code 102) 60 = .ok (.l2i, 1) := by decide +kernel
theorem x_102_61 : decode (q_code 102) 61 = .ok (.iadd, 1) := by decide +kernel
theorem x_102_62 : decode (q_code 102) 62 = .ok (.istore 5, 2) := by decide +kernel
theorem x_102_64 : decode (q_code 102) 64 = .ok (.aload_n 0, 1) := by decide +kernel
theorem x_102_65 : decode (q_code 102) 65 = .ok (.getfield 9, 3) := by decide +kernel
theorem x_102_68 : decode (q_code 102) 68 = .ok (.iload 5, 2) := by decide +kernel
theorem x_102_70 : decode (q_code 102) 70 = .ok (.baload, 1) := by decide +kernel
theorem x_102_71 : decode (q_code 102) 71 = .ok (.ifCond .eq 12, 3) := by decide +kernel
theorem x_102_74 : decode (q_code 102) 74 = .ok (.aload_n 0, 1) := by decide +kernel
theorem x_102_75 : decode (q_code 102) 75 = .ok (.bipush 6, 2) := by decide +kernel
theorem x_102_77 : decode (q_code 102) 77 = .ok (.iload 5, 2) := by decide +kernel
theorem x_102_79 : decode (q_code 102) 79 = .ok (.invokevirtual 26, 3) := by decide +kernel
theorem x_102_82 : decode (q_code 102) 82 = .ok (.ireturn, 1) := by decide +kernel
theorem x_102_83 : decode (q_code 102) 83 = .ok (.aload_n 0, 1) := by decide +kernel
theorem x_102_84 : decode (q_code 102) 84 = .ok (.getfield 9, 3) := by decide +kernel
theorem x_102_87 : decode (q_code 102) 87 = .ok (.iload_n 1, 1) := by decide +kernel
theorem x_102_88 : decode (q_code 102) 88 = .ok (.iconst 4, 1) := by decide +kernel
theorem x_102_89 : decode (q_code 102) 89 = .ok (.iadd, 1) := by decide +kernel
theorem x_102_90 : decode (q_code 102) 90 = .ok (.iload 5, 2) := by decide +kernel
theorem x_102_92 : decode (q_code 102) 92 = .ok (.invokestatic 47, 3) := by decide +kernel
theorem x_102_95 : decode (q_code 102) 95 = .ok (.istore 6, 2) := by decide +kernel
theorem x_102_97 : decode (q_code 102) 97 = .ok (.iload 6, 2) := by decide +kernel
theorem x_102_99 : decode (q_code 102) 99 = .ok (.ifCond .lt 13, 3) := by decide +kernel
theorem x_102_102 : decode (q_code 102) 102 = .ok (.aload_n 0, 1) := by decide +kernel
theorem x_102_103 : decode (q_code 102) 103 = .ok (.iconst 4, 1) := by decide +kernel
theorem x_102_104 : decode (q_code 102) 104 = .ok (.iload 6, 2) := by decide +kernel
theorem x_102_106 : decode (q_code 102) 106 = .ok (.invokevirtual 26, 3) := by decide +kernel
theorem x_102_109 : decode (q_code 102) 109 = .ok (.goto 7, 3) := by decide +kernel
theorem x_102_112 : decode (q_code 102) 112 = .ok (.iload 5, 2) := by decide +kernel
theorem x_102_114 : decode (q_code 102) 114 = .ok (.iconst 1, 1) := by decide +kernel
theorem x_102_115 : decode (q_code 102) 115 = .ok (.iadd, 1) := by decide +kernel
theorem x_102_116 : decode (q_code 102) 116 = .ok (.ireturn, 1) := by decide +kernel
theorem m_X6_reads {d : Nat} {M : g_M} {Q : Int → g_M → Prop} {a0 : Nat} {v1 : Int} (hv1 : g_InR v1) (h : g_ok M → g_InR (4 + v1) ∧ g_O M a0 6 ∧ g_Call d 98 [.ref a0, g_n 4, g_n (4 + v1), g_n 3, g_n 1] M (g_qI fun r6 M3 => g_ext M M3 → g_ok M3 → g_InR r6 → ((r6 < 0 → Q 0 M3) ∧ (¬ r6 < 0 → Q 1 M3)))) : g_Call (d + 1) 96 [.ref a0, g_n v1] M (g_qI Q) := by
  refine g_Call.ok fun hok0 => ?_
  replace h := h hok0
  refine r_body rfl (lv := [(0, .ref a0), (1, g_n v1)]) rfl ?_
  refine g_Run.ok fun hok => ?_
  refine r_aload_n x_96_0 rfl ?_
  refine r_iconst x_96_1 ?_
  refine r_iconst x_96_2 ?_
  refine r_iload_n x_96_3 rfl ?_
  refine r_iadd x_96_4 ?_
  obtain ⟨h1, h⟩ := h
  refine r_iconst x_96_5 ?_
  refine r_iconst x_96_6 ?_
  obtain ⟨hO2, h⟩ := h
  refine r_invV x_96_7 (z := 98) (ns := 0) (by decide +kernel) (as := [g_n 4, g_n (4 + v1), g_n 3, g_n 1]) (r := []) rfl rfl rfl hO2 rfl rfl ?_
  refine r_callI h fun r6 M3 hx4 hok5 hr7 h => ?_
  replace h := h hx4 hok5 hr7
  replace hO2 := hO2.up hx4
  refine r_if_lt x_96_10 (t := 17) (by decide +kernel) hr7 (fun hc => ?_) (fun hc => ?_)
  · replace h := h.1 hc
    refine r_iconst x_96_17 ?_
    exact r_retZ x_96_18 rfl (Or.inl rfl) h
  · replace h := h.2 hc
    refine r_iconst x_96_13 ?_
    refine r_goto x_96_14 (t := 18) (by decide +kernel) ?_
    exact r_retZ x_96_18 rfl (Or.inr rfl) h
theorem m_X6_fails {d : Nat} {M : g_M} {Q : Int → g_M → Prop} {a0 : Nat} {v1 : Int} (hv1 : g_InR v1) {v2 : Int} (hv2 : g_InR v2) (h : g_ok M → g_O M a0 6 ∧ (∀ M2, M2 = g_wi M a0 1 v1 → g_ok M2 → g_InR (v2 - 4) ∧ (∀ M7, M7 = g_wi M2 a0 2 (v2 - 4) → g_ok M7 → Q ((-1)) M7))) : g_Call (d + 1) 97 [.ref a0, g_n v1, g_n v2] M (g_qI Q) := by
  refine g_Call.ok fun hok0 => ?_
  replace h := h hok0
  refine r_body rfl (lv := [(0, .ref a0), (1, g_n v1), (2, g_n v2)]) rfl ?_
  refine g_Run.ok fun hok => ?_
  refine r_aload_n x_97_0 rfl ?_
  refine r_iload_n x_97_1 rfl ?_
  obtain ⟨hO1, h⟩ := h
  refine r_putI x_97_2 (ci := 6) (k := 1) (ns := 0) (by decide +kernel) (by decide) (g_f0 (by decide +kernel)) rfl hv1 trivial (kz := 1) rfl hO1 ?_
  obtain ⟨M2, hM3⟩ : ∃ Mz, Mz = g_wi M a0 1 v1 := ⟨_, rfl⟩
  rw [← hM3]
  refine g_Run.ok fun hok4 => ?_
  replace h := h M2 hM3 hok4
  have hx5 := g_extW hM3
  replace hO1 := hO1.up hx5
  refine r_aload_n x_97_5 rfl ?_
  refine r_iload_n x_97_6 rfl ?_
  refine r_iconst x_97_7 ?_
  refine r_isub x_97_8 ?_
  obtain ⟨h6, h⟩ := h
  refine r_putI x_97_9 (ci := 6) (k := 2) (ns := 0) (by decide +kernel) (by decide) (g_f0 (by decide +kernel)) rfl h6 trivial (kz := 2) rfl hO1 ?_
  obtain ⟨M7, hM8⟩ : ∃ Mz, Mz = g_wi M2 a0 2 (v2 - 4) := ⟨_, rfl⟩
  rw [← hM8]
  refine g_Run.ok fun hok9 => ?_
  replace h := h M7 hM8 hok9
  have hx10 := g_extW hM8
  replace hO1 := hO1.up hx10
  refine r_iconst x_97_12 ?_
  exact r_retI x_97_13 rfl (g_Rk rfl) h
theorem m_X6_document {d : Nat} {M : g_M} {Q : Int → g_M → Prop} {a0 : Nat} {v1 : Int} (hv1 : g_InR v1) {v2 : Int} (hv2 : g_InR v2) {v3 : Int} (hv3 : g_InR v3) {v4 : Int} (hv4 : g_InR v4) (h : g_ok M → g_InR (v2 - v1) ∧ ((v2 - v1 < 4 → g_O M a0 6 ∧ g_Call d 97 [.ref a0, g_n 1, g_n v1] M (g_qI fun r24 M21 => g_ext M M21 → g_ok M21 → g_InR r24 → Q r24 M21)) ∧ (¬ v2 - v1 < 4 → g_O M a0 6 ∧ ∃ b3, g_r M a0 0 = some b3 ∧ g_Call d 109 [.ref b3, g_n v1] M (g_qI fun r8 M5 => g_ext M M5 → g_ok M5 → g_InR r8 → ((g_lc ((Int64.ofInt r8) &&& 4294967295) 5 < 0 → g_Call d 97 [.ref a0, g_n 2, g_n v1] M5 (g_qI fun r13 M10 => g_ext M5 M10 → g_ok M10 → g_InR r13 → Q r13 M10)) ∧ (¬ g_lc ((Int64.ofInt r8) &&& 4294967295) 5 < 0 → ((v4 = 1 → ((g_lc ((Int64.ofInt r8) &&& 4294967295) (Int64.ofInt (v2 - v1)) < 0 → g_Call d 97 [.ref a0, g_n 2, g_n v1] M5 (g_qI fun r18 M15 => g_ext M5 M15 → g_ok M15 → g_InR r18 → Q r18 M15)) ∧ (¬ g_lc ((Int64.ofInt r8) &&& 4294967295) (Int64.ofInt (v2 - v1)) < 0 → g_Run d 98 64 [(0, .ref a0), (1, g_n v1), (2, g_n v2), (3, g_n v3), (4, g_n v4), (5, g_n (v2 - v1)), (6, .long ((Int64.ofInt r8) &&& 4294967295))] [] M5 (g_qI Q)))) ∧ (¬ v4 = 1 → g_Run d 98 64 [(0, .ref a0), (1, g_n v1), (2, g_n v2), (3, g_n v3), (4, g_n v4), (5, g_n (v2 - v1)), (6, .long ((Int64.ofInt r8) &&& 4294967295))] [] M5 (g_qI Q))))))))) : g_Call (d + 1) 98 [.ref a0, g_n v1, g_n v2, g_n v3, g_n v4] M (g_qI Q) := by
  refine g_Call.ok fun hok0 => ?_
  replace h := h hok0
  refine r_body rfl (lv := [(0, .ref a0), (1, g_n v1), (2, g_n v2), (3, g_n v3), (4, g_n v4)]) rfl ?_
  refine g_Run.ok fun hok => ?_
  refine r_iload_n x_98_0 rfl ?_
  refine r_iload_n x_98_1 rfl ?_
  refine r_isub x_98_2 ?_
  obtain ⟨h1, h⟩ := h
  refine r_istore x_98_3 (by decide +kernel) rfl (lv1 := [(0, .ref a0), (1, g_n v1), (2, g_n v2), (3, g_n v3), (4, g_n v4), (5, g_n (v2 - v1))]) rfl ?_
  refine r_iload x_98_5 rfl ?_
  refine r_iconst x_98_7 ?_
  refine r_ic_ge x_98_8 (t := 18) (by decide +kernel) h1 (g_Rk rfl) (fun hc => ?_) (fun hc => ?_)
  · replace h := h.2 hc
    refine r_aload_n x_98_18 rfl ?_
    obtain ⟨hO2, h⟩ := h
    obtain ⟨b3, hb4, h⟩ := h
    refine r_getR x_98_19 rfl (ci := 6) (k := 0) (ns := 0) (by decide +kernel) (by decide) rfl (kz := 0) rfl hO2 hb4 ?_
    refine r_iload_n x_98_22 rfl ?_
    refine r_invS x_98_23 (z := 109) (ns := 1) (by decide +kernel) (as := [.ref b3, g_n v1]) (r := []) rfl rfl rfl ?_
    refine r_callI h fun r8 M5 hx6 hok7 hr9 h => ?_
    replace h := h hx6 hok7 hr9
    replace hO2 := hO2.up hx6
    refine r_i2l x_98_26 hr9 ?_
    refine r_ldc2 x_98_27 (X := 4294967295) rfl ?_
    refine r_land x_98_30 ?_
    refine r_lstore x_98_31 (by decide +kernel) rfl (lv1 := [(0, .ref a0), (1, g_n v1), (2, g_n v2), (3, g_n v3), (4, g_n v4), (5, g_n (v2 - v1)), (6, .long ((Int64.ofInt r8) &&& 4294967295))]) rfl ?_
    refine r_lload x_98_33 rfl ?_
    refine r_ldc2 x_98_35 (X := 5) rfl ?_
    refine r_lcmp x_98_38 ?_
    refine r_if_lt x_98_39 (t := 57) (by decide +kernel) (g_InR_toInt _) (fun hc => ?_) (fun hc => ?_)
    · replace h := h.1 hc
      refine r_aload_n x_98_57 rfl ?_
      refine r_iconst x_98_58 ?_
      refine r_iload_n x_98_59 rfl ?_
      refine r_invV x_98_60 (z := 97) (ns := 0) (by decide +kernel) (as := [g_n 2, g_n v1]) (r := []) rfl rfl rfl hO2 rfl rfl ?_
      refine r_callI h fun r13 M10 hx11 hok12 hr14 h => ?_
      replace h := h hx11 hok12 hr14
      replace hO2 := hO2.up hx11
      exact r_retI x_98_63 rfl hr14 h
    · replace h := h.2 hc
      refine r_iload x_98_42 rfl ?_
      refine r_iconst x_98_44 ?_
      refine r_ic_ne x_98_45 (t := 64) (by decide +kernel) hv4 (g_Rk rfl) (fun hc => ?_) (fun hc => ?_)
      · replace h := h.2 hc
        exact h
      · replace h := h.1 hc
        refine r_lload x_98_48 rfl ?_
        refine r_iload x_98_50 rfl ?_
        refine r_i2l x_98_52 h1 ?_
        refine r_lcmp x_98_53 ?_
        refine r_if_ge x_98_54 (t := 64) (by decide +kernel) (g_InR_toInt _) (fun hc => ?_) (fun hc => ?_)
        · replace h := h.2 hc
          exact h
        · replace h := h.1 hc
          refine r_aload_n x_98_57 rfl ?_
          refine r_iconst x_98_58 ?_
          refine r_iload_n x_98_59 rfl ?_
          refine r_invV x_98_60 (z := 97) (ns := 0) (by decide +kernel) (as := [g_n 2, g_n v1]) (r := []) rfl rfl rfl hO2 rfl rfl ?_
          refine r_callI h fun r18 M15 hx16 hok17 hr19 h => ?_
          replace h := h hx16 hok17 hr19
          replace hO2 := hO2.up hx16
          exact r_retI x_98_63 rfl hr19 h
  · replace h := h.1 hc
    refine r_aload_n x_98_11 rfl ?_
    refine r_iconst x_98_12 ?_
    refine r_iload_n x_98_13 rfl ?_
    obtain ⟨hO20, h⟩ := h
    refine r_invV x_98_14 (z := 97) (ns := 0) (by decide +kernel) (as := [g_n 1, g_n v1]) (r := []) rfl rfl rfl hO20 rfl rfl ?_
    refine r_callI h fun r24 M21 hx22 hok23 hr25 h => ?_
    replace h := h hx22 hok23 hr25
    replace hO20 := hO20.up hx22
    exact r_retI x_98_17 rfl hr25 h
theorem s_X6_document_64 {d : Nat} {M : g_M} {Q : Int → g_M → Prop} {a0 : Nat} {v1 : Int} (hv1 : g_InR v1) {v2 : Int} (hv2 : g_InR v2) {v3 : Int} (hv3 : g_InR v3) {v4 : Int} (hv4 : g_InR v4) {v5 : Int} (hv5 : g_InR v5) {V6 : Int64} (h : g_ok M → ((0 < g_lc V6 (Int64.ofInt v5) → g_O M a0 6 ∧ g_Call d 97 [.ref a0, g_n 1, g_n v1] M (g_qI fun r14 M11 => g_ext M M11 → g_ok M11 → g_InR r14 → Q r14 M11)) ∧ (¬ 0 < g_lc V6 (Int64.ofInt v5) → ((16 < v4 → g_O M a0 6 ∧ g_Call d 97 [.ref a0, g_n 8, g_n v1] M (g_qI fun r8 M5 => g_ext M M5 → g_ok M5 → g_InR r8 → Q r8 M5)) ∧ (¬ 16 < v4 → g_InR (v1 + V6.toInt32.toInt) ∧ g_InR ((v1 + V6.toInt32.toInt) - 1) ∧ g_InR (v1 + 4) ∧ g_Run d 98 112 [(0, .ref a0), (1, g_n v1), (2, g_n v2), (3, g_n v3), (4, g_n v4), (5, g_n v5), (6, .long V6), (8, g_n ((v1 + V6.toInt32.toInt) - 1)), (9, g_n (v1 + 4)), (10, g_n 0)] [] M (g_qI Q)))))) : g_Run d 98 64 [(0, .ref a0), (1, g_n v1), (2, g_n v2), (3, g_n v3), (4, g_n v4), (5, g_n v5), (6, .long V6)] [] M (g_qI Q) := by
  refine g_Run.ok fun hok => ?_
  replace h := h hok
  refine r_lload x_98_64 rfl ?_
  refine r_iload x_98_66 rfl ?_
  refine r_i2l x_98_68 hv5 ?_
  refine r_lcmp x_98_69 ?_
  refine r_if_le x_98_70 (t := 80) (by decide +kernel) (g_InR_toInt _) (fun hc => ?_) (fun hc => ?_)
  · replace h := h.2 hc
    refine r_iload x_98_80 rfl ?_
    refine r_bipush x_98_82 (x := 16) rfl ?_
    refine r_ic_le x_98_84 (t := 95) (by decide +kernel) hv4 (g_Rk rfl) (fun hc => ?_) (fun hc => ?_)
    · replace h := h.2 hc
      refine r_iload_n x_98_95 rfl ?_
      refine r_lload x_98_96 rfl ?_
      refine r_l2i x_98_98 ?_
      refine r_iadd x_98_99 ?_
      obtain ⟨h1, h⟩ := h
      refine r_iconst x_98_100 ?_
      refine r_isub x_98_101 ?_
      obtain ⟨h2, h⟩ := h
      refine r_istore x_98_102 (by decide +kernel) rfl (lv1 := [(0, .ref a0), (1, g_n v1), (2, g_n v2), (3, g_n v3), (4, g_n v4), (5, g_n v5), (6, .long V6), (8, g_n ((v1 + V6.toInt32.toInt) - 1))]) rfl ?_
      refine r_iload_n x_98_104 rfl ?_
      refine r_iconst x_98_105 ?_
      refine r_iadd x_98_106 ?_
      obtain ⟨h3, h⟩ := h
      refine r_istore x_98_107 (by decide +kernel) rfl (lv1 := [(0, .ref a0), (1, g_n v1), (2, g_n v2), (3, g_n v3), (4, g_n v4), (5, g_n v5), (6, .long V6), (8, g_n ((v1 + V6.toInt32.toInt) - 1)), (9, g_n (v1 + 4))]) rfl ?_
      refine r_iconst x_98_109 ?_
      refine r_istore x_98_110 (by decide +kernel) rfl (lv1 := [(0, .ref a0), (1, g_n v1), (2, g_n v2), (3, g_n v3), (4, g_n v4), (5, g_n v5), (6, .long V6), (8, g_n ((v1 + V6.toInt32.toInt) - 1)), (9, g_n (v1 + 4)), (10, g_n 0)]) rfl ?_
      exact h
    · replace h := h.1 hc
      refine r_aload_n x_98_87 rfl ?_
      refine r_bipush x_98_88 (x := 8) rfl ?_
      refine r_iload_n x_98_90 rfl ?_
      obtain ⟨hO4, h⟩ := h
      refine r_invV x_98_91 (z := 97) (ns := 0) (by decide +kernel) (as := [g_n 8, g_n v1]) (r := []) rfl rfl rfl hO4 rfl rfl ?_
      refine r_callI h fun r8 M5 hx6 hok7 hr9 h => ?_
      replace h := h hx6 hok7 hr9
      replace hO4 := hO4.up hx6
      exact r_retI x_98_94 rfl hr9 h
  · replace h := h.1 hc
    refine r_aload_n x_98_73 rfl ?_
    refine r_iconst x_98_74 ?_
    refine r_iload_n x_98_75 rfl ?_
    obtain ⟨hO10, h⟩ := h
    refine r_invV x_98_76 (z := 97) (ns := 0) (by decide +kernel) (as := [g_n 1, g_n v1]) (r := []) rfl rfl rfl hO10 rfl rfl ?_
    refine r_callI h fun r14 M11 hx12 hok13 hr15 h => ?_
    replace h := h hx12 hok13 hr15
    replace hO10 := hO10.up hx12
    exact r_retI x_98_79 rfl hr15 h
theorem s_X6_document_112 {d : Nat} {M : g_M} {Q : Int → g_M → Prop} {a0 : Nat} {v1 : Int} (hv1 : g_InR v1) {v2 : Int} (hv2 : g_InR v2) {v3 : Int} (hv3 : g_InR v3) {v4 : Int} (hv4 : g_InR v4) {v5 : Int} (hv5 : g_InR v5) {V6 : Int64} {v8 : Int} (hv8 : g_InR v8) {v9 : Int} (hv9 : g_InR v9) {v10 : Int} (hv10 : g_InR v10) (h : g_ok M → ((v10 < 2000 → ((v9 < v8 → g_InR (v1 + 4) ∧ ((v3 = 4 → g_O M a0 6 ∧ g_Call d 99 [.ref a0, g_n (v1 + 4), g_n v9, g_n v8, g_n v10, g_n v4] M (g_qI fun r13 M10 => g_ext M M10 → g_ok M10 → g_InR r13 → ((r13 < 0 → Q ((-1)) M10) ∧ (¬ r13 < 0 → g_InR (v10 + 1) ∧ g_Run d 98 112 [(0, .ref a0), (1, g_n v1), (2, g_n v2), (3, g_n v3), (4, g_n v4), (5, g_n v5), (6, .long V6), (8, g_n v8), (9, g_n r13), (10, g_n (v10 + 1))] [] M10 (g_qI Q))))) ∧ (¬ v3 = 4 → g_O M a0 6 ∧ g_Call d 99 [.ref a0, g_n (v1 + 4), g_n v9, g_n v8, g_n ((-1)), g_n v4] M (g_qI fun r6 M3 => g_ext M M3 → g_ok M3 → g_InR r6 → ((r6 < 0 → Q ((-1)) M3) ∧ (¬ r6 < 0 → g_InR (v10 + 1) ∧ g_Run d 98 112 [(0, .ref a0), (1, g_n v1), (2, g_n v2), (3, g_n v3), (4, g_n v4), (5, g_n v5), (6, .long V6), (8, g_n v8), (9, g_n r6), (10, g_n (v10 + 1))] [] M3 (g_qI Q))))))) ∧ (¬ v9 < v8 → g_Run d 98 166 [(0, .ref a0), (1, g_n v1), (2, g_n v2), (3, g_n v3), (4, g_n v4), (5, g_n v5), (6, .long V6), (8, g_n v8), (9, g_n v9), (10, g_n v10)] [] M (g_qI Q)))) ∧ (¬ v10 < 2000 → g_Run d 98 166 [(0, .ref a0), (1, g_n v1), (2, g_n v2), (3, g_n v3), (4, g_n v4), (5, g_n v5), (6, .long V6), (8, g_n v8), (9, g_n v9), (10, g_n v10)] [] M (g_qI Q)))) : g_Run d 98 112 [(0, .ref a0), (1, g_n v1), (2, g_n v2), (3, g_n v3), (4, g_n v4), (5, g_n v5), (6, .long V6), (8, g_n v8), (9, g_n v9), (10, g_n v10)] [] M (g_qI Q) := by
  refine g_Run.ok fun hok => ?_
  replace h := h hok
  refine r_iload x_98_112 rfl ?_
  refine r_sipush x_98_114 (x := 2000) rfl ?_
  refine r_ic_ge x_98_117 (t := 166) (by decide +kernel) hv10 (g_Rk rfl) (fun hc => ?_) (fun hc => ?_)
  · replace h := h.2 hc
    exact h
  · replace h := h.1 hc
    refine r_iload x_98_120 rfl ?_
    refine r_iload x_98_122 rfl ?_
    refine r_ic_ge x_98_124 (t := 166) (by decide +kernel) hv9 hv8 (fun hc => ?_) (fun hc => ?_)
    · replace h := h.2 hc
      exact h
    · replace h := h.1 hc
      refine r_aload_n x_98_127 rfl ?_
      refine r_iload_n x_98_128 rfl ?_
      refine r_iconst x_98_129 ?_
      refine r_iadd x_98_130 ?_
      obtain ⟨h1, h⟩ := h
      refine r_iload x_98_131 rfl ?_
      refine r_iload x_98_133 rfl ?_
      refine r_iload_n x_98_135 rfl ?_
      refine r_iconst x_98_136 ?_
      refine r_ic_ne x_98_137 (t := 145) (by decide +kernel) hv3 (g_Rk rfl) (fun hc => ?_) (fun hc => ?_)
      · replace h := h.2 hc
        refine r_iconst x_98_145 ?_
        refine r_iload x_98_146 rfl ?_
        obtain ⟨hO2, h⟩ := h
        refine r_invV x_98_148 (z := 99) (ns := 0) (by decide +kernel) (as := [g_n (v1 + 4), g_n v9, g_n v8, g_n ((-1)), g_n v4]) (r := []) rfl rfl rfl hO2 rfl rfl ?_
        refine r_callI h fun r6 M3 hx4 hok5 hr7 h => ?_
        replace h := h hx4 hok5 hr7
        replace hO2 := hO2.up hx4
        refine r_istore x_98_151 (by decide +kernel) rfl (lv1 := [(0, .ref a0), (1, g_n v1), (2, g_n v2), (3, g_n v3), (4, g_n v4), (5, g_n v5), (6, .long V6), (8, g_n v8), (9, g_n r6), (10, g_n v10)]) rfl ?_
        refine r_iload x_98_153 rfl ?_
        refine r_if_ge x_98_155 (t := 160) (by decide +kernel) hr7 (fun hc => ?_) (fun hc => ?_)
        · replace h := h.2 hc
          obtain ⟨h8, h⟩ := h
          refine r_iinc x_98_160 (by decide +kernel) rfl rfl (lv1 := [(0, .ref a0), (1, g_n v1), (2, g_n v2), (3, g_n v3), (4, g_n v4), (5, g_n v5), (6, .long V6), (8, g_n v8), (9, g_n r6), (10, g_n (v10 + 1))]) rfl ?_
          refine r_goto x_98_163 (t := 112) (by decide +kernel) ?_
          exact h
        · replace h := h.1 hc
          refine r_iconst x_98_158 ?_
          exact r_retI x_98_159 rfl (g_Rk rfl) h
      · replace h := h.1 hc
        refine r_iload x_98_140 rfl ?_
        refine r_goto x_98_142 (t := 146) (by decide +kernel) ?_
        refine r_iload x_98_146 rfl ?_
        obtain ⟨hO9, h⟩ := h
        refine r_invV x_98_148 (z := 99) (ns := 0) (by decide +kernel) (as := [g_n (v1 + 4), g_n v9, g_n v8, g_n v10, g_n v4]) (r := []) rfl rfl rfl hO9 rfl rfl ?_
        refine r_callI h fun r13 M10 hx11 hok12 hr14 h => ?_
        replace h := h hx11 hok12 hr14
        replace hO9 := hO9.up hx11
        refine r_istore x_98_151 (by decide +kernel) rfl (lv1 := [(0, .ref a0), (1, g_n v1), (2, g_n v2), (3, g_n v3), (4, g_n v4), (5, g_n v5), (6, .long V6), (8, g_n v8), (9, g_n r13), (10, g_n v10)]) rfl ?_
        refine r_iload x_98_153 rfl ?_
        refine r_if_ge x_98_155 (t := 160) (by decide +kernel) hr14 (fun hc => ?_) (fun hc => ?_)
        · replace h := h.2 hc
          obtain ⟨h15, h⟩ := h
          refine r_iinc x_98_160 (by decide +kernel) rfl rfl (lv1 := [(0, .ref a0), (1, g_n v1), (2, g_n v2), (3, g_n v3), (4, g_n v4), (5, g_n v5), (6, .long V6), (8, g_n v8), (9, g_n r13), (10, g_n (v10 + 1))]) rfl ?_
          refine r_goto x_98_163 (t := 112) (by decide +kernel) ?_
          exact h
        · replace h := h.1 hc
          refine r_iconst x_98_158 ?_
          exact r_retI x_98_159 rfl (g_Rk rfl) h
theorem s_X6_document_166 {d : Nat} {M : g_M} {Q : Int → g_M → Prop} {a0 : Nat} {v1 : Int} (hv1 : g_InR v1) {v2 : Int} (hv2 : g_InR v2) {v3 : Int} (hv3 : g_InR v3) {v4 : Int} (hv4 : g_InR v4) {v5 : Int} (hv5 : g_InR v5) {V6 : Int64} {v8 : Int} (hv8 : g_InR v8) {v9 : Int} (hv9 : g_InR v9) {v10 : Int} (hv10 : g_InR v10) (h : g_ok M → g_O M a0 6 ∧ ∃ b2, g_r M a0 0 = some b2 ∧ ∃ n4, g_A M b2 0 n4 ∧ ((0 : Int) ≤ v8 ∧ (v8 : Int) < n4) ∧ ((g_i M b2 v8 = 0 → g_InR (v8 + 1) ∧ Q (v8 + 1) M) ∧ (¬ g_i M b2 v8 = 0 → g_Call d 97 [.ref a0, g_n 2, g_n v8] M (g_qI fun r10 M7 => g_ext M M7 → g_ok M7 → g_InR r10 → Q r10 M7)))) : g_Run d 98 166 [(0, .ref a0), (1, g_n v1), (2, g_n v2), (3, g_n v3), (4, g_n v4), (5, g_n v5), (6, .long V6), (8, g_n v8), (9, g_n v9), (10, g_n v10)] [] M (g_qI Q) := by
  refine g_Run.ok fun hok => ?_
  replace h := h hok
  refine r_aload_n x_98_166 rfl ?_
  obtain ⟨hO1, h⟩ := h
  obtain ⟨b2, hb3, h⟩ := h
  refine r_getR x_98_167 rfl (ci := 6) (k := 0) (ns := 0) (by decide +kernel) (by decide) rfl (kz := 0) rfl hO1 hb3 ?_
  refine r_iload x_98_170 rfl ?_
  obtain ⟨n4, hA5, h⟩ := h
  obtain ⟨h6, h⟩ := h
  refine r_bald x_98_172 (Or.inl rfl) hA5 hv8 h6.1 h6.2 ?_
  refine r_if_ne x_98_173 (t := 183) (by decide +kernel) (hok.1 _ _) (fun hc => ?_) (fun hc => ?_)
  · replace h := h.2 hc
    refine r_aload_n x_98_183 rfl ?_
    refine r_iconst x_98_184 ?_
    refine r_iload x_98_185 rfl ?_
    refine r_invV x_98_187 (z := 97) (ns := 0) (by decide +kernel) (as := [g_n 2, g_n v8]) (r := []) rfl rfl rfl hO1 rfl rfl ?_
    refine r_callI h fun r10 M7 hx8 hok9 hr11 h => ?_
    replace h := h hx8 hok9 hr11
    replace hO1 := hO1.up hx8
    replace hA5 := hA5.up hx8
    exact r_retI x_98_190 rfl hr11 h
  · replace h := h.1 hc
    refine r_iload x_98_176 rfl ?_
    refine r_iconst x_98_178 ?_
    refine r_iadd x_98_179 ?_
    obtain ⟨h12, h⟩ := h
    refine r_goto x_98_180 (t := 190) (by decide +kernel) ?_
    exact r_retI x_98_190 rfl h12 h
theorem m_X6_element {d : Nat} {M : g_M} {Q : Int → g_M → Prop} {a0 : Nat} {v1 : Int} (hv1 : g_InR v1) {v2 : Int} (hv2 : g_InR v2) {v3 : Int} (hv3 : g_InR v3) {v4 : Int} (hv4 : g_InR v4) {v5 : Int} (hv5 : g_InR v5) (h : g_ok M → g_O M a0 6 ∧ ∃ b2, g_r M a0 0 = some b2 ∧ ∃ n4, g_A M b2 0 n4 ∧ ((0 : Int) ≤ v2 ∧ (v2 : Int) < n4) ∧ ((g_i M b2 v2 = 0 → g_Call d 97 [.ref a0, g_n 2, g_n v2] M (g_qI fun r15 M12 => g_ext M M12 → g_ok M12 → g_InR r15 → Q r15 M12)) ∧ (¬ g_i M b2 v2 = 0 → ((g_i M b2 v2 = 16 → g_Run d 99 73 [(0, .ref a0), (1, g_n v1), (2, g_n v2), (3, g_n v3), (4, g_n v4), (5, g_n v5), (6, g_n (g_i M b2 v2))] [] M (g_qI Q)) ∧ (¬ g_i M b2 v2 = 16 → ((g_i M b2 v2 = 18 → g_Run d 99 73 [(0, .ref a0), (1, g_n v1), (2, g_n v2), (3, g_n v3), (4, g_n v4), (5, g_n v5), (6, g_n (g_i M b2 v2))] [] M (g_qI Q)) ∧ (¬ g_i M b2 v2 = 18 → ((g_i M b2 v2 = 8 → g_Run d 99 73 [(0, .ref a0), (1, g_n v1), (2, g_n v2), (3, g_n v3), (4, g_n v4), (5, g_n v5), (6, g_n (g_i M b2 v2))] [] M (g_qI Q)) ∧ (¬ g_i M b2 v2 = 8 → ((g_i M b2 v2 = 10 → g_Run d 99 73 [(0, .ref a0), (1, g_n v1), (2, g_n v2), (3, g_n v3), (4, g_n v4), (5, g_n v5), (6, g_n (g_i M b2 v2))] [] M (g_qI Q)) ∧ (¬ g_i M b2 v2 = 10 → ((g_i M b2 v2 = 2 → g_Run d 99 73 [(0, .ref a0), (1, g_n v1), (2, g_n v2), (3, g_n v3), (4, g_n v4), (5, g_n v5), (6, g_n (g_i M b2 v2))] [] M (g_qI Q)) ∧ (¬ g_i M b2 v2 = 2 → ((g_i M b2 v2 = 3 → g_Run d 99 73 [(0, .ref a0), (1, g_n v1), (2, g_n v2), (3, g_n v3), (4, g_n v4), (5, g_n v5), (6, g_n (g_i M b2 v2))] [] M (g_qI Q)) ∧ (¬ g_i M b2 v2 = 3 → ((g_i M b2 v2 = 4 → g_Run d 99 73 [(0, .ref a0), (1, g_n v1), (2, g_n v2), (3, g_n v3), (4, g_n v4), (5, g_n v5), (6, g_n (g_i M b2 v2))] [] M (g_qI Q)) ∧ (¬ g_i M b2 v2 = 4 → g_Call d 97 [.ref a0, g_n 3, g_n v2] M (g_qI fun r10 M7 => g_ext M M7 → g_ok M7 → g_InR r10 → Q r10 M7)))))))))))))))))) : g_Call (d + 1) 99 [.ref a0, g_n v1, g_n v2, g_n v3, g_n v4, g_n v5] M (g_qI Q) := by
  refine g_Call.ok fun hok0 => ?_
  replace h := h hok0
  refine r_body rfl (lv := [(0, .ref a0), (1, g_n v1), (2, g_n v2), (3, g_n v3), (4, g_n v4), (5, g_n v5)]) rfl ?_
  refine g_Run.ok fun hok => ?_
  refine r_aload_n x_99_0 rfl ?_
  obtain ⟨hO1, h⟩ := h
  obtain ⟨b2, hb3, h⟩ := h
  refine r_getR x_99_1 rfl (ci := 6) (k := 0) (ns := 0) (by decide +kernel) (by decide) rfl (kz := 0) rfl hO1 hb3 ?_
  refine r_iload_n x_99_4 rfl ?_
  obtain ⟨n4, hA5, h⟩ := h
  obtain ⟨h6, h⟩ := h
  refine r_bald x_99_5 (Or.inl rfl) hA5 hv2 h6.1 h6.2 ?_
  refine r_istore x_99_6 (by decide +kernel) rfl (lv1 := [(0, .ref a0), (1, g_n v1), (2, g_n v2), (3, g_n v3), (4, g_n v4), (5, g_n v5), (6, g_n (g_i M b2 v2))]) rfl ?_
  refine r_iload x_99_8 rfl ?_
  refine r_if_ne x_99_10 (t := 20) (by decide +kernel) (hok.1 _ _) (fun hc => ?_) (fun hc => ?_)
  · replace h := h.2 hc
    refine r_iload x_99_20 rfl ?_
    refine r_bipush x_99_22 (x := 16) rfl ?_
    refine r_ic_eq x_99_24 (t := 73) (by decide +kernel) (hok.1 _ _) (g_Rk rfl) (fun hc => ?_) (fun hc => ?_)
    · replace h := h.1 hc
      exact h
    · replace h := h.2 hc
      refine r_iload x_99_27 rfl ?_
      refine r_bipush x_99_29 (x := 18) rfl ?_
      refine r_ic_eq x_99_31 (t := 73) (by decide +kernel) (hok.1 _ _) (g_Rk rfl) (fun hc => ?_) (fun hc => ?_)
      · replace h := h.1 hc
        exact h
      · replace h := h.2 hc
        refine r_iload x_99_34 rfl ?_
        refine r_bipush x_99_36 (x := 8) rfl ?_
        refine r_ic_eq x_99_38 (t := 73) (by decide +kernel) (hok.1 _ _) (g_Rk rfl) (fun hc => ?_) (fun hc => ?_)
        · replace h := h.1 hc
          exact h
        · replace h := h.2 hc
          refine r_iload x_99_41 rfl ?_
          refine r_bipush x_99_43 (x := 10) rfl ?_
          refine r_ic_eq x_99_45 (t := 73) (by decide +kernel) (hok.1 _ _) (g_Rk rfl) (fun hc => ?_) (fun hc => ?_)
          · replace h := h.1 hc
            exact h
          · replace h := h.2 hc
            refine r_iload x_99_48 rfl ?_
            refine r_iconst x_99_50 ?_
            refine r_ic_eq x_99_51 (t := 73) (by decide +kernel) (hok.1 _ _) (g_Rk rfl) (fun hc => ?_) (fun hc => ?_)
            · replace h := h.1 hc
              exact h
            · replace h := h.2 hc
              refine r_iload x_99_54 rfl ?_
              refine r_iconst x_99_56 ?_
              refine r_ic_eq x_99_57 (t := 73) (by decide +kernel) (hok.1 _ _) (g_Rk rfl) (fun hc => ?_) (fun hc => ?_)
              · replace h := h.1 hc
                exact h
              · replace h := h.2 hc
                refine r_iload x_99_60 rfl ?_
                refine r_iconst x_99_62 ?_
                refine r_ic_eq x_99_63 (t := 73) (by decide +kernel) (hok.1 _ _) (g_Rk rfl) (fun hc => ?_) (fun hc => ?_)
                · replace h := h.1 hc
                  exact h
                · replace h := h.2 hc
                  refine r_aload_n x_99_66 rfl ?_
                  refine r_iconst x_99_67 ?_
                  refine r_iload_n x_99_68 rfl ?_
                  refine r_invV x_99_69 (z := 97) (ns := 0) (by decide +kernel) (as := [g_n 3, g_n v2]) (r := []) rfl rfl rfl hO1 rfl rfl ?_
                  refine r_callI h fun r10 M7 hx8 hok9 hr11 h => ?_
                  replace h := h hx8 hok9 hr11
                  replace hO1 := hO1.up hx8
                  replace hA5 := hA5.up hx8
                  exact r_retI x_99_72 rfl hr11 h
  · replace h := h.1 hc
    refine r_aload_n x_99_13 rfl ?_
    refine r_iconst x_99_14 ?_
    refine r_iload_n x_99_15 rfl ?_
    refine r_invV x_99_16 (z := 97) (ns := 0) (by decide +kernel) (as := [g_n 2, g_n v2]) (r := []) rfl rfl rfl hO1 rfl rfl ?_
    refine r_callI h fun r15 M12 hx13 hok14 hr16 h => ?_
    replace h := h hx13 hok14 hr16
    replace hO1 := hO1.up hx13
    replace hA5 := hA5.up hx13
    exact r_retI x_99_19 rfl hr16 h
theorem s_X6_element_73 {d : Nat} {M : g_M} {Q : Int → g_M → Prop} {a0 : Nat} {v1 : Int} (hv1 : g_InR v1) {v2 : Int} (hv2 : g_InR v2) {v3 : Int} (hv3 : g_InR v3) {v4 : Int} (hv4 : g_InR v4) {v5 : Int} (hv5 : g_InR v5) {v6 : Int} (hv6 : g_InR v6) (h : g_ok M → g_InR (v2 + 1) ∧ g_O M a0 6 ∧ ∃ b3, g_r M a0 0 = some b3 ∧ g_Call d 110 [.ref b3, g_n v2] M (g_qI fun r8 M5 => g_ext M M5 → g_ok M5 → g_InR r8 → g_InR (r8 - 1) ∧ ((r8 - 1 < v3 → ∃ b16, g_r M5 a0 0 = some b16 ∧ ∃ n18, g_A M5 b16 0 n18 ∧ ((0 : Int) ≤ r8 - 1 ∧ (r8 - 1 : Int) < n18) ∧ ((g_i M5 b16 (r8 - 1) = 0 → ∃ b21, g_r M5 a0 0 = some b21 ∧ g_Call d 126 [.ref b21, g_n (v2 + 1), g_n (r8 - 1)] M5 (g_qI fun r26 M23 => g_ext M5 M23 → g_ok M23 → g_InR r26 → ((r26 < 0 → ((v4 < 0 → g_Call d 100 [.ref a0, g_n v1, g_n v2, g_n (r8 - 1)] M23 (g_qI fun r31 M28 => g_ext M23 M28 → g_ok M28 → g_InR r31 → ((r31 = 0 → g_InR ((r8 - 1) + 1) ∧ g_Call d 101 [.ref a0, g_n v6, g_n ((r8 - 1) + 1), g_n v3, g_n v5] M28 (g_qI fun r37 M34 => g_ext M28 M34 → g_ok M34 → g_InR r37 → Q r37 M34)) ∧ (¬ r31 = 0 → g_Call d 97 [.ref a0, g_n 7, g_n (v2 + 1)] M28 (g_qI fun r42 M39 => g_ext M28 M39 → g_ok M39 → g_InR r42 → Q r42 M39))))) ∧ (¬ v4 < 0 → ∃ b44, g_r M23 a0 0 = some b44 ∧ g_Call d 125 [.ref b44, g_n (v2 + 1), g_n (r8 - 1), g_n v4] M23 (g_qI fun r49 M46 => g_ext M23 M46 → g_ok M46 → g_InR r49 → ((r49 = 0 → g_Call d 97 [.ref a0, g_n 7, g_n (v2 + 1)] M46 (g_qI fun r60 M57 => g_ext M46 M57 → g_ok M57 → g_InR r60 → Q r60 M57)) ∧ (¬ r49 = 0 → g_InR ((r8 - 1) + 1) ∧ g_Call d 101 [.ref a0, g_n v6, g_n ((r8 - 1) + 1), g_n v3, g_n v5] M46 (g_qI fun r55 M52 => g_ext M46 M52 → g_ok M52 → g_InR r55 → Q r55 M52))))))) ∧ (¬ r26 < 0 → g_Call d 97 [.ref a0, g_n 4, g_n r26] M23 (g_qI fun r65 M62 => g_ext M23 M62 → g_ok M62 → g_InR r65 → Q r65 M62))))) ∧ (¬ g_i M5 b16 (r8 - 1) = 0 → g_Call d 97 [.ref a0, g_n 1, g_n (v2 + 1)] M5 (g_qI fun r70 M67 => g_ext M5 M67 → g_ok M67 → g_InR r70 → Q r70 M67)))) ∧ (¬ r8 - 1 < v3 → g_Call d 97 [.ref a0, g_n 1, g_n (v2 + 1)] M5 (g_qI fun r14 M11 => g_ext M5 M11 → g_ok M11 → g_InR r14 → Q r14 M11))))) : g_Run d 99 73 [(0, .ref a0), (1, g_n v1), (2, g_n v2), (3, g_n v3), (4, g_n v4), (5, g_n v5), (6, g_n v6)] [] M (g_qI Q) := by
  refine g_Run.ok fun hok => ?_
  replace h := h hok
  refine r_iload_n x_99_73 rfl ?_
  refine r_iconst x_99_74 ?_
  refine r_iadd x_99_75 ?_
  obtain ⟨h1, h⟩ := h
  refine r_istore x_99_76 (by decide +kernel) rfl (lv1 := [(0, .ref a0), (1, g_n v1), (2, g_n v2), (3, g_n v3), (4, g_n v4), (5, g_n v5), (6, g_n v6), (7, g_n (v2 + 1))]) rfl ?_
  refine r_aload_n x_99_78 rfl ?_
  obtain ⟨hO2, h⟩ := h
  obtain ⟨b3, hb4, h⟩ := h
  refine r_getR x_99_79 rfl (ci := 6) (k := 0) (ns := 0) (by decide +kernel) (by decide) rfl (kz := 0) rfl hO2 hb4 ?_
  refine r_iload_n x_99_82 rfl ?_
  refine r_invS x_99_83 (z := 110) (ns := 1) (by decide +kernel) (as := [.ref b3, g_n v2]) (r := []) rfl rfl rfl ?_
  refine r_callI h fun r8 M5 hx6 hok7 hr9 h => ?_
  replace h := h hx6 hok7 hr9
  replace hO2 := hO2.up hx6
  refine r_iconst x_99_86 ?_
  refine r_isub x_99_87 ?_
  obtain ⟨h10, h⟩ := h
  refine r_istore x_99_88 (by decide +kernel) rfl (lv1 := [(0, .ref a0), (1, g_n v1), (2, g_n v2), (3, g_n v3), (4, g_n v4), (5, g_n v5), (6, g_n v6), (7, g_n (v2 + 1)), (8, g_n (r8 - 1))]) rfl ?_
  refine r_iload x_99_90 rfl ?_
  refine r_iload_n x_99_92 rfl ?_
  refine r_ic_ge x_99_93 (t := 106) (by decide +kernel) h10 hv3 (fun hc => ?_) (fun hc => ?_)
  · replace h := h.2 hc
    refine r_aload_n x_99_106 rfl ?_
    refine r_iconst x_99_107 ?_
    refine r_iload x_99_108 rfl ?_
    refine r_invV x_99_110 (z := 97) (ns := 0) (by decide +kernel) (as := [g_n 1, g_n (v2 + 1)]) (r := []) rfl rfl rfl hO2 rfl rfl ?_
    refine r_callI h fun r14 M11 hx12 hok13 hr15 h => ?_
    replace h := h hx12 hok13 hr15
    replace hO2 := hO2.up hx12
    exact r_retI x_99_113 rfl hr15 h
  · replace h := h.1 hc
    refine r_aload_n x_99_96 rfl ?_
    obtain ⟨b16, hb17, h⟩ := h
    refine r_getR x_99_97 rfl (ci := 6) (k := 0) (ns := 0) (by decide +kernel) (by decide) rfl (kz := 0) rfl hO2 hb17 ?_
    refine r_iload x_99_100 rfl ?_
    obtain ⟨n18, hA19, h⟩ := h
    obtain ⟨h20, h⟩ := h
    refine r_bald x_99_102 (Or.inl rfl) hA19 h10 h20.1 h20.2 ?_
    refine r_if_eq x_99_103 (t := 114) (by decide +kernel) (hok7.1 _ _) (fun hc => ?_) (fun hc => ?_)
    · replace h := h.1 hc
      refine r_aload_n x_99_114 rfl ?_
      obtain ⟨b21, hb22, h⟩ := h
      refine r_getR x_99_115 rfl (ci := 6) (k := 0) (ns := 0) (by decide +kernel) (by decide) rfl (kz := 0) rfl hO2 hb22 ?_
      refine r_iload x_99_118 rfl ?_
      refine r_iload x_99_120 rfl ?_
      refine r_invS x_99_122 (z := 126) (ns := 1) (by decide +kernel) (as := [.ref b21, g_n (v2 + 1), g_n (r8 - 1)]) (r := []) rfl rfl rfl ?_
      refine r_callI h fun r26 M23 hx24 hok25 hr27 h => ?_
      replace h := h hx24 hok25 hr27
      replace hO2 := hO2.up hx24
      replace hA19 := hA19.up hx24
      refine r_istore x_99_125 (by decide +kernel) rfl (lv1 := [(0, .ref a0), (1, g_n v1), (2, g_n v2), (3, g_n v3), (4, g_n v4), (5, g_n v5), (6, g_n v6), (7, g_n (v2 + 1)), (8, g_n (r8 - 1)), (9, g_n r26)]) rfl ?_
      refine r_iload x_99_127 rfl ?_
      refine r_if_lt x_99_129 (t := 140) (by decide +kernel) hr27 (fun hc => ?_) (fun hc => ?_)
      · replace h := h.1 hc
        refine r_iload x_99_140 rfl ?_
        refine r_if_lt x_99_142 (t := 164) (by decide +kernel) hv4 (fun hc => ?_) (fun hc => ?_)
        · replace h := h.1 hc
          refine r_aload_n x_99_164 rfl ?_
          refine r_iload_n x_99_165 rfl ?_
          refine r_iload_n x_99_166 rfl ?_
          refine r_iload x_99_167 rfl ?_
          refine r_invV x_99_169 (z := 100) (ns := 0) (by decide +kernel) (as := [g_n v1, g_n v2, g_n (r8 - 1)]) (r := []) rfl rfl rfl hO2 rfl rfl ?_
          refine r_callI h fun r31 M28 hx29 hok30 hr32 h => ?_
          replace h := h hx29 hok30 hr32
          replace hO2 := hO2.up hx29
          replace hA19 := hA19.up hx29
          refine r_if_eq x_99_172 (t := 184) (by decide +kernel) hr32 (fun hc => ?_) (fun hc => ?_)
          · replace h := h.1 hc
            refine r_aload_n x_99_184 rfl ?_
            refine r_iload x_99_185 rfl ?_
            refine r_iload x_99_187 rfl ?_
            refine r_iconst x_99_189 ?_
            refine r_iadd x_99_190 ?_
            obtain ⟨h33, h⟩ := h
            refine r_iload_n x_99_191 rfl ?_
            refine r_iload x_99_192 rfl ?_
            refine r_invV x_99_194 (z := 101) (ns := 0) (by decide +kernel) (as := [g_n v6, g_n ((r8 - 1) + 1), g_n v3, g_n v5]) (r := []) rfl rfl rfl hO2 rfl rfl ?_
            refine r_callI h fun r37 M34 hx35 hok36 hr38 h => ?_
            replace h := h hx35 hok36 hr38
            replace hO2 := hO2.up hx35
            replace hA19 := hA19.up hx35
            exact r_retI x_99_197 rfl hr38 h
          · replace h := h.2 hc
            refine r_aload_n x_99_175 rfl ?_
            refine r_bipush x_99_176 (x := 7) rfl ?_
            refine r_iload x_99_178 rfl ?_
            refine r_invV x_99_180 (z := 97) (ns := 0) (by decide +kernel) (as := [g_n 7, g_n (v2 + 1)]) (r := []) rfl rfl rfl hO2 rfl rfl ?_
            refine r_callI h fun r42 M39 hx40 hok41 hr43 h => ?_
            replace h := h hx40 hok41 hr43
            replace hO2 := hO2.up hx40
            replace hA19 := hA19.up hx40
            exact r_retI x_99_183 rfl hr43 h
        · replace h := h.2 hc
          refine r_aload_n x_99_145 rfl ?_
          obtain ⟨b44, hb45, h⟩ := h
          refine r_getR x_99_146 rfl (ci := 6) (k := 0) (ns := 0) (by decide +kernel) (by decide) rfl (kz := 0) rfl hO2 hb45 ?_
          refine r_iload x_99_149 rfl ?_
          refine r_iload x_99_151 rfl ?_
          refine r_iload x_99_153 rfl ?_
          refine r_invS x_99_155 (z := 125) (ns := 1) (by decide +kernel) (as := [.ref b44, g_n (v2 + 1), g_n (r8 - 1), g_n v4]) (r := []) rfl rfl rfl ?_
          refine r_callI h fun r49 M46 hx47 hok48 hr50 h => ?_
          replace h := h hx47 hok48 hr50
          replace hO2 := hO2.up hx47
          replace hA19 := hA19.up hx47
          refine r_if_ne x_99_158 (t := 184) (by decide +kernel) hr50 (fun hc => ?_) (fun hc => ?_)
          · replace h := h.2 hc
            refine r_aload_n x_99_184 rfl ?_
            refine r_iload x_99_185 rfl ?_
            refine r_iload x_99_187 rfl ?_
            refine r_iconst x_99_189 ?_
            refine r_iadd x_99_190 ?_
            obtain ⟨h51, h⟩ := h
            refine r_iload_n x_99_191 rfl ?_
            refine r_iload x_99_192 rfl ?_
            refine r_invV x_99_194 (z := 101) (ns := 0) (by decide +kernel) (as := [g_n v6, g_n ((r8 - 1) + 1), g_n v3, g_n v5]) (r := []) rfl rfl rfl hO2 rfl rfl ?_
            refine r_callI h fun r55 M52 hx53 hok54 hr56 h => ?_
            replace h := h hx53 hok54 hr56
            replace hO2 := hO2.up hx53
            replace hA19 := hA19.up hx53
            exact r_retI x_99_197 rfl hr56 h
          · replace h := h.1 hc
            refine r_goto x_99_161 (t := 175) (by decide +kernel) ?_
            refine r_aload_n x_99_175 rfl ?_
            refine r_bipush x_99_176 (x := 7) rfl ?_
            refine r_iload x_99_178 rfl ?_
            refine r_invV x_99_180 (z := 97) (ns := 0) (by decide +kernel) (as := [g_n 7, g_n (v2 + 1)]) (r := []) rfl rfl rfl hO2 rfl rfl ?_
            refine r_callI h fun r60 M57 hx58 hok59 hr61 h => ?_
            replace h := h hx58 hok59 hr61
            replace hO2 := hO2.up hx58
            replace hA19 := hA19.up hx58
            exact r_retI x_99_183 rfl hr61 h
      · replace h := h.2 hc
        refine r_aload_n x_99_132 rfl ?_
        refine r_iconst x_99_133 ?_
        refine r_iload x_99_134 rfl ?_
        refine r_invV x_99_136 (z := 97) (ns := 0) (by decide +kernel) (as := [g_n 4, g_n r26]) (r := []) rfl rfl rfl hO2 rfl rfl ?_
        refine r_callI h fun r65 M62 hx63 hok64 hr66 h => ?_
        replace h := h hx63 hok64 hr66
        replace hO2 := hO2.up hx63
        replace hA19 := hA19.up hx63
        exact r_retI x_99_139 rfl hr66 h
    · replace h := h.2 hc
      refine r_aload_n x_99_106 rfl ?_
      refine r_iconst x_99_107 ?_
      refine r_iload x_99_108 rfl ?_
      refine r_invV x_99_110 (z := 97) (ns := 0) (by decide +kernel) (as := [g_n 1, g_n (v2 + 1)]) (r := []) rfl rfl rfl hO2 rfl rfl ?_
      refine r_callI h fun r70 M67 hx68 hok69 hr71 h => ?_
      replace h := h hx68 hok69 hr71
      replace hO2 := hO2.up hx68
      replace hA19 := hA19.up hx68
      exact r_retI x_99_113 rfl hr71 h
theorem m_X6_stoodAhead {d : Nat} {M : g_M} {Q : Int → g_M → Prop} {a0 : Nat} {v1 : Int} (hv1 : g_InR v1) {v2 : Int} (hv2 : g_InR v2) {v3 : Int} (hv3 : g_InR v3) (h : g_ok M → g_Run d 100 6 [(0, .ref a0), (1, g_n v1), (2, g_n v2), (3, g_n v3), (4, g_n v1), (5, g_n 0)] [] M (g_qI Q)) : g_Call (d + 1) 100 [.ref a0, g_n v1, g_n v2, g_n v3] M (g_qI Q) := by
  refine g_Call.ok fun hok0 => ?_
  replace h := h hok0
  refine r_body rfl (lv := [(0, .ref a0), (1, g_n v1), (2, g_n v2), (3, g_n v3)]) rfl ?_
  refine g_Run.ok fun hok => ?_
  refine r_iload_n x_100_0 rfl ?_
  refine r_istore x_100_1 (by decide +kernel) rfl (lv1 := [(0, .ref a0), (1, g_n v1), (2, g_n v2), (3, g_n v3), (4, g_n v1)]) rfl ?_
  refine r_iconst x_100_3 ?_
  refine r_istore x_100_4 (by decide +kernel) rfl (lv1 := [(0, .ref a0), (1, g_n v1), (2, g_n v2), (3, g_n v3), (4, g_n v1), (5, g_n 0)]) rfl ?_
  exact h
theorem s_X6_stoodAhead_6 {d : Nat} {M : g_M} {Q : Int → g_M → Prop} {a0 : Nat} {v1 : Int} (hv1 : g_InR v1) {v2 : Int} (hv2 : g_InR v2) {v3 : Int} (hv3 : g_InR v3) {v4 : Int} (hv4 : g_InR v4) {v5 : Int} (hv5 : g_InR v5) (h : g_ok M → ((v5 < 2000 → ((v4 < v2 → g_O M a0 6 ∧ ∃ b2, g_r M a0 0 = some b2 ∧ g_InR (v4 + 1) ∧ ∃ b5, g_r M a0 0 = some b5 ∧ g_Call d 110 [.ref b5, g_n v4] M (g_qI fun r10 M7 => g_ext M M7 → g_ok M7 → g_InR r10 → g_InR (r10 - 1) ∧ ∃ b13, g_r M7 a0 0 = some b13 ∧ g_InR (v2 + 1) ∧ g_Call d 123 [.ref b2, g_n (v4 + 1), g_n (r10 - 1), .ref b13, g_n (v2 + 1), g_n v3] M7 (g_qI fun r19 M16 => g_ext M7 M16 → g_ok M16 → g_InR r19 → ((r19 = 0 → Q 1 M16) ∧ (¬ r19 = 0 → ∃ b21, g_r M16 a0 0 = some b21 ∧ g_Call d 111 [.ref b21, g_n v4] M16 (g_qI fun r26 M23 => g_ext M16 M23 → g_ok M23 → g_InR r26 → g_InR (v5 + 1) ∧ g_Run d 100 6 [(0, .ref a0), (1, g_n v1), (2, g_n v2), (3, g_n v3), (4, g_n r26), (5, g_n (v5 + 1))] [] M23 (g_qI Q))))))) ∧ (¬ v4 < v2 → Q 0 M))) ∧ (¬ v5 < 2000 → Q 0 M))) : g_Run d 100 6 [(0, .ref a0), (1, g_n v1), (2, g_n v2), (3, g_n v3), (4, g_n v4), (5, g_n v5)] [] M (g_qI Q) := by
  refine g_Run.ok fun hok => ?_
  replace h := h hok
  refine r_iload x_100_6 rfl ?_
  refine r_sipush x_100_8 (x := 2000) rfl ?_
  refine r_ic_ge x_100_11 (t := 72) (by decide +kernel) hv5 (g_Rk rfl) (fun hc => ?_) (fun hc => ?_)
  · replace h := h.2 hc
    refine r_iconst x_100_72 ?_
    exact r_retZ x_100_73 rfl (Or.inl rfl) h
  · replace h := h.1 hc
    refine r_iload x_100_14 rfl ?_
    refine r_iload_n x_100_16 rfl ?_
    refine r_ic_ge x_100_17 (t := 72) (by decide +kernel) hv4 hv2 (fun hc => ?_) (fun hc => ?_)
    · replace h := h.2 hc
      refine r_iconst x_100_72 ?_
      exact r_retZ x_100_73 rfl (Or.inl rfl) h
    · replace h := h.1 hc
      refine r_aload_n x_100_20 rfl ?_
      obtain ⟨hO1, h⟩ := h
      obtain ⟨b2, hb3, h⟩ := h
      refine r_getR x_100_21 rfl (ci := 6) (k := 0) (ns := 0) (by decide +kernel) (by decide) rfl (kz := 0) rfl hO1 hb3 ?_
      refine r_iload x_100_24 rfl ?_
      refine r_iconst x_100_26 ?_
      refine r_iadd x_100_27 ?_
      obtain ⟨h4, h⟩ := h
      refine r_aload_n x_100_28 rfl ?_
      obtain ⟨b5, hb6, h⟩ := h
      refine r_getR x_100_29 rfl (ci := 6) (k := 0) (ns := 0) (by decide +kernel) (by decide) rfl (kz := 0) rfl hO1 hb6 ?_
      refine r_iload x_100_32 rfl ?_
      refine r_invS x_100_34 (z := 110) (ns := 1) (by decide +kernel) (as := [.ref b5, g_n v4]) (r := [g_n (v4 + 1), .ref b2]) rfl rfl rfl ?_
      refine r_callI h fun r10 M7 hx8 hok9 hr11 h => ?_
      replace h := h hx8 hok9 hr11
      replace hO1 := hO1.up hx8
      refine r_iconst x_100_37 ?_
      refine r_isub x_100_38 ?_
      obtain ⟨h12, h⟩ := h
      refine r_aload_n x_100_39 rfl ?_
      obtain ⟨b13, hb14, h⟩ := h
      refine r_getR x_100_40 rfl (ci := 6) (k := 0) (ns := 0) (by decide +kernel) (by decide) rfl (kz := 0) rfl hO1 hb14 ?_
      refine r_iload_n x_100_43 rfl ?_
      refine r_iconst x_100_44 ?_
      refine r_iadd x_100_45 ?_
      obtain ⟨h15, h⟩ := h
      refine r_iload_n x_100_46 rfl ?_
      refine r_invS x_100_47 (z := 123) (ns := 1) (by decide +kernel) (as := [.ref b2, g_n (v4 + 1), g_n (r10 - 1), .ref b13, g_n (v2 + 1), g_n v3]) (r := []) rfl rfl rfl ?_
      refine r_callI h fun r19 M16 hx17 hok18 hr20 h => ?_
      replace h := h hx17 hok18 hr20
      replace hO1 := hO1.up hx17
      refine r_if_ne x_100_50 (t := 55) (by decide +kernel) hr20 (fun hc => ?_) (fun hc => ?_)
      · replace h := h.2 hc
        refine r_aload_n x_100_55 rfl ?_
        obtain ⟨b21, hb22, h⟩ := h
        refine r_getR x_100_56 rfl (ci := 6) (k := 0) (ns := 0) (by decide +kernel) (by decide) rfl (kz := 0) rfl hO1 hb22 ?_
        refine r_iload x_100_59 rfl ?_
        refine r_invS x_100_61 (z := 111) (ns := 1) (by decide +kernel) (as := [.ref b21, g_n v4]) (r := []) rfl rfl rfl ?_
        refine r_callI h fun r26 M23 hx24 hok25 hr27 h => ?_
        replace h := h hx24 hok25 hr27
        replace hO1 := hO1.up hx24
        refine r_istore x_100_64 (by decide +kernel) rfl (lv1 := [(0, .ref a0), (1, g_n v1), (2, g_n v2), (3, g_n v3), (4, g_n r26), (5, g_n v5)]) rfl ?_
        obtain ⟨h28, h⟩ := h
        refine r_iinc x_100_66 (by decide +kernel) rfl rfl (lv1 := [(0, .ref a0), (1, g_n v1), (2, g_n v2), (3, g_n v3), (4, g_n r26), (5, g_n (v5 + 1))]) rfl ?_
        refine r_goto x_100_69 (t := 6) (by decide +kernel) ?_
        exact h
      · replace h := h.1 hc
        refine r_iconst x_100_53 ?_
        exact r_retZ x_100_54 rfl (Or.inr rfl) h
theorem m_X6_value {d : Nat} {M : g_M} {Q : Int → g_M → Prop} {a0 : Nat} {v1 : Int} (hv1 : g_InR v1) {v2 : Int} (hv2 : g_InR v2) {v3 : Int} (hv3 : g_InR v3) {v4 : Int} (hv4 : g_InR v4) (h : g_ok M → g_InR (v3 - v2) ∧ ((v1 = 2 → g_O M a0 6 ∧ g_Call d 102 [.ref a0, g_n v2, g_n (v3 - v2)] M (g_qI fun r6 M3 => g_ext M M3 → g_ok M3 → g_InR r6 → Q r6 M3)) ∧ (¬ v1 = 2 → ((v1 = 8 → ((v3 - v2 < 1 → g_O M a0 6 ∧ g_Call d 97 [.ref a0, g_n 1, g_n v2] M (g_qI fun r31 M28 => g_ext M M28 → g_ok M28 → g_InR r31 → Q r31 M28)) ∧ (¬ v3 - v2 < 1 → g_O M a0 6 ∧ ∃ b10, g_r M a0 0 = some b10 ∧ ∃ n12, g_A M b10 0 n12 ∧ ((0 : Int) ≤ v2 ∧ (v2 : Int) < n12) ∧ ((g_i M b10 v2 = 0 → g_InR (v2 + 1) ∧ Q (v2 + 1) M) ∧ (¬ g_i M b10 v2 = 0 → ∃ b16, g_r M a0 0 = some b16 ∧ ∃ n18, g_A M b16 0 n18 ∧ ((0 : Int) ≤ v2 ∧ (v2 : Int) < n18) ∧ ((g_i M b16 v2 = 1 → g_InR (v2 + 1) ∧ Q (v2 + 1) M) ∧ (¬ g_i M b16 v2 = 1 → g_Call d 97 [.ref a0, g_n 5, g_n v2] M (g_qI fun r24 M21 => g_ext M M21 → g_ok M21 → g_InR r24 → Q r24 M21)))))))) ∧ (¬ v1 = 8 → ((v1 = 10 → Q v2 M) ∧ (¬ v1 = 10 → ((v1 = 16 → ((v3 - v2 < 4 → g_O M a0 6 ∧ g_Call d 97 [.ref a0, g_n 1, g_n v2] M (g_qI fun r40 M37 => g_ext M M37 → g_ok M37 → g_InR r40 → Q r40 M37)) ∧ (¬ v3 - v2 < 4 → g_InR (v2 + 4) ∧ Q (v2 + 4) M))) ∧ (¬ v1 = 16 → ((v1 = 18 → ((v3 - v2 < 8 → g_O M a0 6 ∧ g_Call d 97 [.ref a0, g_n 1, g_n v2] M (g_qI fun r48 M45 => g_ext M M45 → g_ok M45 → g_InR r48 → Q r48 M45)) ∧ (¬ v3 - v2 < 8 → g_InR (v2 + 8) ∧ Q (v2 + 8) M))) ∧ (¬ v1 = 18 → g_InR (v4 + 1) ∧ g_O M a0 6 ∧ g_Call d 98 [.ref a0, g_n v2, g_n v3, g_n v1, g_n (v4 + 1)] M (g_qI fun r56 M53 => g_ext M M53 → g_ok M53 → g_InR r56 → Q r56 M53)))))))))))) : g_Call (d + 1) 101 [.ref a0, g_n v1, g_n v2, g_n v3, g_n v4] M (g_qI Q) := by
  refine g_Call.ok fun hok0 => ?_
  replace h := h hok0
  refine r_body rfl (lv := [(0, .ref a0), (1, g_n v1), (2, g_n v2), (3, g_n v3), (4, g_n v4)]) rfl ?_
  refine g_Run.ok fun hok => ?_
  refine r_iload_n x_101_0 rfl ?_
  refine r_iload_n x_101_1 rfl ?_
  refine r_isub x_101_2 ?_
  obtain ⟨h1, h⟩ := h
  refine r_istore x_101_3 (by decide +kernel) rfl (lv1 := [(0, .ref a0), (1, g_n v1), (2, g_n v2), (3, g_n v3), (4, g_n v4), (5, g_n (v3 - v2))]) rfl ?_
  refine r_iload_n x_101_5 rfl ?_
  by_cases hk8 : v1 = 2
  · refine r_lookupAt x_101_6 hk8 (t := 143) (g_Rk rfl) (by decide +kernel) (by decide +kernel) ?_
    replace h := h.1 hk8
    refine r_aload_n x_101_143 rfl ?_
    refine r_iload_n x_101_144 rfl ?_
    refine r_iload x_101_145 rfl ?_
    obtain ⟨hO2, h⟩ := h
    refine r_invV x_101_147 (z := 102) (ns := 0) (by decide +kernel) (as := [g_n v2, g_n (v3 - v2)]) (r := []) rfl rfl rfl hO2 rfl rfl ?_
    refine r_callI h fun r6 M3 hx4 hok5 hr7 h => ?_
    replace h := h hx4 hok5 hr7
    replace hO2 := hO2.up hx4
    exact r_retI x_101_150 rfl hr7 h
  replace h := h.2 hk8
  by_cases hk33 : v1 = 8
  · refine r_lookupAt x_101_6 hk33 (t := 98) (g_Rk rfl) (by decide +kernel) (by decide +kernel) ?_
    replace h := h.1 hk33
    refine r_iload x_101_98 rfl ?_
    refine r_iconst x_101_100 ?_
    refine r_ic_ge x_101_101 (t := 111) (by decide +kernel) h1 (g_Rk rfl) (fun hc => ?_) (fun hc => ?_)
    · replace h := h.2 hc
      refine r_aload_n x_101_111 rfl ?_
      obtain ⟨hO9, h⟩ := h
      obtain ⟨b10, hb11, h⟩ := h
      refine r_getR x_101_112 rfl (ci := 6) (k := 0) (ns := 0) (by decide +kernel) (by decide) rfl (kz := 0) rfl hO9 hb11 ?_
      refine r_iload_n x_101_115 rfl ?_
      obtain ⟨n12, hA13, h⟩ := h
      obtain ⟨h14, h⟩ := h
      refine r_bald x_101_116 (Or.inl rfl) hA13 hv2 h14.1 h14.2 ?_
      refine r_if_eq x_101_117 (t := 130) (by decide +kernel) (hok.1 _ _) (fun hc => ?_) (fun hc => ?_)
      · replace h := h.1 hc
        refine r_iload_n x_101_130 rfl ?_
        refine r_iconst x_101_131 ?_
        refine r_iadd x_101_132 ?_
        obtain ⟨h15, h⟩ := h
        refine r_goto x_101_133 (t := 142) (by decide +kernel) ?_
        exact r_retI x_101_142 rfl h15 h
      · replace h := h.2 hc
        refine r_aload_n x_101_120 rfl ?_
        obtain ⟨b16, hb17, h⟩ := h
        refine r_getR x_101_121 rfl (ci := 6) (k := 0) (ns := 0) (by decide +kernel) (by decide) rfl (kz := 0) rfl hO9 hb17 ?_
        refine r_iload_n x_101_124 rfl ?_
        obtain ⟨n18, hA19, h⟩ := h
        obtain ⟨h20, h⟩ := h
        refine r_bald x_101_125 (Or.inl rfl) hA19 hv2 h20.1 h20.2 ?_
        refine r_iconst x_101_126 ?_
        refine r_ic_ne x_101_127 (t := 136) (by decide +kernel) (hok.1 _ _) (g_Rk rfl) (fun hc => ?_) (fun hc => ?_)
        · replace h := h.2 hc
          refine r_aload_n x_101_136 rfl ?_
          refine r_iconst x_101_137 ?_
          refine r_iload_n x_101_138 rfl ?_
          refine r_invV x_101_139 (z := 97) (ns := 0) (by decide +kernel) (as := [g_n 5, g_n v2]) (r := []) rfl rfl rfl hO9 rfl rfl ?_
          refine r_callI h fun r24 M21 hx22 hok23 hr25 h => ?_
          replace h := h hx22 hok23 hr25
          replace hO9 := hO9.up hx22
          replace hA13 := hA13.up hx22
          replace hA19 := hA19.up hx22
          exact r_retI x_101_142 rfl hr25 h
        · replace h := h.1 hc
          refine r_iload_n x_101_130 rfl ?_
          refine r_iconst x_101_131 ?_
          refine r_iadd x_101_132 ?_
          obtain ⟨h26, h⟩ := h
          refine r_goto x_101_133 (t := 142) (by decide +kernel) ?_
          exact r_retI x_101_142 rfl h26 h
    · replace h := h.1 hc
      refine r_aload_n x_101_104 rfl ?_
      refine r_iconst x_101_105 ?_
      refine r_iload_n x_101_106 rfl ?_
      obtain ⟨hO27, h⟩ := h
      refine r_invV x_101_107 (z := 97) (ns := 0) (by decide +kernel) (as := [g_n 1, g_n v2]) (r := []) rfl rfl rfl hO27 rfl rfl ?_
      refine r_callI h fun r31 M28 hx29 hok30 hr32 h => ?_
      replace h := h hx29 hok30 hr32
      replace hO27 := hO27.up hx29
      exact r_retI x_101_110 rfl hr32 h
  replace h := h.2 hk33
  by_cases hk34 : v1 = 10
  · refine r_lookupAt x_101_6 hk34 (t := 96) (g_Rk rfl) (by decide +kernel) (by decide +kernel) ?_
    replace h := h.1 hk34
    refine r_iload_n x_101_96 rfl ?_
    exact r_retI x_101_97 rfl hv2 h
  replace h := h.2 hk34
  by_cases hk42 : v1 = 16
  · refine r_lookupAt x_101_6 hk42 (t := 56) (g_Rk rfl) (by decide +kernel) (by decide +kernel) ?_
    replace h := h.1 hk42
    refine r_iload x_101_56 rfl ?_
    refine r_iconst x_101_58 ?_
    refine r_ic_ge x_101_59 (t := 71) (by decide +kernel) h1 (g_Rk rfl) (fun hc => ?_) (fun hc => ?_)
    · replace h := h.2 hc
      refine r_iload_n x_101_71 rfl ?_
      refine r_iconst x_101_72 ?_
      refine r_iadd x_101_73 ?_
      obtain ⟨h35, h⟩ := h
      exact r_retI x_101_74 rfl h35 h
    · replace h := h.1 hc
      refine r_aload_n x_101_62 rfl ?_
      refine r_iconst x_101_63 ?_
      refine r_iload_n x_101_64 rfl ?_
      obtain ⟨hO36, h⟩ := h
      refine r_invV x_101_65 (z := 97) (ns := 0) (by decide +kernel) (as := [g_n 1, g_n v2]) (r := []) rfl rfl rfl hO36 rfl rfl ?_
      refine r_callI h fun r40 M37 hx38 hok39 hr41 h => ?_
      replace h := h hx38 hok39 hr41
      replace hO36 := hO36.up hx38
      refine r_goto x_101_68 (t := 74) (by decide +kernel) ?_
      exact r_retI x_101_74 rfl hr41 h
  replace h := h.2 hk42
  by_cases hk50 : v1 = 18
  · refine r_lookupAt x_101_6 hk50 (t := 75) (g_Rk rfl) (by decide +kernel) (by decide +kernel) ?_
    replace h := h.1 hk50
    refine r_iload x_101_75 rfl ?_
    refine r_bipush x_101_77 (x := 8) rfl ?_
    refine r_ic_ge x_101_79 (t := 91) (by decide +kernel) h1 (g_Rk rfl) (fun hc => ?_) (fun hc => ?_)
    · replace h := h.2 hc
      refine r_iload_n x_101_91 rfl ?_
      refine r_bipush x_101_92 (x := 8) rfl ?_
      refine r_iadd x_101_94 ?_
      obtain ⟨h43, h⟩ := h
      exact r_retI x_101_95 rfl h43 h
    · replace h := h.1 hc
      refine r_aload_n x_101_82 rfl ?_
      refine r_iconst x_101_83 ?_
      refine r_iload_n x_101_84 rfl ?_
      obtain ⟨hO44, h⟩ := h
      refine r_invV x_101_85 (z := 97) (ns := 0) (by decide +kernel) (as := [g_n 1, g_n v2]) (r := []) rfl rfl rfl hO44 rfl rfl ?_
      refine r_callI h fun r48 M45 hx46 hok47 hr49 h => ?_
      replace h := h hx46 hok47 hr49
      replace hO44 := hO44.up hx46
      refine r_goto x_101_88 (t := 95) (by decide +kernel) ?_
      exact r_retI x_101_95 rfl hr49 h
  replace h := h.2 hk50
  refine r_lookupD x_101_6 hv1 (t := 151) (by decide +kernel) (by show Op.lookupswitch.offset [(2, 137), (8, 92), (10, 90), (16, 50), (18, 69)] 145 _ = _; rw [Op.lookupswitch.offset_cons, if_neg (fun e => hk8 e.symm), Op.lookupswitch.offset_cons, if_neg (fun e => hk33 e.symm), Op.lookupswitch.offset_cons, if_neg (fun e => hk34 e.symm), Op.lookupswitch.offset_cons, if_neg (fun e => hk42 e.symm), Op.lookupswitch.offset_cons, if_neg (fun e => hk50 e.symm), Op.lookupswitch.offset_nil]) (by decide +kernel) ?_
  refine r_aload_n x_101_151 rfl ?_
  refine r_iload_n x_101_152 rfl ?_
  refine r_iload_n x_101_153 rfl ?_
  refine r_iload_n x_101_154 rfl ?_
  refine r_iload x_101_155 rfl ?_
  refine r_iconst x_101_157 ?_
  refine r_iadd x_101_158 ?_
  obtain ⟨h51, h⟩ := h
  obtain ⟨hO52, h⟩ := h
  refine r_invV x_101_159 (z := 98) (ns := 0) (by decide +kernel) (as := [g_n v2, g_n v3, g_n v1, g_n (v4 + 1)]) (r := []) rfl rfl rfl hO52 rfl rfl ?_
  refine r_callI h fun r56 M53 hx54 hok55 hr57 h => ?_
  replace h := h hx54 hok55 hr57
  replace hO52 := hO52.up hx54
  exact r_retI x_101_162 rfl hr57 h
theorem m_X6_text {d : Nat} {M : g_M} {Q : Int → g_M → Prop} {a0 : Nat} {v1 : Int} (hv1 : g_InR v1) {v2 : Int} (hv2 : g_InR v2) (h : g_ok M → ((v2 < 4 → g_O M a0 6 ∧ g_Call d 97 [.ref a0, g_n 1, g_n v1] M (g_qI fun r50 M47 => g_ext M M47 → g_ok M47 → g_InR r50 → Q r50 M47)) ∧ (¬ v2 < 4 → g_O M a0 6 ∧ ∃ b2, g_r M a0 0 = some b2 ∧ g_Call d 109 [.ref b2, g_n v1] M (g_qI fun r7 M4 => g_ext M M4 → g_ok M4 → g_InR r7 → ((g_lc ((Int64.ofInt r7) &&& 4294967295) 1 < 0 → g_Call d 97 [.ref a0, g_n 6, g_n v1] M4 (g_qI fun r44 M41 => g_ext M4 M41 → g_ok M41 → g_InR r44 → Q r44 M41)) ∧ (¬ g_lc ((Int64.ofInt r7) &&& 4294967295) 1 < 0 → g_InR (v2 - 4) ∧ ((0 < g_lc ((Int64.ofInt r7) &&& 4294967295) (Int64.ofInt (v2 - 4)) → g_Call d 97 [.ref a0, g_n 1, g_n v1] M4 (g_qI fun r39 M36 => g_ext M4 M36 → g_ok M36 → g_InR r39 → Q r39 M36)) ∧ (¬ 0 < g_lc ((Int64.ofInt r7) &&& 4294967295) (Int64.ofInt (v2 - 4)) → g_InR (v1 + 3) ∧ g_InR ((v1 + 3) + (((Int64.ofInt r7) &&& 4294967295).toInt32.toInt)) ∧ ∃ b12, g_r M4 a0 0 = some b12 ∧ ∃ n14, g_A M4 b12 0 n14 ∧ ((0 : Int) ≤ (v1 + 3) + (((Int64.ofInt r7) &&& 4294967295).toInt32.toInt) ∧ ((v1 + 3) + (((Int64.ofInt r7) &&& 4294967295).toInt32.toInt) : Int) < n14) ∧ ((g_i M4 b12 ((v1 + 3) + (((Int64.ofInt r7) &&& 4294967295).toInt32.toInt)) = 0 → ∃ b17, g_r M4 a0 0 = some b17 ∧ g_InR (v1 + 4) ∧ g_Call d 126 [.ref b17, g_n (v1 + 4), g_n ((v1 + 3) + (((Int64.ofInt r7) &&& 4294967295).toInt32.toInt))] M4 (g_qI fun r23 M20 => g_ext M4 M20 → g_ok M20 → g_InR r23 → ((r23 < 0 → g_InR (((v1 + 3) + (((Int64.ofInt r7) &&& 4294967295).toInt32.toInt)) + 1) ∧ Q (((v1 + 3) + (((Int64.ofInt r7) &&& 4294967295).toInt32.toInt)) + 1) M20) ∧ (¬ r23 < 0 → g_Call d 97 [.ref a0, g_n 4, g_n r23] M20 (g_qI fun r29 M26 => g_ext M20 M26 → g_ok M26 → g_InR r29 → Q r29 M26))))) ∧ (¬ g_i M4 b12 ((v1 + 3) + (((Int64.ofInt r7) &&& 4294967295).toInt32.toInt)) = 0 → g_Call d 97 [.ref a0, g_n 6, g_n ((v1 + 3) + (((Int64.ofInt r7) &&& 4294967295).toInt32.toInt))] M4 (g_qI fun r34 M31 => g_ext M4 M31 → g_ok M31 → g_InR r34 → Q r34 M31))))))))))) : g_Call (d + 1) 102 [.ref a0, g_n v1, g_n v2] M (g_qI Q) := by
  refine g_Call.ok fun hok0 => ?_
  replace h := h hok0
  refine r_body rfl (lv := [(0, .ref a0), (1, g_n v1), (2, g_n v2)]) rfl ?_
  refine g_Run.ok fun hok => ?_
  refine r_iload_n x_102_0 rfl ?_
  refine r_iconst x_102_1 ?_
  refine r_ic_ge x_102_2 (t := 12) (by decide +kernel) hv2 (g_Rk rfl) (fun hc => ?_) (fun hc => ?_)
  · replace h := h.2 hc
    refine r_aload_n x_102_12 rfl ?_
    obtain ⟨hO1, h⟩ := h
    obtain ⟨b2, hb3, h⟩ := h
    refine r_getR x_102_13 rfl (ci := 6) (k := 0) (ns := 0) (by decide +kernel) (by decide) rfl (kz := 0) rfl hO1 hb3 ?_
    refine r_iload_n x_102_16 rfl ?_
    refine r_invS x_102_17 (z := 109) (ns := 1) (by decide +kernel) (as := [.ref b2, g_n v1]) (r := []) rfl rfl rfl ?_
    refine r_callI h fun r7 M4 hx5 hok6 hr8 h => ?_
    replace h := h hx5 hok6 hr8
    replace hO1 := hO1.up hx5
    refine r_i2l x_102_20 hr8 ?_
    refine r_ldc2 x_102_21 (X := 4294967295) rfl ?_
    refine r_land x_102_24 ?_
    refine r_lstore_n x_102_25 (by decide +kernel) rfl (lv1 := [(0, .ref a0), (1, g_n v1), (2, g_n v2), (3, .long ((Int64.ofInt r7) &&& 4294967295))]) rfl ?_
    refine r_lload_n x_102_26 rfl ?_
    refine r_lconst x_102_27 ?_
    show g_Run d 102 28 [(0, .ref a0), (1, g_n v1), (2, g_n v2), (3, .long ((Int64.ofInt r7) &&& 4294967295))] [.long 1, .long ((Int64.ofInt r7) &&& 4294967295)] M4 _
    refine r_lcmp x_102_28 ?_
    refine r_if_ge x_102_29 (t := 40) (by decide +kernel) (g_InR_toInt _) (fun hc => ?_) (fun hc => ?_)
    · replace h := h.2 hc
      refine r_lload_n x_102_40 rfl ?_
      refine r_iload_n x_102_41 rfl ?_
      refine r_iconst x_102_42 ?_
      refine r_isub x_102_43 ?_
      obtain ⟨h9, h⟩ := h
      refine r_i2l x_102_44 h9 ?_
      refine r_lcmp x_102_45 ?_
      refine r_if_le x_102_46 (t := 56) (by decide +kernel) (g_InR_toInt _) (fun hc => ?_) (fun hc => ?_)
      · replace h := h.2 hc
        refine r_iload_n x_102_56 rfl ?_
        refine r_iconst x_102_57 ?_
        refine r_iadd x_102_58 ?_
        obtain ⟨h10, h⟩ := h
        refine r_lload_n x_102_59 rfl ?_
        refine r_l2i x_102_60 ?_
        refine r_iadd x_102_61 ?_
        obtain ⟨h11, h⟩ := h
        refine r_istore x_102_62 (by decide +kernel) rfl (lv1 := [(0, .ref a0), (1, g_n v1), (2, g_n v2), (3, .long ((Int64.ofInt r7) &&& 4294967295)), (5, g_n ((v1 + 3) + (((Int64.ofInt r7) &&& 4294967295).toInt32.toInt)))]) rfl ?_
        refine r_aload_n x_102_64 rfl ?_
        obtain ⟨b12, hb13, h⟩ := h
        refine r_getR x_102_65 rfl (ci := 6) (k := 0) (ns := 0) (by decide +kernel) (by decide) rfl (kz := 0) rfl hO1 hb13 ?_
        refine r_iload x_102_68 rfl ?_
        obtain ⟨n14, hA15, h⟩ := h
        obtain ⟨h16, h⟩ := h
        refine r_bald x_102_70 (Or.inl rfl) hA15 h11 h16.1 h16.2 ?_
        refine r_if_eq x_102_71 (t := 83) (by decide +kernel) (hok6.1 _ _) (fun hc => ?_) (fun hc => ?_)
        · replace h := h.1 hc
          refine r_aload_n x_102_83 rfl ?_
          obtain ⟨b17, hb18, h⟩ := h
          refine r_getR x_102_84 rfl (ci := 6) (k := 0) (ns := 0) (by decide +kernel) (by decide) rfl (kz := 0) rfl hO1 hb18 ?_
          refine r_iload_n x_102_87 rfl ?_
          refine r_iconst x_102_88 ?_
          refine r_iadd x_102_89 ?_
          obtain ⟨h19, h⟩ := h
          refine r_iload x_102_90 rfl ?_
          refine r_invS x_102_92 (z := 126) (ns := 1) (by decide +kernel) (as := [.ref b17, g_n (v1 + 4), g_n ((v1 + 3) + (((Int64.ofInt r7) &&& 4294967295).toInt32.toInt))]) (r := []) rfl rfl rfl ?_
          refine r_callI h fun r23 M20 hx21 hok22 hr24 h => ?_
          replace h := h hx21 hok22 hr24
          replace hO1 := hO1.up hx21
          replace hA15 := hA15.up hx21
          refine r_istore x_102_95 (by decide +kernel) rfl (lv1 := [(0, .ref a0), (1, g_n v1), (2, g_n v2), (3, .long ((Int64.ofInt r7) &&& 4294967295)), (5, g_n ((v1 + 3) + (((Int64.ofInt r7) &&& 4294967295).toInt32.toInt))), (6, g_n r23)]) rfl ?_
          refine r_iload x_102_97 rfl ?_
          refine r_if_lt x_102_99 (t := 112) (by decide +kernel) hr24 (fun hc => ?_) (fun hc => ?_)
          · replace h := h.1 hc
            refine r_iload x_102_112 rfl ?_
            refine r_iconst x_102_114 ?_
            refine r_iadd x_102_115 ?_
            obtain ⟨h25, h⟩ := h
            exact r_retI x_102_116 rfl h25 h
          · replace h := h.2 hc
            refine r_aload_n x_102_102 rfl ?_
            refine r_iconst x_102_103 ?_
            refine r_iload x_102_104 rfl ?_
            refine r_invV x_102_106 (z := 97) (ns := 0) (by decide +kernel) (as := [g_n 4, g_n r23]) (r := []) rfl rfl rfl hO1 rfl rfl ?_
            refine r_callI h fun r29 M26 hx27 hok28 hr30 h => ?_
            replace h := h hx27 hok28 hr30
            replace hO1 := hO1.up hx27
            replace hA15 := hA15.up hx27
            refine r_goto x_102_109 (t := 116) (by decide +kernel) ?_
            exact r_retI x_102_116 rfl hr30 h
        · replace h := h.2 hc
          refine r_aload_n x_102_74 rfl ?_
          refine r_bipush x_102_75 (x := 6) rfl ?_
          refine r_iload x_102_77 rfl ?_
          refine r_invV x_102_79 (z := 97) (ns := 0) (by decide +kernel) (as := [g_n 6, g_n ((v1 + 3) + (((Int64.ofInt r7) &&& 4294967295).toInt32.toInt))]) (r := []) rfl rfl rfl hO1 rfl rfl ?_
          refine r_callI h fun r34 M31 hx32 hok33 hr35 h => ?_
          replace h := h hx32 hok33 hr35
          replace hO1 := hO1.up hx32
          replace hA15 := hA15.up hx32
          exact r_retI x_102_82 rfl hr35 h
      · replace h := h.1 hc
        refine r_aload_n x_102_49 rfl ?_
        refine r_iconst x_102_50 ?_
        refine r_iload_n x_102_51 rfl ?_
        refine r_invV x_102_52 (z := 97) (ns := 0) (by decide +kernel) (as := [g_n 1, g_n v1]) (r := []) rfl rfl rfl hO1 rfl rfl ?_
        refine r_callI h fun r39 M36 hx37 hok38 hr40 h => ?_
        replace h := h hx37 hok38 hr40
        replace hO1 := hO1.up hx37
        exact r_retI x_102_55 rfl hr40 h
    · replace h := h.1 hc
      refine r_aload_n x_102_32 rfl ?_
      refine r_bipush x_102_33 (x := 6) rfl ?_
      refine r_iload_n x_102_35 rfl ?_
      refine r_invV x_102_36 (z := 97) (ns := 0) (by decide +kernel) (as := [g_n 6, g_n v1]) (r := []) rfl rfl rfl hO1 rfl rfl ?_
      refine r_callI h fun r44 M41 hx42 hok43 hr45 h => ?_
      replace h := h hx42 hok43 hr45
      replace hO1 := hO1.up hx42
      exact r_retI x_102_39 rfl hr45 h
  · replace h := h.1 hc
    refine r_aload_n x_102_5 rfl ?_
    refine r_iconst x_102_6 ?_
    refine r_iload_n x_102_7 rfl ?_
    obtain ⟨hO46, h⟩ := h
    refine r_invV x_102_8 (z := 97) (ns := 0) (by decide +kernel) (as := [g_n 1, g_n v1]) (r := []) rfl rfl rfl hO46 rfl rfl ?_
    refine r_callI h fun r50 M47 hx48 hok49 hr51 h => ?_
    replace h := h hx48 hok49 hr51
    replace hO46 := hO46.up hx48
    exact r_retI x_102_11 rfl hr51 h
