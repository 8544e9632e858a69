theorem x_90_0 : decode (q_code 90) 0 = .ok (.aload_n 0, 1) := by decide +kernel
theorem x_90_1 : decode (q_code 90) 1 = .ok (.aload_n 1, 1) := by decide +kernel
theorem x_90_2 : decode (q_code 90) 2 = .ok (.putfield 18, 3) := by decide +kernel
theorem x_90_5 : decode (q_code 90) 5 = .ok (.aload_n 0, 1) := by decide +kernel
theorem x_90_6 : decode (q_code 90) 6 = .ok (.iconst 0, 1) := by decide +kernel
theorem x_90_7 : decode (q_code 90) 7 = .ok (.putfield 22, 3) := by decide +kernel
theorem x_90_10 : decode (q_code 90) 10 = .ok (.aload_n 0, 1) := by decide +kernel
theorem x_90_11 : decode (q_code 90) 11 = .ok (.iconst 0, 1) := by decide +kernel
theorem x_90_12 : decode (q_code 90) 12 = .ok (.putfield 26, 3) := by decide +kernel
theorem x_90_15 : decode (q_code 90) 15 = .ok (.iload_n 2, 1) := by decide +kernel
theorem x_90_16 : decode (q_code 90) 16 = .ok (.ifCond .lt 14, 3) := by decide +kernel
theorem x_90_19 : decode (q_code 90) 19 = .ok (.iload_n 2, 1) := by decide +kernel
theorem x_90_20 : decode (q_code 90) 20 = .ok (.iload_n 3, 1) := by decide +kernel
theorem x_90_21 : decode (q_code 90) 21 = .ok (.if_icmp .ge 9, 3) := by decide +kernel
theorem x_90_24 : decode (q_code 90) 24 = .ok (.iload_n 3, 1) := by decide +kernel
theorem x_90_25 : decode (q_code 90) 25 = .ok (.aload_n 1, 1) := by decide +kernel
theorem x_90_26 : decode (q_code 90) 26 = .ok (.arraylength, 1) := by decide +kernel
theorem x_90_27 : decode (q_code 90) 27 = .ok (.if_icmp .le 5, 3) := by decide +kernel
theorem x_90_30 : decode (q_code 90) 30 = .ok (.iconst 0, 1) := by decide +kernel
theorem x_90_31 : decode (q_code 90) 31 = .ok (.ireturn, 1) := by decide +kernel
theorem x_90_32 : decode (q_code 90) 32 = .ok (.iload_n 2, 1) := by decide +kernel
theorem x_90_33 : decode (q_code 90) 33 = .ok (.istore 4, 2) := by decide +kernel
theorem x_90_35 : decode (q_code 90) 35 = .ok (.iload_n 2, 1) := by decide +kernel
theorem x_90_36 : decode (q_code 90) 36 = .ok (.istore 5, 2) := by decide +kernel
theorem x_90_38 : decode (q_code 90) 38 = .ok (.iload 5, 2) := by decide +kernel
theorem x_90_40 : decode (q_code 90) 40 = .ok (.iload_n 3, 1) := by decide +kernel
theorem x_90_41 : decode (q_code 90) 41 = .ok (.if_icmp .gt 114, 3) := by decide +kernel
theorem x_90_44 : decode (q_code 90) 44 = .ok (.iload 5, 2) := by decide +kernel
theorem x_90_46 : decode (q_code 90) 46 = .ok (.iload_n 3, 1) := by decide +kernel
theorem x_90_47 : decode (q_code 90) 47 = .ok (.if_icmp .ge 21, 3) := by decide +kernel
theorem x_90_50 : decode (q_code 90) 50 = .ok (.aload_n 1, 1) := by decide +kernel
theorem x_90_51 : decode (q_code 90) 51 = .ok (.iload 5, 2) := by decide +kernel
theorem x_90_53 : decode (q_code 90) 53 = .ok (.baload, 1) := by decide +kernel
theorem x_90_54 : decode (q_code 90) 54 = .ok (.bipush 46, 2) := by decide +kernel
theorem x_90_56 : decode (q_code 90) 56 = .ok (.if_icmp .eq 12, 3) := by decide +kernel
theorem x_90_59 : decode (q_code 90) 59 = .ok (.aload_n 1, 1) := by decide +kernel
theorem x_90_60 : decode (q_code 90) 60 = .ok (.iload 5, 2) := by decide +kernel
theorem x_90_62 : decode (q_code 90) 62 = .ok (.baload, 1) := by decide +kernel
theorem x_90_63 : decode (q_code 90) 63 = .ok (.ifCond .ne 86, 3) := by decide +kernel
theorem x_90_66 : decode (q_code 90) 66 = .ok (.iconst 0, 1) := by decide +kernel
theorem x_90_67 : decode (q_code 90) 67 = .ok (.ireturn, 1) := by decide +kernel
theorem x_90_68 : decode (q_code 90) 68 = .ok (.iload 5, 2) := by decide +kernel
theorem x_90_70 : decode (q_code 90) 70 = .ok (.iload 4, 2) := by decide +kernel
theorem x_90_72 : decode (q_code 90) 72 = .ok (.if_icmp .eq 12, 3) := by decide +kernel
theorem x_90_75 : decode (q_code 90) 75 = .ok (.aload_n 0, 1) := by decide +kernel
theorem x_90_76 : decode (q_code 90) 76 = .ok (.getfield 22, 3) := by decide +kernel
theorem x_90_79 : decode (q_code 90) 79 = .ok (.bipush 8, 2) := by decide +kernel
theorem x_90_81 : decode (q_code 90) 81 = .ok (.if_icmp .lt 5, 3) := by decide +kernel
theorem x_90_84 : decode (q_code 90) 84 = .ok (.iconst 0, 1) := by decide +kernel
theorem x_90_85 : decode (q_code 90) 85 = .ok (.ireturn, 1) := by decide +kernel
theorem x_90_86 : decode (q_code 90) 86 = .ok (.aload_n 0, 1) := by decide +kernel
theorem x_90_87 : decode (q_code 90) 87 = .ok (.getfield 9, 3) := by decide +kernel
theorem x_90_90 : decode (q_code 90) 90 = .ok (.aload_n 0, 1) := by decide +kernel
theorem x_90_91 : decode (q_code 90) 91 = .ok (.getfield 22, 3) := by decide +kernel
theorem x_90_94 : decode (q_code 90) 94 = .ok (.iload 4, 2) := by decide +kernel
theorem x_90_96 : decode (q_code 90) 96 = .ok (.iastore, 1) := by decide +kernel
theorem x_90_97 : decode (q_code 90) 97 = .ok (.aload_n 0, 1) := by decide +kernel
theorem x_90_98 : decode (q_code 90) 98 = .ok (.getfield 15, 3) := by decide +kernel
theorem x_90_101 : decode (q_code 90) 101 = .ok (.aload_n 0, 1) := by decide +kernel
theorem x_90_102 : decode (q_code 90) 102 = .ok (.getfield 22, 3) := by decide +kernel
theorem x_90_105 : decode (q_code 90) 105 = .ok (.iload 5, 2) := by decide +kernel
theorem x_90_107 : decode (q_code 90) 107 = .ok (.iastore, 1) := by decide +kernel
theorem x_90_108 : decode (q_code 90) 108 = .ok (.aload_n 0, 1) := by decide +kernel
theorem x_90_109 : decode (q_code 90) 109 = .ok (.aload_n 0, 1) := by decide +kernel
theorem x_90_110 : decode (q_code 90) 110 = .ok (.getfield 26, 3) := by decide +kernel
theorem x_90_113 : decode (q_code 90) 113 = .ok (.ifCond .ne 12, 3) := by decide +kernel
theorem x_90_116 : decode (q_code 90) 116 = .ok (.aload_n 1, 1) := by decide +kernel
theorem x_90_117 : decode (q_code 90) 117 = .ok (.iload 4, 2) := by decide +kernel
theorem x_90_119 : decode (q_code 90) 119 = .ok (.baload, 1) := by decide +kernel
theorem x_90_120 : decode (q_code 90) 120 = .ok (.bipush 36, 2) := by decide +kernel
theorem x_90_122 : decode (q_code 90) 122 = .ok (.if_icmp .ne 7, 3) := by decide +kernel
theorem x_90_125 : decode (q_code 90) 125 = .ok (.iconst 1, 1) := by decide +kernel
theorem x_90_126 : decode (q_code 90) 126 = .ok (.goto 4, 3) := by decide +kernel
theorem x_90_129 : decode (q_code 90) 129 = .ok (.iconst 0, 1) := by decide +kernel
theorem x_90_130 : decode (q_code 90) 130 = .ok (.putfield 26, 3) := by decide +kernel
theorem x_90_133 : decode (q_code 90) 133 = .ok (.aload_n 0, 1) := by decide +kernel
theorem x_90_134 : decode (q_code 90) 134 = .ok (.dup, 1) := by decide +kernel
theorem x_90_135 : decode (q_code 90) 135 = .ok (.getfield 22, 3) := by decide +kernel
theorem x_90_138 : decode (q_code 90) 138 = .ok (.iconst 1, 1) := by decide +kernel
theorem x_90_139 : decode (q_code 90) 139 = .ok (.iadd, 1) := by decide +kernel
theorem x_90_140 : decode (q_code 90) 140 = .ok (.putfield 22, 3) := by decide +kernel
theorem x_90_143 : decode (q_code 90) 143 = .ok (.iload 5, 2) := by decide +kernel
theorem x_90_145 : decode (q_code 90) 145 = .ok (.iconst 1, 1) := by decide +kernel
theorem x_90_146 : decode (q_code 90) 146 = .ok (.iadd, 1) := by decide +kernel
theorem x_90_147 : decode (q_code 90) 147 = .ok (.istore 4, 2) := by decide +kernel
theorem x_90_149 : decode (q_code 90) 149 = .ok (.iinc 5 1, 3) := by decide +kernel
theorem x_90_152 : decode (q_code 90) 152 = .ok (.goto (-114), 3) := by decide +kernel
theorem x_90_155 : decode (q_code 90) 155 = .ok (.iconst 1, 1) := by decide +kernel
theorem x_90_156 : decode (q_code 90) 156 = .ok (.ireturn, 1) := by decide +kernel
theorem x_91_0 : decode (q_code 91) 0 = .ok (.aload_n 0, 1) := by decide +kernel
theorem x_91_1 : decode (q_code 91) 1 = .ok (.aload_n 1, 1) := by decide +kernel
theorem x_91_2 : decode (q_code 91) 2 = .ok (.iload_n 2, 1) := by decide +kernel
theorem x_91_3 : decode (q_code 91) 3 = .ok (.iconst 1, 1) := by decide +kernel
theorem x_91_4 : decode (q_code 91) 4 = .ok (.iadd, 1) := by decide +kernel
theorem x_91_5 : decode (q_code 91) 5 = .ok (.aload_n 1, 1) := by decide +kernel
theorem x_91_6 : decode (q_code 91) 6 = .ok (.iload_n 2, 1) := by decide +kernel
theorem x_91_7 : decode (q_code 91) 7 = .ok (.invokestatic 30, 3) := by decide +kernel
theorem x_91_10 : decode (q_code 91) 10 = .ok (.iconst 1, 1) := by decide +kernel
theorem x_91_11 : decode (q_code 91) 11 = .ok (.isub, 1) := by decide +kernel
theorem x_91_12 : decode (q_code 91) 12 = .ok (.invokevirtual 36, 3) := by decide +kernel
theorem x_91_15 : decode (q_code 91) 15 = .ok (.ireturn, 1) := by decide +kernel
theorem x_92_0 : decode (q_code 92) 0 = .ok (.aload_n 1, 1) := by decide +kernel
theorem x_92_1 : decode (q_code 92) 1 = .ok (.iload_n 2, 1) := by decide +kernel
theorem x_92_2 : decode (q_code 92) 2 = .ok (.invokestatic 30, 3) := by decide +kernel
theorem x_92_5 : decode (q_code 92) 5 = .ok (.istore 4, 2) := by decide +kernel
theorem x_92_7 : decode (q_code 92) 7 = .ok (.aload_n 0, 1) := by decide +kernel
theorem x_92_8 : decode (q_code 92) 8 = .ok (.aload_n 1, 1) := by decide +kernel
theorem x_92_9 : decode (q_code 92) 9 = .ok (.iload 4, 2) := by decide +kernel
theorem x_92_11 : decode (q_code 92) 11 = .ok (.iconst 4, 1) := by decide +kernel
theorem x_92_12 : decode (q_code 92) 12 = .ok (.iadd, 1) := by decide +kernel
theorem x_92_13 : decode (q_code 92) 13 = .ok (.iload_n 3, 1) := by decide +kernel
theorem x_92_14 : decode (q_code 92) 14 = .ok (.iadd, 1) := by decide +kernel
theorem x_92_15 : decode (q_code 92) 15 = .ok (.iload 4, 2) := by decide +kernel
theorem x_92_17 : decode (q_code 92) 17 = .ok (.iconst 3, 1) := by decide +kernel
theorem x_92_18 : decode (q_code 92) 18 = .ok (.iadd, 1) := by decide +kernel
theorem x_92_19 : decode (q_code 92) 19 = .ok (.aload_n 1, 1) := by decide +kernel
theorem x_92_20 : decode (q_code 92) 20 = .ok (.iload 4, 2) := by decide +kernel
theorem x_92_22 : decode (q_code 92) 22 = .ok (.invokestatic 40, 3) := by decide +kernel
theorem x_92_25 : decode (q_code 92) 25 = .ok (.iadd, 1) := by decide +kernel
theorem x_92_26 : decode (q_code 92) 26 = .ok (.invokevirtual 36, 3) := by decide +kernel
theorem x_92_29 : decode (q_code 92) 29 = .ok (.ifCond .eq 14, 3) := by decide +kernel
theorem x_92_32 : decode (q_code 92) 32 = .ok (.aload_n 0, 1) := by decide +kernel
theorem x_92_33 : decode (q_code 92) 33 = .ok (.getfield 26, 3) := by decide +kernel
theorem x_92_36 : decode (q_code 92) 36 = .ok (.ifCond .ne 7, 3) := by decide +kernel
theorem x_92_39 : decode (q_code 92) 39 = .ok (.iconst 1, 1) := by decide +kernel
theorem x_92_40 : decode (q_code 92) 40 = .ok (.goto 4, 3) := by decide +kernel
theorem x_92_43 : decode (q_code 92) 43 = .ok (.iconst 0, 1) := by decide +kernel
theorem x_92_44 : decode (q_code 92) 44 = .ok (.ireturn, 1) := by decide +kernel
theorem x_93_0 : decode (q_code 93) 0 = .ok (.aload_n 0, 1) := by decide +kernel
theorem x_93_1 : decode (q_code 93) 1 = .ok (.getfield 22, 3) := by decide +kernel
theorem x_93_4 : decode (q_code 93) 4 = .ok (.ifCond .le 45, 3) := by decide +kernel
theorem x_93_7 : decode (q_code 93) 7 = .ok (.aload_n 0, 1) := by decide +kernel
theorem x_93_8 : decode (q_code 93) 8 = .ok (.getfield 18, 3) := by decide +kernel
theorem x_93_11 : decode (q_code 93) 11 = .ok (.aload_n 0, 1) := by decide +kernel
theorem x_93_12 : decode (q_code 93) 12 = .ok (.getfield 9, 3) := by decide +kernel
theorem x_93_15 : decode (q_code 93) 15 = .ok (.iconst 0, 1) := by decide +kernel
theorem x_93_16 : decode (q_code 93) 16 = .ok (.iaload, 1) := by decide +kernel
theorem x_93_17 : decode (q_code 93) 17 = .ok (.aload_n 0, 1) := by decide +kernel
theorem x_93_18 : decode (q_code 93) 18 = .ok (.getfield 15, 3) := by decide +kernel
theorem x_93_21 : decode (q_code 93) 21 = .ok (.aload_n 0, 1) := by decide +kernel
theorem x_93_22 : decode (q_code 93) 22 = .ok (.getfield 22, 3) := by decide +kernel
theorem x_93_25 : decode (q_code 93) 25 = .ok (.iconst 1, 1) := by decide +kernel
theorem x_93_26 : decode (q_code 93) 26 = .ok (.isub, 1) := by decide +kernel
theorem x_93_27 : decode (q_code 93) 27 = .ok (.iaload, 1) := by decide +kernel
theorem x_93_28 : decode (q_code 93) 28 = .ok (.aload_n 1, 1) := by decide +kernel
theorem x_93_29 : decode (q_code 93) 29 = .ok (.iload_n 2, 1) := by decide +kernel
theorem x_93_30 : decode (q_code 93) 30 = .ok (.iconst 1, 1) := by decide +kernel
theorem x_93_31 : decode (q_code 93) 31 = .ok (.iadd, 1) := by decide +kernel
theorem x_93_32 : decode (q_code 93) 32 = .ok (.aload_n 1, 1) := by decide +kernel
theorem x_93_33 : decode (q_code 93) 33 = .ok (.iload_n 2, 1) := by decide +kernel
theorem x_93_34 : decode (q_code 93) 34 = .ok (.invokestatic 30, 3) := by decide +kernel
theorem x_93_37 : decode (q_code 93) 37 = .ok (.iconst 1, 1) := by decide +kernel
theorem x_93_38 : decode (q_code 93) 38 = .ok (.isub, 1) := by decide +kernel
theorem x_93_39 : decode (q_code 93) 39 = .ok (.invokestatic 43, 3) := by decide +kernel
theorem x_93_42 : decode (q_code 93) 42 = .ok (.ifCond .ne 7, 3) := by decide +kernel
theorem x_93_45 : decode (q_code 93) 45 = .ok (.iconst 1, 1) := by decide +kernel
theorem x_93_46 : decode (q_code 93) 46 = .ok (.goto 4, 3) := by decide +kernel
theorem x_93_49 : decode (q_code 93) 49 = .ok (.iconst 0, 1) := by decide +kernel
theorem x_93_50 : decode (q_code 93) 50 = .ok (.ireturn, 1) := by decide +kernel
theorem x_94_0 : decode (q_code 94) 0 = .ok (.iload_n 3, 1) := by decide +kernel
theorem x_94_1 : decode (q_code 94) 1 = .ok (.aload_n 0, 1) := by decide +kernel
theorem x_94_2 : decode (q_code 94) 2 = .ok (.getfield 22, 3) := by decide +kernel
theorem x_94_5 : decode (q_code 94) 5 = .ok (.if_icmp .ge 10, 3) := by decide +kernel
theorem x_94_8 : decode (q_code 94) 8 = .ok (.iload 4, 2) := by decide +kernel
theorem x_94_10 : decode (q_code 94) 10 = .ok (.bipush 60, 2) := by decide +kernel
theorem x_94_12 : decode (q_code 94) 12 = .ok (.if_icmp .le 9, 3) := by decide +kernel
theorem x_94_15 : decode (q_code 94) 15 = .ok (.aload_n 1, 1) := by decide +kernel
theorem x_94_16 : decode (q_code 94) 16 = .ok (.iload_n 2, 1) := by decide +kernel
theorem x_94_17 : decode (q_code 94) 17 = .ok (.invokevirtual 47, 3) := by decide +kernel
theorem x_94_20 : decode (q_code 94) 20 = .ok (.return_, 1) := by decide +kernel
theorem x_94_21 : decode (q_code 94) 21 = .ok (.aload_n 1, 1) := by decide +kernel
theorem x_94_22 : decode (q_code 94) 22 = .ok (.getfield 51, 3) := by decide +kernel
theorem x_94_25 : decode (q_code 94) 25 = .ok (.astore 5, 2) := by decide +kernel
theorem x_94_27 : decode (q_code 94) 27 = .ok (.aload 5, 2) := by decide +kernel
theorem x_94_29 : decode (q_code 94) 29 = .ok (.iload_n 2, 1) := by decide +kernel
theorem x_94_30 : decode (q_code 94) 30 = .ok (.invokestatic 54, 3) := by decide +kernel
theorem x_94_33 : decode (q_code 94) 33 = .ok (.istore 6, 2) := by decide +kernel
theorem x_94_35 : decode (q_code 94) 35 = .ok (.iload 6, 2) := by decide +kernel
theorem x_94_37 : decode (q_code 94) 37 = .ok (.iconst 3, 1) := by decide +kernel
theorem x_94_38 : decode (q_code 94) 38 = .ok (.if_icmp .eq 9, 3) := by decide +kernel
theorem x_94_41 : decode (q_code 94) 41 = .ok (.iload 6, 2) := by decide +kernel
theorem x_94_43 : decode (q_code 94) 43 = .ok (.iconst 4, 1) := by decide +kernel
theorem x_94_44 : decode (q_code 94) 44 = .ok (.if_icmp .ne 7, 3) := by decide +kernel
theorem x_94_47 : decode (q_code 94) 47 = .ok (.iconst 1, 1) := by decide +kernel
theorem x_94_48 : decode (q_code 94) 48 = .ok (.goto 4, 3) := by decide +kernel
theorem x_94_51 : decode (q_code 94) 51 = .ok (.iconst 0, 1) := by decide +kernel
theorem x_94_52 : decode (q_code 94) 52 = .ok (.istore 7, 2) := by decide +kernel
theorem x_94_54 : decode (q_code 94) 54 = .ok (.iload 7, 2) := by decide +kernel
theorem x_94_56 : decode (q_code 94) 56 = .ok (.ifCond .eq 28, 3) := by decide +kernel
theorem x_94_59 : decode (q_code 94) 59 = .ok (.aload 5, 2) := by decide +kernel
theorem x_94_61 : decode (q_code 94) 61 = .ok (.iload_n 2, 1) := by decide +kernel
theorem x_94_62 : decode (q_code 94) 62 = .ok (.aload_n 0, 1) := by decide +kernel
theorem x_94_63 : decode (q_code 94) 63 = .ok (.getfield 18, 3) := by decide +kernel
theorem x_94_66 : decode (q_code 94) 66 = .ok (.aload_n 0, 1) := by decide +kernel
theorem x_94_67 : decode (q_code 94) 67 = .ok (.getfield 9, 3) := by decide +kernel
theorem x_94_70 : decode (q_code 94) 70 = .ok (.iload_n 3, 1) := by decide +kernel
theorem x_94_71 : decode (q_code 94) 71 = .ok (.iaload, 1) := by decide +kernel
theorem x_94_72 : decode (q_code 94) 72 = .ok (.aload_n 0, 1) := by decide +kernel
theorem x_94_73 : decode (q_code 94) 73 = .ok (.getfield 15, 3) := by decide +kernel
theorem x_94_76 : decode (q_code 94) 76 = .ok (.iload_n 3, 1) := by decide +kernel
theorem x_94_77 : decode (q_code 94) 77 = .ok (.iaload, 1) := by decide +kernel
theorem x_94_78 : decode (q_code 94) 78 = .ok (.invokestatic 57, 3) := by decide +kernel
theorem x_94_81 : decode (q_code 94) 81 = .ok (.goto 4, 3) := by decide +kernel
theorem x_94_84 : decode (q_code 94) 84 = .ok (.iconst (-1), 1) := by decide +kernel
theorem x_94_85 : decode (q_code 94) 85 = .ok (.istore 8, 2) := by decide +kernel
theorem x_94_87 : decode (q_code 94) 87 = .ok (.iload 8, 2) := by decide +kernel
theorem x_94_89 : decode (q_code 94) 89 = .ok (.ifCond .lt 20, 3) := by decide +kernel
theorem x_94_92 : decode (q_code 94) 92 = .ok (.aload_n 0, 1) := by decide +kernel
theorem x_94_93 : decode (q_code 94) 93 = .ok (.aload_n 1, 1) := by decide +kernel
theorem x_94_94 : decode (q_code 94) 94 = .ok (.iload 8, 2) := by decide +kernel
theorem x_94_96 : decode (q_code 94) 96 = .ok (.iload_n 3, 1) := by decide +kernel
theorem x_94_97 : decode (q_code 94) 97 = .ok (.iconst 1, 1) := by decide +kernel
theorem x_94_98 : decode (q_code 94) 98 = .ok (.iadd, 1) := by decide +kernel
theorem x_94_99 : decode (q_code 94) 99 = .ok (.iload 4, 2) := by decide +kernel
theorem x_94_101 : decode (q_code 94) 101 = .ok (.iconst 1, 1) := by decide +kernel
theorem x_94_102 : decode (q_code 94) 102 = .ok (.iadd, 1) := by decide +kernel
theorem x_94_103 : decode (q_code 94) 103 = .ok (.invokevirtual 61, 3) := by decide +kernel
theorem x_94_106 : decode (q_code 94) 106 = .ok (.goto 14, 3) := by decide +kernel
theorem x_94_109 : decode (q_code 94) 109 = .ok (.iload 6, 2) := by decide +kernel
theorem x_94_111 : decode (q_code 94) 111 = .ok (.iconst 4, 1) := by decide +kernel
theorem x_94_112 : decode (q_code 94) 112 = .ok (.if_icmp .eq 8, 3) := by decide +kernel
theorem x_94_115 : decode (q_code 94) 115 = .ok (.aload_n 1, 1) := by decide +kernel
theorem x_94_116 : decode (q_code 94) 116 = .ok (.iconst (-1), 1) := by decide +kernel
theorem x_94_117 : decode (q_code 94) 117 = .ok (.invokevirtual 47, 3) := by decide +kernel
theorem x_94_120 : decode (q_code 94) 120 = .ok (.iload 6, 2) := by decide +kernel
theorem x_94_122 : decode (q_code 94) 122 = .ok (.iconst 4, 1) := by decide +kernel
theorem x_94_123 : decode (q_code 94) 123 = .ok (.if_icmp .ne 12, 3) := by decide +kernel
theorem x_94_126 : decode (q_code 94) 126 = .ok (.aload 5, 2) := by decide +kernel
theorem x_94_128 : decode (q_code 94) 128 = .ok (.iload_n 2, 1) := by decide +kernel
theorem x_94_129 : decode (q_code 94) 129 = .ok (.invokestatic 65, 3) := by decide +kernel
theorem x_94_132 : decode (q_code 94) 132 = .ok (.goto 4, 3) := by decide +kernel
theorem x_94_135 : decode (q_code 94) 135 = .ok (.iconst (-1), 1) := by decide +kernel
theorem x_94_136 : decode (q_code 94) 136 = .ok (.istore 9, 2) := by decide +kernel
theorem x_94_138 : decode (q_code 94) 138 = .ok (.iconst 0, 1) := by decide +kernel
theorem x_94_139 : decode (q_code 94) 139 = .ok (.istore 10, 2) := by decide +kernel
theorem x_94_141 : decode (q_code 94) 141 = .ok (.iload 10, 2) := by decide +kernel
theorem x_94_143 : decode (q_code 94) 143 = .ok (.ldc 68, 2) := by decide +kernel
theorem x_94_145 : decode (q_code 94) 145 = .ok (.if_icmp .ge 51, 3) := by decide +kernel
theorem x_94_148 : decode (q_code 94) 148 = .ok (.aload 5, 2) := by decide +kernel
theorem x_94_150 : decode (q_code 94) 150 = .ok (.iload 9, 2) := by decide +kernel
theorem x_94_152 : decode (q_code 94) 152 = .ok (.invokestatic 54, 3) := by decide +kernel
theorem x_94_155 : decode (q_code 94) 155 = .ok (.ifCond .eq 41, 3) := by decide +kernel
theorem x_94_158 : decode (q_code 94) 158 = .ok (.aload 5, 2) := by decide +kernel
theorem x_94_160 : decode (q_code 94) 160 = .ok (.iload 9, 2) := by decide +kernel
theorem x_94_162 : decode (q_code 94) 162 = .ok (.invokestatic 54, 3) := by decide +kernel
theorem x_94_165 : decode (q_code 94) 165 = .ok (.iconst 3, 1) := by decide +kernel
theorem x_94_166 : decode (q_code 94) 166 = .ok (.if_icmp .ne 15, 3) := by decide +kernel
theorem x_94_169 : decode (q_code 94) 169 = .ok (.aload_n 0, 1) := by decide +kernel
theorem x_94_170 : decode (q_code 94) 170 = .ok (.aload_n 1, 1) := by decide +kernel
theorem x_94_171 : decode (q_code 94) 171 = .ok (.iload 9, 2) := by decide +kernel
theorem x_94_173 : decode (q_code 94) 173 = .ok (.iload_n 3, 1) := by decide +kernel
theorem x_94_174 : decode (q_code 94) 174 = .ok (.iload 4, 2) := by decide +kernel
theorem x_94_176 : decode (q_code 94) 176 = .ok (.iconst 1, 1) := by decide +kernel
theorem x_94_177 : decode (q_code 94) 177 = .ok (.iadd, 1) := by decide +kernel
theorem x_94_178 : decode (q_code 94) 178 = .ok (.invokevirtual 61, 3) := by decide +kernel
theorem x_94_181 : decode (q_code 94) 181 = .ok (.aload 5, 2) := by decide +kernel
theorem x_94_183 : decode (q_code 94) 183 = .ok (.iload 9, 2) := by decide +kernel
theorem x_94_185 : decode (q_code 94) 185 = .ok (.invokestatic 69, 3) := by decide +kernel
theorem x_94_188 : decode (q_code 94) 188 = .ok (.istore 9, 2) := by decide +kernel
theorem x_94_190 : decode (q_code 94) 190 = .ok (.iinc 10 1, 3) := by decide +kernel
theorem x_94_193 : decode (q_code 94) 193 = .ok (.goto (-52), 3) := by decide +kernel
theorem x_94_196 : decode (q_code 94) 196 = .ok (.return_, 1) := by decide +kernel
theorem m_X5_set {d : Nat} {M : g_M} {Q : Int → g_M → Prop} {a0 : Nat} {a1 : Nat} {v2 : Int} (hv2 : g_InR v2) {v3 : Int} (hv3 : g_InR v3) (h : g_ok M → g_O M a0 5 ∧ (∀ M2, M2 = g_wr M a0 0 (some a1) → g_ok M2 → (∀ M6, M6 = g_wi M2 a0 3 0 → g_ok M6 → (∀ M10, M10 = g_wi M6 a0 4 0 → g_ok M10 → ((v2 < 0 → Q 0 M10) ∧ (¬ v2 < 0 → ((v2 < v3 → ∃ n14, g_A M10 a1 0 n14 ∧ g_InR n14 ∧ ((n14 < v3 → Q 0 M10) ∧ (¬ n14 < v3 → g_Run d 90 38 [(0, .ref a0), (1, .ref a1), (2, g_n v2), (3, g_n v3), (4, g_n v2), (5, g_n v2)] [] M10 (g_qI Q)))) ∧ (¬ v2 < v3 → Q 0 M10)))))))) : g_Call (d + 1) 90 [.ref a0, .ref a1, g_n v2, g_n v3] M (g_qI Q) := by
  refine g_Call.ok fun hok0 => ?_
  replace h := h hok0
  refine r_body rfl (lv := [(0, .ref a0), (1, .ref a1), (2, g_n v2), (3, g_n v3)]) rfl ?_
  refine g_Run.ok fun hok => ?_
  refine r_aload_n x_90_0 rfl ?_
  refine r_aload_n x_90_1 rfl ?_
  obtain ⟨hO1, h⟩ := h
  refine r_putR x_90_2 (o := (some a1)) (ci := 5) (k := 0) (ns := 0) (by decide +kernel) (by decide) (g_fR (by decide +kernel) rfl) rfl (kz := 0) rfl hO1 ?_
  obtain ⟨M2, hM3⟩ : ∃ Mz, Mz = g_wr M a0 0 (some a1) := ⟨_, rfl⟩
  rw [← hM3]
  refine g_Run.ok fun hok4 => ?_
  replace h := h M2 hM3 hok4
  have hx5 := g_extR hM3
  replace hO1 := hO1.up hx5
  refine r_aload_n x_90_5 rfl ?_
  refine r_iconst x_90_6 ?_
  refine r_putI x_90_7 (ci := 5) (k := 3) (ns := 0) (by decide +kernel) (by decide) (g_f0 (by decide +kernel)) rfl (g_Rk rfl) trivial (kz := 3) rfl hO1 ?_
  obtain ⟨M6, hM7⟩ : ∃ Mz, Mz = g_wi M2 a0 3 0 := ⟨_, rfl⟩
  rw [← hM7]
  refine g_Run.ok fun hok8 => ?_
  replace h := h M6 hM7 hok8
  have hx9 := g_extW hM7
  replace hO1 := hO1.up hx9
  refine r_aload_n x_90_10 rfl ?_
  refine r_iconst x_90_11 ?_
  refine r_putI x_90_12 (ci := 5) (k := 4) (ns := 0) (by decide +kernel) (by decide) (g_fZ (Or.inl rfl) (by decide +kernel)) rfl (g_Rk rfl) (g_zx (Or.inl rfl) rfl).2 (kz := 4) rfl hO1 ?_
  obtain ⟨M10, hM11⟩ : ∃ Mz, Mz = g_wi M6 a0 4 0 := ⟨_, rfl⟩
  rw [← hM11]
  refine g_Run.ok fun hok12 => ?_
  replace h := h M10 hM11 hok12
  have hx13 := g_extW hM11
  replace hO1 := hO1.up hx13
  refine r_iload_n x_90_15 rfl ?_
  refine r_if_lt x_90_16 (t := 30) (by decide +kernel) hv2 (fun hc => ?_) (fun hc => ?_)
  · replace h := h.1 hc
    refine r_iconst x_90_30 ?_
    exact r_retZ x_90_31 rfl (Or.inl rfl) h
  · replace h := h.2 hc
    refine r_iload_n x_90_19 rfl ?_
    refine r_iload_n x_90_20 rfl ?_
    refine r_ic_ge x_90_21 (t := 30) (by decide +kernel) hv2 hv3 (fun hc => ?_) (fun hc => ?_)
    · replace h := h.2 hc
      refine r_iconst x_90_30 ?_
      exact r_retZ x_90_31 rfl (Or.inl rfl) h
    · replace h := h.1 hc
      refine r_iload_n x_90_24 rfl ?_
      refine r_aload_n x_90_25 rfl ?_
      obtain ⟨n14, hA15, h⟩ := h
      refine r_alen x_90_26 hA15 ?_
      obtain ⟨h16, h⟩ := h
      refine r_ic_le x_90_27 (t := 32) (by decide +kernel) hv3 h16 (fun hc => ?_) (fun hc => ?_)
      · replace h := h.2 hc
        refine r_iload_n x_90_32 rfl ?_
        refine r_istore x_90_33 (by decide +kernel) rfl (lv1 := [(0, .ref a0), (1, .ref a1), (2, g_n v2), (3, g_n v3), (4, g_n v2)]) rfl ?_
        refine r_iload_n x_90_35 rfl ?_
        refine r_istore x_90_36 (by decide +kernel) rfl (lv1 := [(0, .ref a0), (1, .ref a1), (2, g_n v2), (3, g_n v3), (4, g_n v2), (5, g_n v2)]) rfl ?_
        exact h
      · replace h := h.1 hc
        refine r_iconst x_90_30 ?_
        exact r_retZ x_90_31 rfl (Or.inl rfl) h
theorem s_X5_set_38 {d : Nat} {M : g_M} {Q : Int → g_M → Prop} {a0 : Nat} {a1 : Nat} {v2 : Int} (hv2 : g_InR v2) {v3 : Int} (hv3 : g_InR v3) {v4 : Int} (hv4 : g_InR v4) {v5 : Int} (hv5 : g_InR v5) (h : g_ok M → ((v3 < v5 → Q 1 M) ∧ (¬ v3 < v5 → ((v5 < v3 → ∃ n1, g_A M a1 0 n1 ∧ ((0 : Int) ≤ v5 ∧ (v5 : Int) < n1) ∧ ((g_i M a1 v5 = 46 → g_Run d 90 68 [(0, .ref a0), (1, .ref a1), (2, g_n v2), (3, g_n v3), (4, g_n v4), (5, g_n v5)] [] M (g_qI Q)) ∧ (¬ g_i M a1 v5 = 46 → ((0 : Int) ≤ v5 ∧ (v5 : Int) < n1) ∧ ((g_i M a1 v5 = 0 → Q 0 M) ∧ (¬ g_i M a1 v5 = 0 → g_InR (v5 + 1) ∧ g_Run d 90 38 [(0, .ref a0), (1, .ref a1), (2, g_n v2), (3, g_n v3), (4, g_n v4), (5, g_n (v5 + 1))] [] M (g_qI Q)))))) ∧ (¬ v5 < v3 → g_Run d 90 68 [(0, .ref a0), (1, .ref a1), (2, g_n v2), (3, g_n v3), (4, g_n v4), (5, g_n v5)] [] M (g_qI Q)))))) : g_Run d 90 38 [(0, .ref a0), (1, .ref a1), (2, g_n v2), (3, g_n v3), (4, g_n v4), (5, g_n v5)] [] M (g_qI Q) := by
  refine g_Run.ok fun hok => ?_
  replace h := h hok
  refine r_iload x_90_38 rfl ?_
  refine r_iload_n x_90_40 rfl ?_
  refine r_ic_gt x_90_41 (t := 155) (by decide +kernel) hv5 hv3 (fun hc => ?_) (fun hc => ?_)
  · replace h := h.1 hc
    refine r_iconst x_90_155 ?_
    exact r_retZ x_90_156 rfl (Or.inr rfl) h
  · replace h := h.2 hc
    refine r_iload x_90_44 rfl ?_
    refine r_iload_n x_90_46 rfl ?_
    refine r_ic_ge x_90_47 (t := 68) (by decide +kernel) hv5 hv3 (fun hc => ?_) (fun hc => ?_)
    · replace h := h.2 hc
      exact h
    · replace h := h.1 hc
      refine r_aload_n x_90_50 rfl ?_
      refine r_iload x_90_51 rfl ?_
      obtain ⟨n1, hA2, h⟩ := h
      obtain ⟨h3, h⟩ := h
      refine r_bald x_90_53 (Or.inl rfl) hA2 hv5 h3.1 h3.2 ?_
      refine r_bipush x_90_54 (x := 46) rfl ?_
      refine r_ic_eq x_90_56 (t := 68) (by decide +kernel) (hok.1 _ _) (g_Rk rfl) (fun hc => ?_) (fun hc => ?_)
      · replace h := h.1 hc
        exact h
      · replace h := h.2 hc
        refine r_aload_n x_90_59 rfl ?_
        refine r_iload x_90_60 rfl ?_
        obtain ⟨h4, h⟩ := h
        refine r_bald x_90_62 (Or.inl rfl) hA2 hv5 h4.1 h4.2 ?_
        refine r_if_ne x_90_63 (t := 149) (by decide +kernel) (hok.1 _ _) (fun hc => ?_) (fun hc => ?_)
        · replace h := h.2 hc
          obtain ⟨h5, h⟩ := h
          refine r_iinc x_90_149 (by decide +kernel) rfl rfl (lv1 := [(0, .ref a0), (1, .ref a1), (2, g_n v2), (3, g_n v3), (4, g_n v4), (5, g_n (v5 + 1))]) rfl ?_
          refine r_goto x_90_152 (t := 38) (by decide +kernel) ?_
          exact h
        · replace h := h.1 hc
          refine r_iconst x_90_66 ?_
          exact r_retZ x_90_67 rfl (Or.inl rfl) h
theorem s_X5_set_68 {d : Nat} {M : g_M} {Q : Int → g_M → Prop} {a0 : Nat} {a1 : Nat} {v2 : Int} (hv2 : g_InR v2) {v3 : Int} (hv3 : g_InR v3) {v4 : Int} (hv4 : g_InR v4) {v5 : Int} (hv5 : g_InR v5) (h : g_ok M → ((v5 = v4 → Q 0 M) ∧ (¬ v5 = v4 → g_O M a0 5 ∧ ((g_i M a0 3 < 8 → ∃ b2, g_r M a0 1 = some b2 ∧ ∃ n4, g_A M b2 1 n4 ∧ ((0 : Int) ≤ g_i M a0 3 ∧ (g_i M a0 3 : Int) < n4) ∧ (∀ M7, M7 = g_wi M b2 (g_i M a0 3) v4 → g_ok M7 → ∃ b11, g_r M7 a0 2 = some b11 ∧ ∃ n13, g_A M7 b11 1 n13 ∧ ((0 : Int) ≤ g_i M7 a0 3 ∧ (g_i M7 a0 3 : Int) < n13) ∧ (∀ M16, M16 = g_wi M7 b11 (g_i M7 a0 3) v5 → g_ok M16 → ((g_i M16 a0 4 = 0 → ∃ n20, g_A M16 a1 0 n20 ∧ ((0 : Int) ≤ v4 ∧ (v4 : Int) < n20) ∧ ((g_i M16 a1 v4 = 36 → g_Run d 90 130 [(0, .ref a0), (1, .ref a1), (2, g_n v2), (3, g_n v3), (4, g_n v4), (5, g_n v5)] [g_n 1, .ref a0] M16 (g_qI Q)) ∧ (¬ g_i M16 a1 v4 = 36 → g_Run d 90 130 [(0, .ref a0), (1, .ref a1), (2, g_n v2), (3, g_n v3), (4, g_n v4), (5, g_n v5)] [g_n 0, .ref a0] M16 (g_qI Q)))) ∧ (¬ g_i M16 a0 4 = 0 → g_Run d 90 130 [(0, .ref a0), (1, .ref a1), (2, g_n v2), (3, g_n v3), (4, g_n v4), (5, g_n v5)] [g_n 1, .ref a0] M16 (g_qI Q)))))) ∧ (¬ g_i M a0 3 < 8 → Q 0 M))))) : g_Run d 90 68 [(0, .ref a0), (1, .ref a1), (2, g_n v2), (3, g_n v3), (4, g_n v4), (5, g_n v5)] [] M (g_qI Q) := by
  refine g_Run.ok fun hok => ?_
  replace h := h hok
  refine r_iload x_90_68 rfl ?_
  refine r_iload x_90_70 rfl ?_
  refine r_ic_eq x_90_72 (t := 84) (by decide +kernel) hv5 hv4 (fun hc => ?_) (fun hc => ?_)
  · replace h := h.1 hc
    refine r_iconst x_90_84 ?_
    exact r_retZ x_90_85 rfl (Or.inl rfl) h
  · replace h := h.2 hc
    refine r_aload_n x_90_75 rfl ?_
    obtain ⟨hO1, h⟩ := h
    refine r_getI x_90_76 rfl (ci := 5) (k := 3) (ns := 0) (by decide +kernel) (by decide) rfl (kz := 3) rfl hO1 ?_
    refine r_bipush x_90_79 (x := 8) rfl ?_
    refine r_ic_lt x_90_81 (t := 86) (by decide +kernel) (hok.1 _ _) (g_Rk rfl) (fun hc => ?_) (fun hc => ?_)
    · replace h := h.1 hc
      refine r_aload_n x_90_86 rfl ?_
      obtain ⟨b2, hb3, h⟩ := h
      refine r_getR x_90_87 rfl (ci := 5) (k := 1) (ns := 0) (by decide +kernel) (by decide) rfl (kz := 1) rfl hO1 hb3 ?_
      refine r_aload_n x_90_90 rfl ?_
      refine r_getI x_90_91 rfl (ci := 5) (k := 3) (ns := 0) (by decide +kernel) (by decide) rfl (kz := 3) rfl hO1 ?_
      refine r_iload x_90_94 rfl ?_
      obtain ⟨n4, hA5, h⟩ := h
      obtain ⟨h6, h⟩ := h
      refine r_iast x_90_96 hA5 (hok.1 _ _) h6.1 h6.2 hv4 ?_
      obtain ⟨M7, hM8⟩ : ∃ Mz, Mz = g_wi M b2 (g_i M a0 3) v4 := ⟨_, rfl⟩
      rw [← hM8]
      refine g_Run.ok fun hok9 => ?_
      replace h := h M7 hM8 hok9
      have hx10 := g_extW hM8
      replace hO1 := hO1.up hx10
      replace hA5 := hA5.up hx10
      refine r_aload_n x_90_97 rfl ?_
      obtain ⟨b11, hb12, h⟩ := h
      refine r_getR x_90_98 rfl (ci := 5) (k := 2) (ns := 0) (by decide +kernel) (by decide) rfl (kz := 2) rfl hO1 hb12 ?_
      refine r_aload_n x_90_101 rfl ?_
      refine r_getI x_90_102 rfl (ci := 5) (k := 3) (ns := 0) (by decide +kernel) (by decide) rfl (kz := 3) rfl hO1 ?_
      refine r_iload x_90_105 rfl ?_
      obtain ⟨n13, hA14, h⟩ := h
      obtain ⟨h15, h⟩ := h
      refine r_iast x_90_107 hA14 (hok9.1 _ _) h15.1 h15.2 hv5 ?_
      obtain ⟨M16, hM17⟩ : ∃ Mz, Mz = g_wi M7 b11 (g_i M7 a0 3) v5 := ⟨_, rfl⟩
      rw [← hM17]
      refine g_Run.ok fun hok18 => ?_
      replace h := h M16 hM17 hok18
      have hx19 := g_extW hM17
      replace hO1 := hO1.up hx19
      replace hA5 := hA5.up hx19
      replace hA14 := hA14.up hx19
      refine r_aload_n x_90_108 rfl ?_
      refine r_aload_n x_90_109 rfl ?_
      refine r_getI x_90_110 rfl (ci := 5) (k := 4) (ns := 0) (by decide +kernel) (by decide) rfl (kz := 4) rfl hO1 ?_
      refine r_if_ne x_90_113 (t := 125) (by decide +kernel) (hok18.1 _ _) (fun hc => ?_) (fun hc => ?_)
      · replace h := h.2 hc
        refine r_iconst x_90_125 ?_
        refine r_goto x_90_126 (t := 130) (by decide +kernel) ?_
        exact h
      · replace h := h.1 hc
        refine r_aload_n x_90_116 rfl ?_
        refine r_iload x_90_117 rfl ?_
        obtain ⟨n20, hA21, h⟩ := h
        obtain ⟨h22, h⟩ := h
        refine r_bald x_90_119 (Or.inl rfl) hA21 hv4 h22.1 h22.2 ?_
        refine r_bipush x_90_120 (x := 36) rfl ?_
        refine r_ic_ne x_90_122 (t := 129) (by decide +kernel) (hok18.1 _ _) (g_Rk rfl) (fun hc => ?_) (fun hc => ?_)
        · replace h := h.2 hc
          refine r_iconst x_90_129 ?_
          exact h
        · replace h := h.1 hc
          refine r_iconst x_90_125 ?_
          refine r_goto x_90_126 (t := 130) (by decide +kernel) ?_
          exact h
    · replace h := h.2 hc
      refine r_iconst x_90_84 ?_
      exact r_retZ x_90_85 rfl (Or.inl rfl) h
theorem s_X5_set_130 {d : Nat} {M : g_M} {Q : Int → g_M → Prop} {a0 : Nat} {a1 : Nat} {v2 : Int} (hv2 : g_InR v2) {v3 : Int} (hv3 : g_InR v3) {v4 : Int} (hv4 : g_InR v4) {v5 : Int} (hv5 : g_InR v5) {w0 : Int} (hw0 : g_InR w0) {c1 : Nat} (h : g_ok M → g_O M c1 5 ∧ (w0 = 0 ∨ w0 = 1) ∧ (∀ M3, M3 = g_wi M c1 4 w0 → g_ok M3 → g_O M3 a0 5 ∧ g_InR ((g_i M3 a0 3) + 1) ∧ (∀ M9, M9 = g_wi M3 a0 3 ((g_i M3 a0 3) + 1) → g_ok M9 → g_InR (v5 + 1) ∧ g_InR (v5 + 1) ∧ g_Run d 90 38 [(0, .ref a0), (1, .ref a1), (2, g_n v2), (3, g_n v3), (4, g_n (v5 + 1)), (5, g_n (v5 + 1))] [] M9 (g_qI Q)))) : g_Run d 90 130 [(0, .ref a0), (1, .ref a1), (2, g_n v2), (3, g_n v3), (4, g_n v4), (5, g_n v5)] [g_n w0, .ref c1] M (g_qI Q) := by
  refine g_Run.ok fun hok => ?_
  replace h := h hok
  obtain ⟨hO1, h⟩ := h
  obtain ⟨h2, h⟩ := h
  refine r_putI x_90_130 (ci := 5) (k := 4) (ns := 0) (by decide +kernel) (by decide) (g_fZ h2 (by decide +kernel)) rfl hw0 (g_zx h2 rfl).2 (kz := 4) rfl hO1 ?_
  obtain ⟨M3, hM4⟩ : ∃ Mz, Mz = g_wi M c1 4 w0 := ⟨_, rfl⟩
  rw [← hM4]
  refine g_Run.ok fun hok5 => ?_
  replace h := h M3 hM4 hok5
  have hx6 := g_extW hM4
  replace hO1 := hO1.up hx6
  refine r_aload_n x_90_133 rfl ?_
  refine r_dup x_90_134 rfl ?_
  obtain ⟨hO7, h⟩ := h
  refine r_getI x_90_135 rfl (ci := 5) (k := 3) (ns := 0) (by decide +kernel) (by decide) rfl (kz := 3) rfl hO7 ?_
  refine r_iconst x_90_138 ?_
  refine r_iadd x_90_139 ?_
  obtain ⟨h8, h⟩ := h
  refine r_putI x_90_140 (ci := 5) (k := 3) (ns := 0) (by decide +kernel) (by decide) (g_f0 (by decide +kernel)) rfl h8 trivial (kz := 3) rfl hO7 ?_
  obtain ⟨M9, hM10⟩ : ∃ Mz, Mz = g_wi M3 a0 3 ((g_i M3 a0 3) + 1) := ⟨_, rfl⟩
  rw [← hM10]
  refine g_Run.ok fun hok11 => ?_
  replace h := h M9 hM10 hok11
  have hx12 := g_extW hM10
  replace hO1 := hO1.up hx12
  replace hO7 := hO7.up hx12
  refine r_iload x_90_143 rfl ?_
  refine r_iconst x_90_145 ?_
  refine r_iadd x_90_146 ?_
  obtain ⟨h13, h⟩ := h
  refine r_istore x_90_147 (by decide +kernel) rfl (lv1 := [(0, .ref a0), (1, .ref a1), (2, g_n v2), (3, g_n v3), (4, g_n (v5 + 1)), (5, g_n v5)]) rfl ?_
  obtain ⟨h14, h⟩ := h
  refine r_iinc x_90_149 (by decide +kernel) rfl rfl (lv1 := [(0, .ref a0), (1, .ref a1), (2, g_n v2), (3, g_n v3), (4, g_n (v5 + 1)), (5, g_n (v5 + 1))]) rfl ?_
  refine r_goto x_90_152 (t := 38) (by decide +kernel) ?_
  exact h
theorem m_X5_setName {d : Nat} {M : g_M} {Q : Int → g_M → Prop} {a0 : Nat} {a1 : Nat} {v2 : Int} (hv2 : g_InR v2) (h : g_ok M → g_InR (v2 + 1) ∧ g_Call d 110 [.ref a1, g_n v2] M (g_qI fun r5 M2 => g_ext M M2 → g_ok M2 → g_InR r5 → g_InR (r5 - 1) ∧ g_O M2 a0 5 ∧ g_Call d 90 [.ref a0, .ref a1, g_n (v2 + 1), g_n (r5 - 1)] M2 (g_qI fun r12 M9 => g_ext M2 M9 → g_ok M9 → g_InR r12 → (r12 = 0 ∨ r12 = 1) ∧ Q r12 M9))) : g_Call (d + 1) 91 [.ref a0, .ref a1, g_n v2] M (g_qI Q) := by
  refine g_Call.ok fun hok0 => ?_
  replace h := h hok0
  refine r_body rfl (lv := [(0, .ref a0), (1, .ref a1), (2, g_n v2)]) rfl ?_
  refine g_Run.ok fun hok => ?_
  refine r_aload_n x_91_0 rfl ?_
  refine r_aload_n x_91_1 rfl ?_
  refine r_iload_n x_91_2 rfl ?_
  refine r_iconst x_91_3 ?_
  refine r_iadd x_91_4 ?_
  obtain ⟨h1, h⟩ := h
  refine r_aload_n x_91_5 rfl ?_
  refine r_iload_n x_91_6 rfl ?_
  refine r_invS x_91_7 (z := 110) (ns := 1) (by decide +kernel) (as := [.ref a1, g_n v2]) (r := [g_n (v2 + 1), .ref a1, .ref a0]) rfl rfl rfl ?_
  refine r_callI h fun r5 M2 hx3 hok4 hr6 h => ?_
  replace h := h hx3 hok4 hr6
  refine r_iconst x_91_10 ?_
  refine r_isub x_91_11 ?_
  obtain ⟨h7, h⟩ := h
  obtain ⟨hO8, h⟩ := h
  refine r_invV x_91_12 (z := 90) (ns := 0) (by decide +kernel) (as := [.ref a1, g_n (v2 + 1), g_n (r5 - 1)]) (r := []) rfl rfl rfl hO8 rfl rfl ?_
  refine r_callI h fun r12 M9 hx10 hok11 hr13 h => ?_
  replace h := h hx10 hok11 hr13
  replace hO8 := hO8.up hx10
  obtain ⟨hz, h⟩ := h
  exact r_retZ x_91_15 rfl hz h
theorem m_X5_setPlainText {d : Nat} {M : g_M} {Q : Int → g_M → Prop} {a0 : Nat} {a1 : Nat} {v2 : Int} (hv2 : g_InR v2) {v3 : Int} (hv3 : g_InR v3) (h : g_ok M → g_Call d 110 [.ref a1, g_n v2] M (g_qI fun r4 M1 => g_ext M M1 → g_ok M1 → g_InR r4 → g_InR (r4 + 4) ∧ g_InR ((r4 + 4) + v3) ∧ g_InR (r4 + 3) ∧ g_Call d 109 [.ref a1, g_n r4] M1 (g_qI fun r12 M9 => g_ext M1 M9 → g_ok M9 → g_InR r12 → g_InR ((r4 + 3) + r12) ∧ g_O M9 a0 5 ∧ g_Call d 90 [.ref a0, .ref a1, g_n ((r4 + 4) + v3), g_n ((r4 + 3) + r12)] M9 (g_qI fun r19 M16 => g_ext M9 M16 → g_ok M16 → g_InR r19 → ((r19 = 0 → Q 0 M16) ∧ (¬ r19 = 0 → ((g_i M16 a0 4 = 0 → Q 1 M16) ∧ (¬ g_i M16 a0 4 = 0 → Q 0 M16)))))))) : g_Call (d + 1) 92 [.ref a0, .ref a1, g_n v2, g_n v3] M (g_qI Q) := by
  refine g_Call.ok fun hok0 => ?_
  replace h := h hok0
  refine r_body rfl (lv := [(0, .ref a0), (1, .ref a1), (2, g_n v2), (3, g_n v3)]) rfl ?_
  refine g_Run.ok fun hok => ?_
  refine r_aload_n x_92_0 rfl ?_
  refine r_iload_n x_92_1 rfl ?_
  refine r_invS x_92_2 (z := 110) (ns := 1) (by decide +kernel) (as := [.ref a1, g_n v2]) (r := []) rfl rfl rfl ?_
  refine r_callI h fun r4 M1 hx2 hok3 hr5 h => ?_
  replace h := h hx2 hok3 hr5
  refine r_istore x_92_5 (by decide +kernel) rfl (lv1 := [(0, .ref a0), (1, .ref a1), (2, g_n v2), (3, g_n v3), (4, g_n r4)]) rfl ?_
  refine r_aload_n x_92_7 rfl ?_
  refine r_aload_n x_92_8 rfl ?_
  refine r_iload x_92_9 rfl ?_
  refine r_iconst x_92_11 ?_
  refine r_iadd x_92_12 ?_
  obtain ⟨h6, h⟩ := h
  refine r_iload_n x_92_13 rfl ?_
  refine r_iadd x_92_14 ?_
  obtain ⟨h7, h⟩ := h
  refine r_iload x_92_15 rfl ?_
  refine r_iconst x_92_17 ?_
  refine r_iadd x_92_18 ?_
  obtain ⟨h8, h⟩ := h
  refine r_aload_n x_92_19 rfl ?_
  refine r_iload x_92_20 rfl ?_
  refine r_invS x_92_22 (z := 109) (ns := 1) (by decide +kernel) (as := [.ref a1, g_n r4]) (r := [g_n (r4 + 3), g_n ((r4 + 4) + v3), .ref a1, .ref a0]) rfl rfl rfl ?_
  refine r_callI h fun r12 M9 hx10 hok11 hr13 h => ?_
  replace h := h hx10 hok11 hr13
  refine r_iadd x_92_25 ?_
  obtain ⟨h14, h⟩ := h
  obtain ⟨hO15, h⟩ := h
  refine r_invV x_92_26 (z := 90) (ns := 0) (by decide +kernel) (as := [.ref a1, g_n ((r4 + 4) + v3), g_n ((r4 + 3) + r12)]) (r := []) rfl rfl rfl hO15 rfl rfl ?_
  refine r_callI h fun r19 M16 hx17 hok18 hr20 h => ?_
  replace h := h hx17 hok18 hr20
  replace hO15 := hO15.up hx17
  refine r_if_eq x_92_29 (t := 43) (by decide +kernel) hr20 (fun hc => ?_) (fun hc => ?_)
  · replace h := h.1 hc
    refine r_iconst x_92_43 ?_
    exact r_retZ x_92_44 rfl (Or.inl rfl) h
  · replace h := h.2 hc
    refine r_aload_n x_92_32 rfl ?_
    refine r_getI x_92_33 rfl (ci := 5) (k := 4) (ns := 0) (by decide +kernel) (by decide) rfl (kz := 4) rfl hO15 ?_
    refine r_if_ne x_92_36 (t := 43) (by decide +kernel) (hok18.1 _ _) (fun hc => ?_) (fun hc => ?_)
    · replace h := h.2 hc
      refine r_iconst x_92_43 ?_
      exact r_retZ x_92_44 rfl (Or.inl rfl) h
    · replace h := h.1 hc
      refine r_iconst x_92_39 ?_
      refine r_goto x_92_40 (t := 44) (by decide +kernel) ?_
      exact r_retZ x_92_44 rfl (Or.inr rfl) h
theorem m_X5_isNameOf {d : Nat} {M : g_M} {Q : Int → g_M → Prop} {a0 : Nat} {a1 : Nat} {v2 : Int} (hv2 : g_InR v2) (h : g_ok M → g_O M a0 5 ∧ ((0 < g_i M a0 3 → ∃ b2, g_r M a0 0 = some b2 ∧ ∃ b4, g_r M a0 1 = some b4 ∧ ∃ n6, g_A M b4 1 n6 ∧ ((0 : Int) ≤ 0 ∧ (0 : Int) < n6) ∧ ∃ b9, g_r M a0 2 = some b9 ∧ g_InR ((g_i M a0 3) - 1) ∧ ∃ n12, g_A M b9 1 n12 ∧ ((0 : Int) ≤ (g_i M a0 3) - 1 ∧ ((g_i M a0 3) - 1 : Int) < n12) ∧ g_InR (v2 + 1) ∧ g_Call d 110 [.ref a1, g_n v2] M (g_qI fun r19 M16 => g_ext M M16 → g_ok M16 → g_InR r19 → g_InR (r19 - 1) ∧ g_Call d 123 [.ref b2, g_n (g_i M b4 0), g_n (g_i M b9 ((g_i M a0 3) - 1)), .ref a1, g_n (v2 + 1), g_n (r19 - 1)] M16 (g_qI fun r25 M22 => g_ext M16 M22 → g_ok M22 → g_InR r25 → ((r25 = 0 → Q 1 M22) ∧ (¬ r25 = 0 → Q 0 M22))))) ∧ (¬ 0 < g_i M a0 3 → Q 0 M))) : g_Call (d + 1) 93 [.ref a0, .ref a1, g_n v2] M (g_qI Q) := by
  refine g_Call.ok fun hok0 => ?_
  replace h := h hok0
  refine r_body rfl (lv := [(0, .ref a0), (1, .ref a1), (2, g_n v2)]) rfl ?_
  refine g_Run.ok fun hok => ?_
  refine r_aload_n x_93_0 rfl ?_
  obtain ⟨hO1, h⟩ := h
  refine r_getI x_93_1 rfl (ci := 5) (k := 3) (ns := 0) (by decide +kernel) (by decide) rfl (kz := 3) rfl hO1 ?_
  refine r_if_le x_93_4 (t := 49) (by decide +kernel) (hok.1 _ _) (fun hc => ?_) (fun hc => ?_)
  · replace h := h.2 hc
    refine r_iconst x_93_49 ?_
    exact r_retZ x_93_50 rfl (Or.inl rfl) h
  · replace h := h.1 hc
    refine r_aload_n x_93_7 rfl ?_
    obtain ⟨b2, hb3, h⟩ := h
    refine r_getR x_93_8 rfl (ci := 5) (k := 0) (ns := 0) (by decide +kernel) (by decide) rfl (kz := 0) rfl hO1 hb3 ?_
    refine r_aload_n x_93_11 rfl ?_
    obtain ⟨b4, hb5, h⟩ := h
    refine r_getR x_93_12 rfl (ci := 5) (k := 1) (ns := 0) (by decide +kernel) (by decide) rfl (kz := 1) rfl hO1 hb5 ?_
    refine r_iconst x_93_15 ?_
    obtain ⟨n6, hA7, h⟩ := h
    obtain ⟨h8, h⟩ := h
    refine r_iald x_93_16 hA7 (g_Rk rfl) h8.1 h8.2 ?_
    refine r_aload_n x_93_17 rfl ?_
    obtain ⟨b9, hb10, h⟩ := h
    refine r_getR x_93_18 rfl (ci := 5) (k := 2) (ns := 0) (by decide +kernel) (by decide) rfl (kz := 2) rfl hO1 hb10 ?_
    refine r_aload_n x_93_21 rfl ?_
    refine r_getI x_93_22 rfl (ci := 5) (k := 3) (ns := 0) (by decide +kernel) (by decide) rfl (kz := 3) rfl hO1 ?_
    refine r_iconst x_93_25 ?_
    refine r_isub x_93_26 ?_
    obtain ⟨h11, h⟩ := h
    obtain ⟨n12, hA13, h⟩ := h
    obtain ⟨h14, h⟩ := h
    refine r_iald x_93_27 hA13 h11 h14.1 h14.2 ?_
    refine r_aload_n x_93_28 rfl ?_
    refine r_iload_n x_93_29 rfl ?_
    refine r_iconst x_93_30 ?_
    refine r_iadd x_93_31 ?_
    obtain ⟨h15, h⟩ := h
    refine r_aload_n x_93_32 rfl ?_
    refine r_iload_n x_93_33 rfl ?_
    refine r_invS x_93_34 (z := 110) (ns := 1) (by decide +kernel) (as := [.ref a1, g_n v2]) (r := [g_n (v2 + 1), .ref a1, g_n (g_i M b9 ((g_i M a0 3) - 1)), g_n (g_i M b4 0), .ref b2]) rfl rfl rfl ?_
    refine r_callI h fun r19 M16 hx17 hok18 hr20 h => ?_
    replace h := h hx17 hok18 hr20
    replace hO1 := hO1.up hx17
    replace hA7 := hA7.up hx17
    replace hA13 := hA13.up hx17
    refine r_iconst x_93_37 ?_
    refine r_isub x_93_38 ?_
    obtain ⟨h21, h⟩ := h
    refine r_invS x_93_39 (z := 123) (ns := 1) (by decide +kernel) (as := [.ref b2, g_n (g_i M b4 0), g_n (g_i M b9 ((g_i M a0 3) - 1)), .ref a1, g_n (v2 + 1), g_n (r19 - 1)]) (r := []) rfl rfl rfl ?_
    refine r_callI h fun r25 M22 hx23 hok24 hr26 h => ?_
    replace h := h hx23 hok24 hr26
    replace hO1 := hO1.up hx23
    replace hA7 := hA7.up hx23
    replace hA13 := hA13.up hx23
    refine r_if_ne x_93_42 (t := 49) (by decide +kernel) hr26 (fun hc => ?_) (fun hc => ?_)
    · replace h := h.2 hc
      refine r_iconst x_93_49 ?_
      exact r_retZ x_93_50 rfl (Or.inl rfl) h
    · replace h := h.1 hc
      refine r_iconst x_93_45 ?_
      refine r_goto x_93_46 (t := 50) (by decide +kernel) ?_
      exact r_retZ x_93_50 rfl (Or.inr rfl) h
theorem m_X5_walk {d : Nat} {M : g_M} {Q : g_M → Prop} {a0 : Nat} {a1 : Nat} {v2 : Int} (hv2 : g_InR v2) {v3 : Int} (hv3 : g_InR v3) {v4 : Int} (hv4 : g_InR v4) (h : g_ok M → g_O M a0 5 ∧ ((v3 < g_i M a0 3 → ((60 < v4 → g_O M a1 7 ∧ g_Call d 104 [.ref a1, g_n v2] M (g_qV fun M15 => g_ext M M15 → g_ok M15 → Q M15)) ∧ (¬ 60 < v4 → g_O M a1 7 ∧ ∃ b7, g_r M a1 0 = some b7 ∧ g_Call d 108 [.ref b7, g_n v2] M (g_qI fun r12 M9 => g_ext M M9 → g_ok M9 → g_InR r12 → ((r12 = 3 → g_Run d 94 52 [(0, .ref a0), (1, .ref a1), (2, g_n v2), (3, g_n v3), (4, g_n v4), (5, .ref b7), (6, g_n r12)] [g_n 1] M9 (g_qV Q)) ∧ (¬ r12 = 3 → ((r12 = 4 → g_Run d 94 52 [(0, .ref a0), (1, .ref a1), (2, g_n v2), (3, g_n v3), (4, g_n v4), (5, .ref b7), (6, g_n r12)] [g_n 1] M9 (g_qV Q)) ∧ (¬ r12 = 4 → g_Run d 94 52 [(0, .ref a0), (1, .ref a1), (2, g_n v2), (3, g_n v3), (4, g_n v4), (5, .ref b7), (6, g_n r12)] [g_n 0] M9 (g_qV Q))))))))) ∧ (¬ v3 < g_i M a0 3 → g_O M a1 7 ∧ g_Call d 104 [.ref a1, g_n v2] M (g_qV fun M3 => g_ext M M3 → g_ok M3 → Q M3)))) : g_Call (d + 1) 94 [.ref a0, .ref a1, g_n v2, g_n v3, g_n v4] M (g_qV Q) := by
  refine g_Call.ok fun hok0 => ?_
  replace h := h hok0
  refine r_body rfl (lv := [(0, .ref a0), (1, .ref a1), (2, g_n v2), (3, g_n v3), (4, g_n v4)]) rfl ?_
  refine g_Run.ok fun hok => ?_
  refine r_iload_n x_94_0 rfl ?_
  refine r_aload_n x_94_1 rfl ?_
  obtain ⟨hO1, h⟩ := h
  refine r_getI x_94_2 rfl (ci := 5) (k := 3) (ns := 0) (by decide +kernel) (by decide) rfl (kz := 3) rfl hO1 ?_
  refine r_ic_ge x_94_5 (t := 15) (by decide +kernel) hv3 (hok.1 _ _) (fun hc => ?_) (fun hc => ?_)
  · replace h := h.2 hc
    refine r_aload_n x_94_15 rfl ?_
    refine r_iload_n x_94_16 rfl ?_
    obtain ⟨hO2, h⟩ := h
    refine r_invV x_94_17 (z := 104) (ns := 1) (by decide +kernel) (as := [g_n v2]) (r := []) rfl rfl rfl hO2 rfl rfl ?_
    refine r_callV h fun M3 hx4 hok5 h => ?_
    replace h := h hx4 hok5
    replace hO1 := hO1.up hx4
    replace hO2 := hO2.up hx4
    exact r_retV x_94_20 rfl h
  · replace h := h.1 hc
    refine r_iload x_94_8 rfl ?_
    refine r_bipush x_94_10 (x := 60) rfl ?_
    refine r_ic_le x_94_12 (t := 21) (by decide +kernel) hv4 (g_Rk rfl) (fun hc => ?_) (fun hc => ?_)
    · replace h := h.2 hc
      refine r_aload_n x_94_21 rfl ?_
      obtain ⟨hO6, h⟩ := h
      obtain ⟨b7, hb8, h⟩ := h
      refine r_getR x_94_22 rfl (ci := 7) (k := 0) (ns := 1) (by decide +kernel) (by decide) rfl (kz := 0) rfl hO6 hb8 ?_
      refine r_astore x_94_25 (o := (some b7)) (by decide +kernel) rfl (lv1 := [(0, .ref a0), (1, .ref a1), (2, g_n v2), (3, g_n v3), (4, g_n v4), (5, .ref b7)]) rfl ?_
      refine r_aload x_94_27 rfl ?_
      refine r_iload_n x_94_29 rfl ?_
      refine r_invS x_94_30 (z := 108) (ns := 1) (by decide +kernel) (as := [.ref b7, g_n v2]) (r := []) rfl rfl rfl ?_
      refine r_callI h fun r12 M9 hx10 hok11 hr13 h => ?_
      replace h := h hx10 hok11 hr13
      replace hO1 := hO1.up hx10
      replace hO6 := hO6.up hx10
      refine r_istore x_94_33 (by decide +kernel) rfl (lv1 := [(0, .ref a0), (1, .ref a1), (2, g_n v2), (3, g_n v3), (4, g_n v4), (5, .ref b7), (6, g_n r12)]) rfl ?_
      refine r_iload x_94_35 rfl ?_
      refine r_iconst x_94_37 ?_
      refine r_ic_eq x_94_38 (t := 47) (by decide +kernel) hr13 (g_Rk rfl) (fun hc => ?_) (fun hc => ?_)
      · replace h := h.1 hc
        refine r_iconst x_94_47 ?_
        refine r_goto x_94_48 (t := 52) (by decide +kernel) ?_
        exact h
      · replace h := h.2 hc
        refine r_iload x_94_41 rfl ?_
        refine r_iconst x_94_43 ?_
        refine r_ic_ne x_94_44 (t := 51) (by decide +kernel) hr13 (g_Rk rfl) (fun hc => ?_) (fun hc => ?_)
        · replace h := h.2 hc
          refine r_iconst x_94_51 ?_
          exact h
        · replace h := h.1 hc
          refine r_iconst x_94_47 ?_
          refine r_goto x_94_48 (t := 52) (by decide +kernel) ?_
          exact h
    · replace h := h.1 hc
      refine r_aload_n x_94_15 rfl ?_
      refine r_iload_n x_94_16 rfl ?_
      obtain ⟨hO14, h⟩ := h
      refine r_invV x_94_17 (z := 104) (ns := 1) (by decide +kernel) (as := [g_n v2]) (r := []) rfl rfl rfl hO14 rfl rfl ?_
      refine r_callV h fun M15 hx16 hok17 h => ?_
      replace h := h hx16 hok17
      replace hO1 := hO1.up hx16
      replace hO14 := hO14.up hx16
      exact r_retV x_94_20 rfl h
theorem s_X5_walk_52 {d : Nat} {M : g_M} {Q : g_M → Prop} {a0 : Nat} {a1 : Nat} {v2 : Int} (hv2 : g_InR v2) {v3 : Int} (hv3 : g_InR v3) {v4 : Int} (hv4 : g_InR v4) {a5 : Nat} {v6 : Int} (hv6 : g_InR v6) {w0 : Int} (hw0 : g_InR w0) (h : g_ok M → ((w0 = 0 → g_Run d 94 85 [(0, .ref a0), (1, .ref a1), (2, g_n v2), (3, g_n v3), (4, g_n v4), (5, .ref a5), (6, g_n v6), (7, g_n w0)] [g_n ((-1))] M (g_qV Q)) ∧ (¬ w0 = 0 → g_O M a0 5 ∧ ∃ b2, g_r M a0 0 = some b2 ∧ ∃ b4, g_r M a0 1 = some b4 ∧ ∃ n6, g_A M b4 1 n6 ∧ ((0 : Int) ≤ v3 ∧ (v3 : Int) < n6) ∧ ∃ b9, g_r M a0 2 = some b9 ∧ ∃ n11, g_A M b9 1 n11 ∧ ((0 : Int) ≤ v3 ∧ (v3 : Int) < n11) ∧ g_Call d 114 [.ref a5, g_n v2, .ref b2, g_n (g_i M b4 v3), g_n (g_i M b9 v3)] M (g_qI fun r17 M14 => g_ext M M14 → g_ok M14 → g_InR r17 → g_Run d 94 85 [(0, .ref a0), (1, .ref a1), (2, g_n v2), (3, g_n v3), (4, g_n v4), (5, .ref a5), (6, g_n v6), (7, g_n w0)] [g_n r17] M14 (g_qV Q))))) : g_Run d 94 52 [(0, .ref a0), (1, .ref a1), (2, g_n v2), (3, g_n v3), (4, g_n v4), (5, .ref a5), (6, g_n v6)] [g_n w0] M (g_qV Q) := by
  refine g_Run.ok fun hok => ?_
  replace h := h hok
  refine r_istore x_94_52 (by decide +kernel) rfl (lv1 := [(0, .ref a0), (1, .ref a1), (2, g_n v2), (3, g_n v3), (4, g_n v4), (5, .ref a5), (6, g_n v6), (7, g_n w0)]) rfl ?_
  refine r_iload x_94_54 rfl ?_
  refine r_if_eq x_94_56 (t := 84) (by decide +kernel) hw0 (fun hc => ?_) (fun hc => ?_)
  · replace h := h.1 hc
    refine r_iconst x_94_84 ?_
    exact h
  · replace h := h.2 hc
    refine r_aload x_94_59 rfl ?_
    refine r_iload_n x_94_61 rfl ?_
    refine r_aload_n x_94_62 rfl ?_
    obtain ⟨hO1, h⟩ := h
    obtain ⟨b2, hb3, h⟩ := h
    refine r_getR x_94_63 rfl (ci := 5) (k := 0) (ns := 0) (by decide +kernel) (by decide) rfl (kz := 0) rfl hO1 hb3 ?_
    refine r_aload_n x_94_66 rfl ?_
    obtain ⟨b4, hb5, h⟩ := h
    refine r_getR x_94_67 rfl (ci := 5) (k := 1) (ns := 0) (by decide +kernel) (by decide) rfl (kz := 1) rfl hO1 hb5 ?_
    refine r_iload_n x_94_70 rfl ?_
    obtain ⟨n6, hA7, h⟩ := h
    obtain ⟨h8, h⟩ := h
    refine r_iald x_94_71 hA7 hv3 h8.1 h8.2 ?_
    refine r_aload_n x_94_72 rfl ?_
    obtain ⟨b9, hb10, h⟩ := h
    refine r_getR x_94_73 rfl (ci := 5) (k := 2) (ns := 0) (by decide +kernel) (by decide) rfl (kz := 2) rfl hO1 hb10 ?_
    refine r_iload_n x_94_76 rfl ?_
    obtain ⟨n11, hA12, h⟩ := h
    obtain ⟨h13, h⟩ := h
    refine r_iald x_94_77 hA12 hv3 h13.1 h13.2 ?_
    refine r_invS x_94_78 (z := 114) (ns := 1) (by decide +kernel) (as := [.ref a5, g_n v2, .ref b2, g_n (g_i M b4 v3), g_n (g_i M b9 v3)]) (r := []) rfl rfl rfl ?_
    refine r_callI h fun r17 M14 hx15 hok16 hr18 h => ?_
    replace h := h hx15 hok16 hr18
    replace hO1 := hO1.up hx15
    replace hA7 := hA7.up hx15
    replace hA12 := hA12.up hx15
    refine r_goto x_94_81 (t := 85) (by decide +kernel) ?_
    exact h
theorem s_X5_walk_85 {d : Nat} {M : g_M} {Q : g_M → Prop} {a0 : Nat} {a1 : Nat} {v2 : Int} (hv2 : g_InR v2) {v3 : Int} (hv3 : g_InR v3) {v4 : Int} (hv4 : g_InR v4) {a5 : Nat} {v6 : Int} (hv6 : g_InR v6) {v7 : Int} (hv7 : g_InR v7) {w0 : Int} (hw0 : g_InR w0) (h : g_ok M → ((w0 < 0 → ((v6 = 4 → g_Run d 94 120 [(0, .ref a0), (1, .ref a1), (2, g_n v2), (3, g_n v3), (4, g_n v4), (5, .ref a5), (6, g_n v6), (7, g_n v7), (8, g_n w0)] [] M (g_qV Q)) ∧ (¬ v6 = 4 → g_O M a1 7 ∧ g_Call d 104 [.ref a1, g_n ((-1))] M (g_qV fun M2 => g_ext M M2 → g_ok M2 → g_Run d 94 120 [(0, .ref a0), (1, .ref a1), (2, g_n v2), (3, g_n v3), (4, g_n v4), (5, .ref a5), (6, g_n v6), (7, g_n v7), (8, g_n w0)] [] M2 (g_qV Q))))) ∧ (¬ w0 < 0 → g_InR (v3 + 1) ∧ g_InR (v4 + 1) ∧ g_O M a0 5 ∧ g_Call d 94 [.ref a0, .ref a1, g_n w0, g_n (v3 + 1), g_n (v4 + 1)] M (g_qV fun M8 => g_ext M M8 → g_ok M8 → g_Run d 94 120 [(0, .ref a0), (1, .ref a1), (2, g_n v2), (3, g_n v3), (4, g_n v4), (5, .ref a5), (6, g_n v6), (7, g_n v7), (8, g_n w0)] [] M8 (g_qV Q))))) : g_Run d 94 85 [(0, .ref a0), (1, .ref a1), (2, g_n v2), (3, g_n v3), (4, g_n v4), (5, .ref a5), (6, g_n v6), (7, g_n v7)] [g_n w0] M (g_qV Q) := by
  refine g_Run.ok fun hok => ?_
  replace h := h hok
  refine r_istore x_94_85 (by decide +kernel) rfl (lv1 := [(0, .ref a0), (1, .ref a1), (2, g_n v2), (3, g_n v3), (4, g_n v4), (5, .ref a5), (6, g_n v6), (7, g_n v7), (8, g_n w0)]) rfl ?_
  refine r_iload x_94_87 rfl ?_
  refine r_if_lt x_94_89 (t := 109) (by decide +kernel) hw0 (fun hc => ?_) (fun hc => ?_)
  · replace h := h.1 hc
    refine r_iload x_94_109 rfl ?_
    refine r_iconst x_94_111 ?_
    refine r_ic_eq x_94_112 (t := 120) (by decide +kernel) hv6 (g_Rk rfl) (fun hc => ?_) (fun hc => ?_)
    · replace h := h.1 hc
      exact h
    · replace h := h.2 hc
      refine r_aload_n x_94_115 rfl ?_
      refine r_iconst x_94_116 ?_
      obtain ⟨hO1, h⟩ := h
      refine r_invV x_94_117 (z := 104) (ns := 1) (by decide +kernel) (as := [g_n ((-1))]) (r := []) rfl rfl rfl hO1 rfl rfl ?_
      refine r_callV h fun M2 hx3 hok4 h => ?_
      replace h := h hx3 hok4
      replace hO1 := hO1.up hx3
      exact h
  · replace h := h.2 hc
    refine r_aload_n x_94_92 rfl ?_
    refine r_aload_n x_94_93 rfl ?_
    refine r_iload x_94_94 rfl ?_
    refine r_iload_n x_94_96 rfl ?_
    refine r_iconst x_94_97 ?_
    refine r_iadd x_94_98 ?_
    obtain ⟨h5, h⟩ := h
    refine r_iload x_94_99 rfl ?_
    refine r_iconst x_94_101 ?_
    refine r_iadd x_94_102 ?_
    obtain ⟨h6, h⟩ := h
    obtain ⟨hO7, h⟩ := h
    refine r_invV x_94_103 (z := 94) (ns := 0) (by decide +kernel) (as := [.ref a1, g_n w0, g_n (v3 + 1), g_n (v4 + 1)]) (r := []) rfl rfl rfl hO7 rfl rfl ?_
    refine r_callV h fun M8 hx9 hok10 h => ?_
    replace h := h hx9 hok10
    replace hO7 := hO7.up hx9
    refine r_goto x_94_106 (t := 120) (by decide +kernel) ?_
    exact h
theorem s_X5_walk_120 {d : Nat} {M : g_M} {Q : g_M → Prop} {a0 : Nat} {a1 : Nat} {v2 : Int} (hv2 : g_InR v2) {v3 : Int} (hv3 : g_InR v3) {v4 : Int} (hv4 : g_InR v4) {a5 : Nat} {v6 : Int} (hv6 : g_InR v6) {v7 : Int} (hv7 : g_InR v7) {v8 : Int} (hv8 : g_InR v8) (h : g_ok M → ((v6 = 4 → g_Call d 112 [.ref a5, g_n v2] M (g_qI fun r4 M1 => g_ext M M1 → g_ok M1 → g_InR r4 → g_Run d 94 141 [(0, .ref a0), (1, .ref a1), (2, g_n v2), (3, g_n v3), (4, g_n v4), (5, .ref a5), (6, g_n v6), (7, g_n v7), (8, g_n v8), (9, g_n r4), (10, g_n 0)] [] M1 (g_qV Q))) ∧ (¬ v6 = 4 → g_Run d 94 141 [(0, .ref a0), (1, .ref a1), (2, g_n v2), (3, g_n v3), (4, g_n v4), (5, .ref a5), (6, g_n v6), (7, g_n v7), (8, g_n v8), (9, g_n ((-1))), (10, g_n 0)] [] M (g_qV Q)))) : g_Run d 94 120 [(0, .ref a0), (1, .ref a1), (2, g_n v2), (3, g_n v3), (4, g_n v4), (5, .ref a5), (6, g_n v6), (7, g_n v7), (8, g_n v8)] [] M (g_qV Q) := by
  refine g_Run.ok fun hok => ?_
  replace h := h hok
  refine r_iload x_94_120 rfl ?_
  refine r_iconst x_94_122 ?_
  refine r_ic_ne x_94_123 (t := 135) (by decide +kernel) hv6 (g_Rk rfl) (fun hc => ?_) (fun hc => ?_)
  · replace h := h.2 hc
    refine r_iconst x_94_135 ?_
    refine r_istore x_94_136 (by decide +kernel) rfl (lv1 := [(0, .ref a0), (1, .ref a1), (2, g_n v2), (3, g_n v3), (4, g_n v4), (5, .ref a5), (6, g_n v6), (7, g_n v7), (8, g_n v8), (9, g_n ((-1)))]) rfl ?_
    refine r_iconst x_94_138 ?_
    refine r_istore x_94_139 (by decide +kernel) rfl (lv1 := [(0, .ref a0), (1, .ref a1), (2, g_n v2), (3, g_n v3), (4, g_n v4), (5, .ref a5), (6, g_n v6), (7, g_n v7), (8, g_n v8), (9, g_n ((-1))), (10, g_n 0)]) rfl ?_
    exact h
  · replace h := h.1 hc
    refine r_aload x_94_126 rfl ?_
    refine r_iload_n x_94_128 rfl ?_
    refine r_invS x_94_129 (z := 112) (ns := 1) (by decide +kernel) (as := [.ref a5, g_n v2]) (r := []) rfl rfl rfl ?_
    refine r_callI h fun r4 M1 hx2 hok3 hr5 h => ?_
    replace h := h hx2 hok3 hr5
    refine r_goto x_94_132 (t := 136) (by decide +kernel) ?_
    refine r_istore x_94_136 (by decide +kernel) rfl (lv1 := [(0, .ref a0), (1, .ref a1), (2, g_n v2), (3, g_n v3), (4, g_n v4), (5, .ref a5), (6, g_n v6), (7, g_n v7), (8, g_n v8), (9, g_n r4)]) rfl ?_
    refine r_iconst x_94_138 ?_
    refine r_istore x_94_139 (by decide +kernel) rfl (lv1 := [(0, .ref a0), (1, .ref a1), (2, g_n v2), (3, g_n v3), (4, g_n v4), (5, .ref a5), (6, g_n v6), (7, g_n v7), (8, g_n v8), (9, g_n r4), (10, g_n 0)]) rfl ?_
    exact h
theorem s_X5_walk_141 {d : Nat} {M : g_M} {Q : g_M → Prop} {a0 : Nat} {a1 : Nat} {v2 : Int} (hv2 : g_InR v2) {v3 : Int} (hv3 : g_InR v3) {v4 : Int} (hv4 : g_InR v4) {a5 : Nat} {v6 : Int} (hv6 : g_InR v6) {v7 : Int} (hv7 : g_InR v7) {v8 : Int} (hv8 : g_InR v8) {v9 : Int} (hv9 : g_InR v9) {v10 : Int} (hv10 : g_InR v10) (h : g_ok M → ((v10 < 100000 → g_Call d 108 [.ref a5, g_n v9] M (g_qI fun r4 M1 => g_ext M M1 → g_ok M1 → g_InR r4 → ((r4 = 0 → Q M1) ∧ (¬ r4 = 0 → g_Call d 108 [.ref a5, g_n v9] M1 (g_qI fun r9 M6 => g_ext M1 M6 → g_ok M6 → g_InR r9 → ((r9 = 3 → g_InR (v4 + 1) ∧ g_O M6 a0 5 ∧ g_Call d 94 [.ref a0, .ref a1, g_n v9, g_n v3, g_n (v4 + 1)] M6 (g_qV fun M19 => g_ext M6 M19 → g_ok M19 → g_Call d 111 [.ref a5, g_n v9] M19 (g_qI fun r25 M22 => g_ext M19 M22 → g_ok M22 → g_InR r25 → g_InR (v10 + 1) ∧ g_Run d 94 141 [(0, .ref a0), (1, .ref a1), (2, g_n v2), (3, g_n v3), (4, g_n v4), (5, .ref a5), (6, g_n v6), (7, g_n v7), (8, g_n v8), (9, g_n r25), (10, g_n (v10 + 1))] [] M22 (g_qV Q)))) ∧ (¬ r9 = 3 → g_Call d 111 [.ref a5, g_n v9] M6 (g_qI fun r14 M11 => g_ext M6 M11 → g_ok M11 → g_InR r14 → g_InR (v10 + 1) ∧ g_Run d 94 141 [(0, .ref a0), (1, .ref a1), (2, g_n v2), (3, g_n v3), (4, g_n v4), (5, .ref a5), (6, g_n v6), (7, g_n v7), (8, g_n v8), (9, g_n r14), (10, g_n (v10 + 1))] [] M11 (g_qV Q))))))))) ∧ (¬ v10 < 100000 → Q M))) : g_Run d 94 141 [(0, .ref a0), (1, .ref a1), (2, g_n v2), (3, g_n v3), (4, g_n v4), (5, .ref a5), (6, g_n v6), (7, g_n v7), (8, g_n v8), (9, g_n v9), (10, g_n v10)] [] M (g_qV Q) := by
  refine g_Run.ok fun hok => ?_
  replace h := h hok
  refine r_iload x_94_141 rfl ?_
  refine r_ldc x_94_143 (v := g_n 100000) rfl ?_
  refine r_ic_ge x_94_145 (t := 196) (by decide +kernel) hv10 (g_Rk rfl) (fun hc => ?_) (fun hc => ?_)
  · replace h := h.2 hc
    exact r_retV x_94_196 rfl h
  · replace h := h.1 hc
    refine r_aload x_94_148 rfl ?_
    refine r_iload x_94_150 rfl ?_
    refine r_invS x_94_152 (z := 108) (ns := 1) (by decide +kernel) (as := [.ref a5, g_n v9]) (r := []) rfl rfl rfl ?_
    refine r_callI h fun r4 M1 hx2 hok3 hr5 h => ?_
    replace h := h hx2 hok3 hr5
    refine r_if_eq x_94_155 (t := 196) (by decide +kernel) hr5 (fun hc => ?_) (fun hc => ?_)
    · replace h := h.1 hc
      exact r_retV x_94_196 rfl h
    · replace h := h.2 hc
      refine r_aload x_94_158 rfl ?_
      refine r_iload x_94_160 rfl ?_
      refine r_invS x_94_162 (z := 108) (ns := 1) (by decide +kernel) (as := [.ref a5, g_n v9]) (r := []) rfl rfl rfl ?_
      refine r_callI h fun r9 M6 hx7 hok8 hr10 h => ?_
      replace h := h hx7 hok8 hr10
      refine r_iconst x_94_165 ?_
      refine r_ic_ne x_94_166 (t := 181) (by decide +kernel) hr10 (g_Rk rfl) (fun hc => ?_) (fun hc => ?_)
      · replace h := h.2 hc
        refine r_aload x_94_181 rfl ?_
        refine r_iload x_94_183 rfl ?_
        refine r_invS x_94_185 (z := 111) (ns := 1) (by decide +kernel) (as := [.ref a5, g_n v9]) (r := []) rfl rfl rfl ?_
        refine r_callI h fun r14 M11 hx12 hok13 hr15 h => ?_
        replace h := h hx12 hok13 hr15
        refine r_istore x_94_188 (by decide +kernel) rfl (lv1 := [(0, .ref a0), (1, .ref a1), (2, g_n v2), (3, g_n v3), (4, g_n v4), (5, .ref a5), (6, g_n v6), (7, g_n v7), (8, g_n v8), (9, g_n r14), (10, g_n v10)]) rfl ?_
        obtain ⟨h16, h⟩ := h
        refine r_iinc x_94_190 (by decide +kernel) rfl rfl (lv1 := [(0, .ref a0), (1, .ref a1), (2, g_n v2), (3, g_n v3), (4, g_n v4), (5, .ref a5), (6, g_n v6), (7, g_n v7), (8, g_n v8), (9, g_n r14), (10, g_n (v10 + 1))]) rfl ?_
        refine r_goto x_94_193 (t := 141) (by decide +kernel) ?_
        exact h
      · replace h := h.1 hc
        refine r_aload_n x_94_169 rfl ?_
        refine r_aload_n x_94_170 rfl ?_
        refine r_iload x_94_171 rfl ?_
        refine r_iload_n x_94_173 rfl ?_
        refine r_iload x_94_174 rfl ?_
        refine r_iconst x_94_176 ?_
        refine r_iadd x_94_177 ?_
        obtain ⟨h17, h⟩ := h
        obtain ⟨hO18, h⟩ := h
        refine r_invV x_94_178 (z := 94) (ns := 0) (by decide +kernel) (as := [.ref a1, g_n v9, g_n v3, g_n (v4 + 1)]) (r := []) rfl rfl rfl hO18 rfl rfl ?_
        refine r_callV h fun M19 hx20 hok21 h => ?_
        replace h := h hx20 hok21
        replace hO18 := hO18.up hx20
        refine r_aload x_94_181 rfl ?_
        refine r_iload x_94_183 rfl ?_
        refine r_invS x_94_185 (z := 111) (ns := 1) (by decide +kernel) (as := [.ref a5, g_n v9]) (r := []) rfl rfl rfl ?_
        refine r_callI h fun r25 M22 hx23 hok24 hr26 h => ?_
        replace h := h hx23 hok24 hr26
        replace hO18 := hO18.up hx23
        refine r_istore x_94_188 (by decide +kernel) rfl (lv1 := [(0, .ref a0), (1, .ref a1), (2, g_n v2), (3, g_n v3), (4, g_n v4), (5, .ref a5), (6, g_n v6), (7, g_n v7), (8, g_n v8), (9, g_n r25), (10, g_n v10)]) rfl ?_
        obtain ⟨h27, h⟩ := h
        refine r_iinc x_94_190 (by decide +kernel) rfl rfl (lv1 := [(0, .ref a0), (1, .ref a1), (2, g_n v2), (3, g_n v3), (4, g_n v4), (5, .ref a5), (6, g_n v6), (7, g_n v7), (8, g_n v8), (9, g_n r25), (10, g_n (v10 + 1))]) rfl ?_
        refine r_goto x_94_193 (t := 141) (by decide +kernel) ?_
        exact h
