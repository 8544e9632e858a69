theorem x_104_0 : decode (q_code 104) 0 = .ok (.aload_n 0, 1) := by decide +kernel
theorem x_104_1 : decode (q_code 104) 1 = .ok (.getfield 20, 3) := by decide +kernel
theorem x_104_4 : decode (q_code 104) 4 = .ok (.aload_n 0, 1) := by decide +kernel
theorem x_104_5 : decode (q_code 104) 5 = .ok (.getfield 16, 3) := by decide +kernel
theorem x_104_8 : decode (q_code 104) 8 = .ok (.arraylength, 1) := by decide +kernel
theorem x_104_9 : decode (q_code 104) 9 = .ok (.if_icmp .lt 21, 3) := by decide +kernel
theorem x_104_12 : decode (q_code 104) 12 = .ok (.aload_n 0, 1) := by decide +kernel
theorem x_104_13 : decode (q_code 104) 13 = .ok (.aload_n 0, 1) := by decide +kernel
theorem x_104_14 : decode (q_code 104) 14 = .ok (.getfield 16, 3) := by decide +kernel
theorem x_104_17 : decode (q_code 104) 17 = .ok (.iconst 2, 1) := by decide +kernel
theorem x_104_18 : decode (q_code 104) 18 = .ok (.aload_n 0, 1) := by decide +kernel
theorem x_104_19 : decode (q_code 104) 19 = .ok (.getfield 16, 3) := by decide +kernel
theorem x_104_22 : decode (q_code 104) 22 = .ok (.arraylength, 1) := by decide +kernel
theorem x_104_23 : decode (q_code 104) 23 = .ok (.imul, 1) := by decide +kernel
theorem x_104_24 : decode (q_code 104) 24 = .ok (.invokestatic 24, 3) := by decide +kernel
theorem x_104_27 : decode (q_code 104) 27 = .ok (.putfield 16, 3) := by decide +kernel
theorem x_104_30 : decode (q_code 104) 30 = .ok (.aload_n 0, 1) := by decide +kernel
theorem x_104_31 : decode (q_code 104) 31 = .ok (.getfield 16, 3) := by decide +kernel
theorem x_104_34 : decode (q_code 104) 34 = .ok (.aload_n 0, 1) := by decide +kernel
theorem x_104_35 : decode (q_code 104) 35 = .ok (.getfield 20, 3) := by decide +kernel
theorem x_104_38 : decode (q_code 104) 38 = .ok (.iload_n 1, 1) := by decide +kernel
theorem x_104_39 : decode (q_code 104) 39 = .ok (.iastore, 1) := by decide +kernel
theorem x_104_40 : decode (q_code 104) 40 = .ok (.aload_n 0, 1) := by decide +kernel
theorem x_104_41 : decode (q_code 104) 41 = .ok (.dup, 1) := by decide +kernel
theorem x_104_42 : decode (q_code 104) 42 = .ok (.getfield 20, 3) := by decide +kernel
theorem x_104_45 : decode (q_code 104) 45 = .ok (.iconst 1, 1) := by decide +kernel
theorem x_104_46 : decode (q_code 104) 46 = .ok (.iadd, 1) := by decide +kernel
theorem x_104_47 : decode (q_code 104) 47 = .ok (.putfield 20, 3) := by decide +kernel
theorem x_104_50 : decode (q_code 104) 50 = .ok (.return_, 1) := by decide +kernel
theorem x_105_0 : decode (q_code 105) 0 = .ok (.iload_n 1, 1) := by decide +kernel
theorem x_105_1 : decode (q_code 105) 1 = .ok (.ifCond .lt 29, 3) := by decide +kernel
theorem x_105_4 : decode (q_code 105) 4 = .ok (.iload_n 1, 1) := by decide +kernel
theorem x_105_5 : decode (q_code 105) 5 = .ok (.aload_n 0, 1) := by decide +kernel
theorem x_105_6 : decode (q_code 105) 6 = .ok (.getfield 20, 3) := by decide +kernel
theorem x_105_9 : decode (q_code 105) 9 = .ok (.if_icmp .ge 21, 3) := by decide +kernel
theorem x_105_12 : decode (q_code 105) 12 = .ok (.iload_n 1, 1) := by decide +kernel
theorem x_105_13 : decode (q_code 105) 13 = .ok (.aload_n 0, 1) := by decide +kernel
theorem x_105_14 : decode (q_code 105) 14 = .ok (.getfield 16, 3) := by decide +kernel
theorem x_105_17 : decode (q_code 105) 17 = .ok (.arraylength, 1) := by decide +kernel
theorem x_105_18 : decode (q_code 105) 18 = .ok (.if_icmp .ge 12, 3) := by decide +kernel
theorem x_105_21 : decode (q_code 105) 21 = .ok (.aload_n 0, 1) := by decide +kernel
theorem x_105_22 : decode (q_code 105) 22 = .ok (.getfield 16, 3) := by decide +kernel
theorem x_105_25 : decode (q_code 105) 25 = .ok (.iload_n 1, 1) := by decide +kernel
theorem x_105_26 : decode (q_code 105) 26 = .ok (.iaload, 1) := by decide +kernel
theorem x_105_27 : decode (q_code 105) 27 = .ok (.goto 4, 3) := by decide +kernel
theorem x_105_30 : decode (q_code 105) 30 = .ok (.iconst (-1), 1) := by decide +kernel
theorem x_105_31 : decode (q_code 105) 31 = .ok (.ireturn, 1) := by decide +kernel
theorem x_106_0 : decode (q_code 106) 0 = .ok (.iload_n 1, 1) := by decide +kernel
theorem x_106_1 : decode (q_code 106) 1 = .ok (.ifCond .lt 27, 3) := by decide +kernel
theorem x_106_4 : decode (q_code 106) 4 = .ok (.iload_n 1, 1) := by decide +kernel
theorem x_106_5 : decode (q_code 106) 5 = .ok (.aload_n 0, 1) := by decide +kernel
theorem x_106_6 : decode (q_code 106) 6 = .ok (.getfield 20, 3) := by decide +kernel
theorem x_106_9 : decode (q_code 106) 9 = .ok (.if_icmp .ge 19, 3) := by decide +kernel
theorem x_106_12 : decode (q_code 106) 12 = .ok (.iload_n 1, 1) := by decide +kernel
theorem x_106_13 : decode (q_code 106) 13 = .ok (.aload_n 0, 1) := by decide +kernel
theorem x_106_14 : decode (q_code 106) 14 = .ok (.getfield 16, 3) := by decide +kernel
theorem x_106_17 : decode (q_code 106) 17 = .ok (.arraylength, 1) := by decide +kernel
theorem x_106_18 : decode (q_code 106) 18 = .ok (.if_icmp .ge 10, 3) := by decide +kernel
theorem x_106_21 : decode (q_code 106) 21 = .ok (.aload_n 0, 1) := by decide +kernel
theorem x_106_22 : decode (q_code 106) 22 = .ok (.getfield 16, 3) := by decide +kernel
theorem x_106_25 : decode (q_code 106) 25 = .ok (.iload_n 1, 1) := by decide +kernel
theorem x_106_26 : decode (q_code 106) 26 = .ok (.iload_n 2, 1) := by decide +kernel
theorem x_106_27 : decode (q_code 106) 27 = .ok (.iastore, 1) := by decide +kernel
theorem x_106_28 : decode (q_code 106) 28 = .ok (.return_, 1) := by decide +kernel
theorem x_107_0 : decode (q_code 107) 0 = .ok (.aload_n 0, 1) := by decide +kernel
theorem x_107_1 : decode (q_code 107) 1 = .ok (.getfield 20, 3) := by decide +kernel
theorem x_107_4 : decode (q_code 107) 4 = .ok (.istore_n 3, 1) := by decide +kernel
theorem x_107_5 : decode (q_code 107) 5 = .ok (.iload_n 3, 1) := by decide +kernel
theorem x_107_6 : decode (q_code 107) 6 = .ok (.iload_n 1, 1) := by decide +kernel
theorem x_107_7 : decode (q_code 107) 7 = .ok (.if_icmp .ne 8, 3) := by decide +kernel
theorem x_107_10 : decode (q_code 107) 10 = .ok (.aload_n 0, 1) := by decide +kernel
theorem x_107_11 : decode (q_code 107) 11 = .ok (.iload_n 2, 1) := by decide +kernel
theorem x_107_12 : decode (q_code 107) 12 = .ok (.invokevirtual 30, 3) := by decide +kernel
theorem x_107_15 : decode (q_code 107) 15 = .ok (.iload_n 1, 1) := by decide +kernel
theorem x_107_16 : decode (q_code 107) 16 = .ok (.istore 4, 2) := by decide +kernel
theorem x_107_18 : decode (q_code 107) 18 = .ok (.iload 4, 2) := by decide +kernel
theorem x_107_20 : decode (q_code 107) 20 = .ok (.iload_n 3, 1) := by decide +kernel
theorem x_107_21 : decode (q_code 107) 21 = .ok (.if_icmp .ge 101, 3) := by decide +kernel
theorem x_107_24 : decode (q_code 107) 24 = .ok (.aload_n 0, 1) := by decide +kernel
theorem x_107_25 : decode (q_code 107) 25 = .ok (.iload 4, 2) := by decide +kernel
theorem x_107_27 : decode (q_code 107) 27 = .ok (.invokevirtual 34, 3) := by decide +kernel
theorem x_107_30 : decode (q_code 107) 30 = .ok (.istore 5, 2) := by decide +kernel
theorem x_107_32 : decode (q_code 107) 32 = .ok (.iload 5, 2) := by decide +kernel
theorem x_107_34 : decode (q_code 107) 34 = .ok (.ifCond .ge 10, 3) := by decide +kernel
theorem x_107_37 : decode (q_code 107) 37 = .ok (.aload_n 0, 1) := by decide +kernel
theorem x_107_38 : decode (q_code 107) 38 = .ok (.iload 4, 2) := by decide +kernel
theorem x_107_40 : decode (q_code 107) 40 = .ok (.iload_n 2, 1) := by decide +kernel
theorem x_107_41 : decode (q_code 107) 41 = .ok (.invokevirtual 38, 3) := by decide +kernel
theorem x_107_44 : decode (q_code 107) 44 = .ok (.aload_n 0, 1) := by decide +kernel
theorem x_107_45 : decode (q_code 107) 45 = .ok (.getfield 10, 3) := by decide +kernel
theorem x_107_48 : decode (q_code 107) 48 = .ok (.iload 5, 2) := by decide +kernel
theorem x_107_50 : decode (q_code 107) 50 = .ok (.invokestatic 42, 3) := by decide +kernel
theorem x_107_53 : decode (q_code 107) 53 = .ok (.iconst 4, 1) := by decide +kernel
theorem x_107_54 : decode (q_code 107) 54 = .ok (.if_icmp .eq 6, 3) := by decide +kernel
theorem x_107_57 : decode (q_code 107) 57 = .ok (.goto 59, 3) := by decide +kernel
theorem x_107_60 : decode (q_code 107) 60 = .ok (.aload_n 0, 1) := by decide +kernel
theorem x_107_61 : decode (q_code 107) 61 = .ok (.getfield 10, 3) := by decide +kernel
theorem x_107_64 : decode (q_code 107) 64 = .ok (.iload 5, 2) := by decide +kernel
theorem x_107_66 : decode (q_code 107) 66 = .ok (.invokestatic 46, 3) := by decide +kernel
theorem x_107_69 : decode (q_code 107) 69 = .ok (.istore 6, 2) := by decide +kernel
theorem x_107_71 : decode (q_code 107) 71 = .ok (.iconst 0, 1) := by decide +kernel
theorem x_107_72 : decode (q_code 107) 72 = .ok (.istore 7, 2) := by decide +kernel
theorem x_107_74 : decode (q_code 107) 74 = .ok (.iload 7, 2) := by decide +kernel
theorem x_107_76 : decode (q_code 107) 76 = .ok (.ldc 49, 2) := by decide +kernel
theorem x_107_78 : decode (q_code 107) 78 = .ok (.if_icmp .ge 38, 3) := by decide +kernel
theorem x_107_81 : decode (q_code 107) 81 = .ok (.aload_n 0, 1) := by decide +kernel
theorem x_107_82 : decode (q_code 107) 82 = .ok (.getfield 10, 3) := by decide +kernel
theorem x_107_85 : decode (q_code 107) 85 = .ok (.iload 6, 2) := by decide +kernel
theorem x_107_87 : decode (q_code 107) 87 = .ok (.invokestatic 42, 3) := by decide +kernel
theorem x_107_90 : decode (q_code 107) 90 = .ok (.ifCond .eq 26, 3) := by decide +kernel
theorem x_107_93 : decode (q_code 107) 93 = .ok (.aload_n 0, 1) := by decide +kernel
theorem x_107_94 : decode (q_code 107) 94 = .ok (.iload 6, 2) := by decide +kernel
theorem x_107_96 : decode (q_code 107) 96 = .ok (.invokevirtual 30, 3) := by decide +kernel
theorem x_107_99 : decode (q_code 107) 99 = .ok (.aload_n 0, 1) := by decide +kernel
theorem x_107_100 : decode (q_code 107) 100 = .ok (.getfield 10, 3) := by decide +kernel
theorem x_107_103 : decode (q_code 107) 103 = .ok (.iload 6, 2) := by decide +kernel
theorem x_107_105 : decode (q_code 107) 105 = .ok (.invokestatic 50, 3) := by decide +kernel
theorem x_107_108 : decode (q_code 107) 108 = .ok (.istore 6, 2) := by decide +kernel
theorem x_107_110 : decode (q_code 107) 110 = .ok (.iinc 7 1, 3) := by decide +kernel
theorem x_107_113 : decode (q_code 107) 113 = .ok (.goto (-39), 3) := by decide +kernel
theorem x_107_116 : decode (q_code 107) 116 = .ok (.iinc 4 1, 3) := by decide +kernel
theorem x_107_119 : decode (q_code 107) 119 = .ok (.goto (-101), 3) := by decide +kernel
theorem x_107_122 : decode (q_code 107) 122 = .ok (.return_, 1) := by decide +kernel
theorem x_108_0 : decode (q_code 108) 0 = .ok (.iload_n 1, 1) := by decide +kernel
theorem x_108_1 : decode (q_code 108) 1 = .ok (.ifCond .lt 15, 3) := by decide +kernel
theorem x_108_4 : decode (q_code 108) 4 = .ok (.iload_n 1, 1) := by decide +kernel
theorem x_108_5 : decode (q_code 108) 5 = .ok (.aload_n 0, 1) := by decide +kernel
theorem x_108_6 : decode (q_code 108) 6 = .ok (.arraylength, 1) := by decide +kernel
theorem x_108_7 : decode (q_code 108) 7 = .ok (.if_icmp .ge 9, 3) := by decide +kernel
theorem x_108_10 : decode (q_code 108) 10 = .ok (.aload_n 0, 1) := by decide +kernel
theorem x_108_11 : decode (q_code 108) 11 = .ok (.iload_n 1, 1) := by decide +kernel
theorem x_108_12 : decode (q_code 108) 12 = .ok (.baload, 1) := by decide +kernel
theorem x_108_13 : decode (q_code 108) 13 = .ok (.goto 4, 3) := by decide +kernel
theorem x_108_16 : decode (q_code 108) 16 = .ok (.iconst 0, 1) := by decide +kernel
theorem x_108_17 : decode (q_code 108) 17 = .ok (.ireturn, 1) := by decide +kernel
theorem x_109_0 : decode (q_code 109) 0 = .ok (.iload_n 1, 1) := by decide +kernel
theorem x_109_1 : decode (q_code 109) 1 = .ok (.ifCond .lt 11, 3) := by decide +kernel
theorem x_109_4 : decode (q_code 109) 4 = .ok (.iload_n 1, 1) := by decide +kernel
theorem x_109_5 : decode (q_code 109) 5 = .ok (.iconst 4, 1) := by decide +kernel
theorem x_109_6 : decode (q_code 109) 6 = .ok (.iadd, 1) := by decide +kernel
theorem x_109_7 : decode (q_code 109) 7 = .ok (.aload_n 0, 1) := by decide +kernel
theorem x_109_8 : decode (q_code 109) 8 = .ok (.arraylength, 1) := by decide +kernel
theorem x_109_9 : decode (q_code 109) 9 = .ok (.if_icmp .le 5, 3) := by decide +kernel
theorem x_109_12 : decode (q_code 109) 12 = .ok (.iconst 0, 1) := by decide +kernel
theorem x_109_13 : decode (q_code 109) 13 = .ok (.ireturn, 1) := by decide +kernel
theorem x_109_14 : decode (q_code 109) 14 = .ok (.aload_n 0, 1) := by decide +kernel
theorem x_109_15 : decode (q_code 109) 15 = .ok (.iload_n 1, 1) := by decide +kernel
theorem x_109_16 : decode (q_code 109) 16 = .ok (.baload, 1) := by decide +kernel
theorem x_109_17 : decode (q_code 109) 17 = .ok (.sipush 255, 3) := by decide +kernel
theorem x_109_20 : decode (q_code 109) 20 = .ok (.iand, 1) := by decide +kernel
theorem x_109_21 : decode (q_code 109) 21 = .ok (.aload_n 0, 1) := by decide +kernel
theorem x_109_22 : decode (q_code 109) 22 = .ok (.iload_n 1, 1) := by decide +kernel
theorem x_109_23 : decode (q_code 109) 23 = .ok (.iconst 1, 1) := by decide +kernel
theorem x_109_24 : decode (q_code 109) 24 = .ok (.iadd, 1) := by decide +kernel
theorem x_109_25 : decode (q_code 109) 25 = .ok (.baload, 1) := by decide +kernel
theorem x_109_26 : decode (q_code 109) 26 = .ok (.sipush 255, 3) := by decide +kernel
theorem x_109_29 : decode (q_code 109) 29 = .ok (.iand, 1) := by decide +kernel
theorem x_109_30 : decode (q_code 109) 30 = .ok (.bipush 8, 2) := by decide +kernel
theorem x_109_32 : decode (q_code 109) 32 = .ok (.ishl, 1) := by decide +kernel
theorem x_109_33 : decode (q_code 109) 33 = .ok (.ior, 1) := by decide +kernel
theorem x_109_34 : decode (q_code 109) 34 = .ok (.aload_n 0, 1) := by decide +kernel
theorem x_109_35 : decode (q_code 109) 35 = .ok (.iload_n 1, 1) := by decide +kernel
theorem x_109_36 : decode (q_code 109) 36 = .ok (.iconst 2, 1) := by decide +kernel
theorem x_109_37 : decode (q_code 109) 37 = .ok (.iadd, 1) := by decide +kernel
theorem x_109_38 : decode (q_code 109) 38 = .ok (.baload, 1) := by decide +kernel
theorem x_109_39 : decode (q_code 109) 39 = .ok (.sipush 255, 3) := by decide +kernel
theorem x_109_42 : decode (q_code 109) 42 = .ok (.iand, 1) := by decide +kernel
theorem x_109_43 : decode (q_code 109) 43 = .ok (.bipush 16, 2) := by decide +kernel
theorem x_109_45 : decode (q_code 109) 45 = .ok (.ishl, 1) := by decide +kernel
theorem x_109_46 : decode (q_code 109) 46 = .ok (.ior, 1) := by decide +kernel
theorem x_109_47 : decode (q_code 109) 47 = .ok (.aload_n 0, 1) := by decide +kernel
theorem x_109_48 : decode (q_code 109) 48 = .ok (.iload_n 1, 1) := by decide +kernel
theorem x_109_49 : decode (q_code 109) 49 = .ok (.iconst 3, 1) := by decide +kernel
theorem x_109_50 : decode (q_code 109) 50 = .ok (.iadd, 1) := by decide +kernel
theorem x_109_51 : decode (q_code 109) 51 = .ok (.baload, 1) := by decide +kernel
theorem x_109_52 : decode (q_code 109) 52 = .ok (.bipush 24, 2) := by decide +kernel
theorem x_109_54 : decode (q_code 109) 54 = .ok (.ishl, 1) := by decide +kernel
theorem x_109_55 : decode (q_code 109) 55 = .ok (.ior, 1) := by decide +kernel
theorem x_109_56 : decode (q_code 109) 56 = .ok (.ireturn, 1) := by decide +kernel
theorem x_110_0 : decode (q_code 110) 0 = .ok (.iload_n 1, 1) := by decide +kernel
theorem x_110_1 : decode (q_code 110) 1 = .ok (.ifCond .ge 8, 3) := by decide +kernel
theorem x_110_4 : decode (q_code 110) 4 = .ok (.aload_n 0, 1) := by decide +kernel
theorem x_110_5 : decode (q_code 110) 5 = .ok (.arraylength, 1) := by decide +kernel
theorem x_110_6 : decode (q_code 110) 6 = .ok (.goto 4, 3) := by decide +kernel
theorem x_110_9 : decode (q_code 110) 9 = .ok (.iload_n 1, 1) := by decide +kernel
theorem x_110_10 : decode (q_code 110) 10 = .ok (.istore_n 2, 1) := by decide +kernel
theorem x_110_11 : decode (q_code 110) 11 = .ok (.iload_n 2, 1) := by decide +kernel
theorem x_110_12 : decode (q_code 110) 12 = .ok (.aload_n 0, 1) := by decide +kernel
theorem x_110_13 : decode (q_code 110) 13 = .ok (.arraylength, 1) := by decide +kernel
theorem x_110_14 : decode (q_code 110) 14 = .ok (.iconst 1, 1) := by decide +kernel
theorem x_110_15 : decode (q_code 110) 15 = .ok (.isub, 1) := by decide +kernel
theorem x_110_16 : decode (q_code 110) 16 = .ok (.if_icmp .ge 21, 3) := by decide +kernel
theorem x_110_19 : decode (q_code 110) 19 = .ok (.aload_n 0, 1) := by decide +kernel
theorem x_110_20 : decode (q_code 110) 20 = .ok (.iload_n 2, 1) := by decide +kernel
theorem x_110_21 : decode (q_code 110) 21 = .ok (.iconst 1, 1) := by decide +kernel
theorem x_110_22 : decode (q_code 110) 22 = .ok (.iadd, 1) := by decide +kernel
theorem x_110_23 : decode (q_code 110) 23 = .ok (.baload, 1) := by decide +kernel
theorem x_110_24 : decode (q_code 110) 24 = .ok (.ifCond .ne 7, 3) := by decide +kernel
theorem x_110_27 : decode (q_code 110) 27 = .ok (.iload_n 2, 1) := by decide +kernel
theorem x_110_28 : decode (q_code 110) 28 = .ok (.iconst 2, 1) := by decide +kernel
theorem x_110_29 : decode (q_code 110) 29 = .ok (.iadd, 1) := by decide +kernel
theorem x_110_30 : decode (q_code 110) 30 = .ok (.ireturn, 1) := by decide +kernel
theorem x_110_31 : decode (q_code 110) 31 = .ok (.iinc 2 1, 3) := by decide +kernel
theorem x_110_34 : decode (q_code 110) 34 = .ok (.goto (-23), 3) := by decide +kernel
theorem x_110_37 : decode (q_code 110) 37 = .ok (.aload_n 0, 1) := by decide +kernel
theorem x_110_38 : decode (q_code 110) 38 = .ok (.arraylength, 1) := by decide +kernel
theorem x_110_39 : decode (q_code 110) 39 = .ok (.ireturn, 1) := by decide +kernel
theorem x_111_0 : decode (q_code 111) 0 = .ok (.iload_n 1, 1) := by decide +kernel
theorem x_111_1 : decode (q_code 111) 1 = .ok (.ifCond .lt 9, 3) := by decide +kernel
theorem x_111_4 : decode (q_code 111) 4 = .ok (.iload_n 1, 1) := by decide +kernel
theorem x_111_5 : decode (q_code 111) 5 = .ok (.aload_n 0, 1) := by decide +kernel
theorem x_111_6 : decode (q_code 111) 6 = .ok (.arraylength, 1) := by decide +kernel
theorem x_111_7 : decode (q_code 111) 7 = .ok (.if_icmp .lt 6, 3) := by decide +kernel
theorem x_111_10 : decode (q_code 111) 10 = .ok (.aload_n 0, 1) := by decide +kernel
theorem x_111_11 : decode (q_code 111) 11 = .ok (.arraylength, 1) := by decide +kernel
theorem x_111_12 : decode (q_code 111) 12 = .ok (.ireturn, 1) := by decide +kernel
theorem x_111_13 : decode (q_code 111) 13 = .ok (.iload_n 1, 1) := by decide +kernel
theorem x_111_14 : decode (q_code 111) 14 = .ok (.iconst 1, 1) := by decide +kernel
theorem x_111_15 : decode (q_code 111) 15 = .ok (.iadd, 1) := by decide +kernel
theorem x_111_16 : decode (q_code 111) 16 = .ok (.istore_n 2, 1) := by decide +kernel
theorem x_111_17 : decode (q_code 111) 17 = .ok (.iload_n 2, 1) := by decide +kernel
theorem x_111_18 : decode (q_code 111) 18 = .ok (.aload_n 0, 1) := by decide +kernel
theorem x_111_19 : decode (q_code 111) 19 = .ok (.arraylength, 1) := by decide +kernel
theorem x_111_20 : decode (q_code 111) 20 = .ok (.if_icmp .ge 18, 3) := by decide +kernel
theorem x_111_23 : decode (q_code 111) 23 = .ok (.aload_n 0, 1) := by decide +kernel
theorem x_111_24 : decode (q_code 111) 24 = .ok (.iload_n 2, 1) := by decide +kernel
theorem x_111_25 : decode (q_code 111) 25 = .ok (.baload, 1) := by decide +kernel
theorem x_111_26 : decode (q_code 111) 26 = .ok (.ifCond .ne 6, 3) := by decide +kernel
theorem x_111_29 : decode (q_code 111) 29 = .ok (.goto 9, 3) := by decide +kernel
theorem x_111_32 : decode (q_code 111) 32 = .ok (.iinc 2 1, 3) := by decide +kernel
theorem x_111_35 : decode (q_code 111) 35 = .ok (.goto (-18), 3) := by decide +kernel
theorem x_111_38 : decode (q_code 111) 38 = .ok (.iinc 2 1, 3) := by decide +kernel
theorem x_111_41 : decode (q_code 111) 41 = .ok (.aload_n 0, 1) := by decide +kernel
theorem x_111_42 : decode (q_code 111) 42 = .ok (.iload_n 1, 1) := by decide +kernel
theorem x_111_43 : decode (q_code 111) 43 = .ok (.baload, 1) := by decide +kernel
theorem x_111_44 : decode (q_code 111) 44 = .ok (.tableswitch 100 2 18 #[97, 97, 97, 100, 100, 100, 93, 100, 100, 100, 100, 100, 100, 100, 84, 100, 88], 84) := by decide +kernel
theorem x_111_128 : decode (q_code 111) 128 = .ok (.iload_n 2, 1) := by decide +kernel
theorem x_111_129 : decode (q_code 111) 129 = .ok (.iconst 4, 1) := by decide +kernel
theorem x_111_130 : decode (q_code 111) 130 = .ok (.iadd, 1) := by decide +kernel
theorem x_111_131 : decode (q_code 111) 131 = .ok (.ireturn, 1) := by decide +kernel
theorem x_111_132 : decode (q_code 111) 132 = .ok (.iload_n 2, 1) := by decide +kernel
theorem x_111_133 : decode (q_code 111) 133 = .ok (.bipush 8, 2) := by decide +kernel
theorem x_111_135 : decode (q_code 111) 135 = .ok (.iadd, 1) := by decide +kernel
theorem x_111_136 : decode (q_code 111) 136 = .ok (.ireturn, 1) := by decide +kernel
theorem x_111_137 : decode (q_code 111) 137 = .ok (.iload_n 2, 1) := by decide +kernel
theorem x_111_138 : decode (q_code 111) 138 = .ok (.iconst 1, 1) := by decide +kernel
theorem x_111_139 : decode (q_code 111) 139 = .ok (.iadd, 1) := by decide +kernel
theorem x_111_140 : decode (q_code 111) 140 = .ok (.ireturn, 1) := by decide +kernel
theorem x_111_141 : decode (q_code 111) 141 = .ok (.goto 5, 3) := by decide +kernel
theorem x_111_144 : decode (q_code 111) 144 = .ok (.iload_n 2, 1) := by decide +kernel
theorem x_111_145 : decode (q_code 111) 145 = .ok (.ireturn, 1) := by decide +kernel
theorem x_111_146 : decode (q_code 111) 146 = .ok (.iload_n 2, 1) := by decide +kernel
theorem x_111_147 : decode (q_code 111) 147 = .ok (.iconst 4, 1) := by decide +kernel
theorem x_111_148 : decode (q_code 111) 148 = .ok (.iadd, 1) := by decide +kernel
theorem x_111_149 : decode (q_code 111) 149 = .ok (.aload_n 0, 1) := by decide +kernel
theorem x_111_150 : decode (q_code 111) 150 = .ok (.arraylength, 1) := by decide +kernel
theorem x_111_151 : decode (q_code 111) 151 = .ok (.if_icmp .le 6, 3) := by decide +kernel
theorem x_111_154 : decode (q_code 111) 154 = .ok (.aload_n 0, 1) := by decide +kernel
theorem x_111_155 : decode (q_code 111) 155 = .ok (.arraylength, 1) := by decide +kernel
theorem x_111_156 : decode (q_code 111) 156 = .ok (.ireturn, 1) := by decide +kernel
theorem x_111_157 : decode (q_code 111) 157 = .ok (.aload_n 0, 1) := by decide +kernel
theorem x_111_158 : decode (q_code 111) 158 = .ok (.iload_n 2, 1) := by decide +kernel
theorem x_111_159 : decode (q_code 111) 159 = .ok (.baload, 1) := by decide +kernel
theorem x_111_160 : decode (q_code 111) 160 = .ok (.sipush 255, 3) := by decide +kernel
theorem x_111_163 : decode (q_code 111) 163 = .ok (.iand, 1) := by decide +kernel
theorem x_111_164 : decode (q_code 111) 164 = .ok (.aload_n 0, 1) := by decide +kernel
theorem x_111_165 : decode (q_code 111) 165 = .ok (.iload_n 2, 1) := by decide +kernel
theorem x_111_166 : decode (q_code 111) 166 = .ok (.iconst 1, 1) := by decide +kernel
theorem x_111_167 : decode (q_code 111) 167 = .ok (.iadd, 1) := by decide +kernel
theorem x_111_168 : decode (q_code 111) 168 = .ok (.baload, 1) := by decide +kernel
theorem x_111_169 : decode (q_code 111) 169 = .ok (.sipush 255, 3) := by decide +kernel
theorem x_111_172 : decode (q_code 111) 172 = .ok (.iand, 1) := by decide +kernel
theorem x_111_173 : decode (q_code 111) 173 = .ok (.bipush 8, 2) := by decide +kernel
theorem x_111_175 : decode (q_code 111) 175 = .ok (.ishl, 1) := by decide +kernel
theorem x_111_176 : decode (q_code 111) 176 = .ok (.ior, 1) := by decide +kernel
theorem x_111_177 : decode (q_code 111) 177 = .ok (.aload_n 0, 1) := by decide +kernel
theorem x_111_178 : decode (q_code 111) 178 = .ok (.iload_n 2, 1) := by decide +kernel
theorem x_111_179 : decode (q_code 111) 179 = .ok (.iconst 2, 1) := by decide +kernel
theorem x_111_180 : decode (q_code 111) 180 = .ok (.iadd, 1) := by decide +kernel
theorem x_111_181 : decode (q_code 111) 181 = .ok (.baload, 1) := by decide +kernel
theorem x_111_182 : decode (q_code 111) 182 = .ok (.sipush 255, 3) := by decide +kernel
theorem x_111_185 : decode (q_code 111) 185 = .ok (.iand, 1) := by decide +kernel
theorem x_111_186 : decode (q_code 111) 186 = .ok (.bipush 16, 2) := by decide +kernel
theorem x_111_188 : decode (q_code 111) 188 = .ok (.ishl, 1) := by decide +kernel
theorem x_111_189 : decode (q_code 111) 189 = .ok (.ior, 1) := by decide +kernel
theorem x_111_190 : decode (q_code 111) 190 = .ok (.aload_n 0, 1) := by decide +kernel
theorem x_111_191 : decode (q_code 111) 191 = .ok (.iload_n 2, 1) := by decide +kernel
theorem x_111_192 : decode (q_code 111) 192 = .ok (.iconst 3, 1) := by decide +kernel
theorem x_111_193 : decode (q_code 111) 193 = .ok (.iadd, 1) := by decide +kernel
theorem x_111_194 : decode (q_code 111) 194 = .ok (.baload, 1) := by decide +kernel
theorem x_111_195 : decode (q_code 111) 195 = .ok (.bipush 24, 2) := by decide +kernel
theorem x_111_197 : decode (q_code 111) 197 = .ok (.ishl, 1) := by decide +kernel
theorem x_111_198 : decode (q_code 111) 198 = .ok (.ior, 1) := by decide +kernel
theorem x_111_199 : decode (q_code 111) 199 = .ok (.istore_n 3, 1) := by decide +kernel
theorem x_111_200 : decode (q_code 111) 200 = .ok (.aload_n 0, 1) := by decide +kernel
theorem x_111_201 : decode (q_code 111) 201 = .ok (.iload_n 1, 1) := by decide +kernel
theorem x_111_202 : decode (q_code 111) 202 = .ok (.baload, 1) := by decide +kernel
theorem x_111_203 : decode (q_code 111) 203 = .ok (.iconst 2, 1) := by decide +kernel
theorem x_111_204 : decode (q_code 111) 204 = .ok (.if_icmp .ne 11, 3) := by decide +kernel
theorem x_111_207 : decode (q_code 111) 207 = .ok (.iload_n 2, 1) := by decide +kernel
theorem x_111_208 : decode (q_code 111) 208 = .ok (.iconst 4, 1) := by decide +kernel
theorem x_111_209 : decode (q_code 111) 209 = .ok (.iadd, 1) := by decide +kernel
theorem x_111_210 : decode (q_code 111) 210 = .ok (.iload_n 3, 1) := by decide +kernel
theorem x_111_211 : decode (q_code 111) 211 = .ok (.iadd, 1) := by decide +kernel
theorem x_111_212 : decode (q_code 111) 212 = .ok (.goto 6, 3) := by decide +kernel
theorem x_111_215 : decode (q_code 111) 215 = .ok (.iload_n 2, 1) := by decide +kernel
theorem x_111_216 : decode (q_code 111) 216 = .ok (.iload_n 3, 1) := by decide +kernel
theorem x_111_217 : decode (q_code 111) 217 = .ok (.iadd, 1) := by decide +kernel
theorem x_111_218 : decode (q_code 111) 218 = .ok (.ireturn, 1) := by decide +kernel
theorem x_112_0 : decode (q_code 112) 0 = .ok (.iload_n 1, 1) := by decide +kernel
theorem x_112_1 : decode (q_code 112) 1 = .ok (.ifCond .ge 8, 3) := by decide +kernel
theorem x_112_4 : decode (q_code 112) 4 = .ok (.aload_n 0, 1) := by decide +kernel
theorem x_112_5 : decode (q_code 112) 5 = .ok (.arraylength, 1) := by decide +kernel
theorem x_112_6 : decode (q_code 112) 6 = .ok (.goto 4, 3) := by decide +kernel
theorem x_112_9 : decode (q_code 112) 9 = .ok (.iload_n 1, 1) := by decide +kernel
theorem x_112_10 : decode (q_code 112) 10 = .ok (.istore_n 2, 1) := by decide +kernel
theorem x_112_11 : decode (q_code 112) 11 = .ok (.iload_n 2, 1) := by decide +kernel
theorem x_112_12 : decode (q_code 112) 12 = .ok (.aload_n 0, 1) := by decide +kernel
theorem x_112_13 : decode (q_code 112) 13 = .ok (.arraylength, 1) := by decide +kernel
theorem x_112_14 : decode (q_code 112) 14 = .ok (.iconst 1, 1) := by decide +kernel
theorem x_112_15 : decode (q_code 112) 15 = .ok (.isub, 1) := by decide +kernel
theorem x_112_16 : decode (q_code 112) 16 = .ok (.if_icmp .ge 22, 3) := by decide +kernel
theorem x_112_19 : decode (q_code 112) 19 = .ok (.aload_n 0, 1) := by decide +kernel
theorem x_112_20 : decode (q_code 112) 20 = .ok (.iload_n 2, 1) := by decide +kernel
theorem x_112_21 : decode (q_code 112) 21 = .ok (.iconst 1, 1) := by decide +kernel
theorem x_112_22 : decode (q_code 112) 22 = .ok (.iadd, 1) := by decide +kernel
theorem x_112_23 : decode (q_code 112) 23 = .ok (.baload, 1) := by decide +kernel
theorem x_112_24 : decode (q_code 112) 24 = .ok (.ifCond .ne 8, 3) := by decide +kernel
theorem x_112_27 : decode (q_code 112) 27 = .ok (.iload_n 2, 1) := by decide +kernel
theorem x_112_28 : decode (q_code 112) 28 = .ok (.bipush 6, 2) := by decide +kernel
theorem x_112_30 : decode (q_code 112) 30 = .ok (.iadd, 1) := by decide +kernel
theorem x_112_31 : decode (q_code 112) 31 = .ok (.ireturn, 1) := by decide +kernel
theorem x_112_32 : decode (q_code 112) 32 = .ok (.iinc 2 1, 3) := by decide +kernel
theorem x_112_35 : decode (q_code 112) 35 = .ok (.goto (-24), 3) := by decide +kernel
theorem x_112_38 : decode (q_code 112) 38 = .ok (.aload_n 0, 1) := by decide +kernel
theorem x_112_39 : decode (q_code 112) 39 = .ok (.arraylength, 1) := by decide +kernel
theorem x_112_40 : decode (q_code 112) 40 = .ok (.ireturn, 1) := by decide +kernel
theorem x_113_0 : decode (q_code 113) 0 = .ok (.iconst 0, 1) := by decide +kernel
theorem x_113_1 : decode (q_code 113) 1 = .ok (.istore_n 2, 1) := by decide +kernel
theorem x_113_2 : decode (q_code 113) 2 = .ok (.aload_n 0, 1) := by decide +kernel
theorem x_113_3 : decode (q_code 113) 3 = .ok (.iload_n 1, 1) := by decide +kernel
theorem x_113_4 : decode (q_code 113) 4 = .ok (.invokestatic 46, 3) := by decide +kernel
theorem x_113_7 : decode (q_code 113) 7 = .ok (.istore_n 3, 1) := by decide +kernel
theorem x_113_8 : decode (q_code 113) 8 = .ok (.iconst 0, 1) := by decide +kernel
theorem x_113_9 : decode (q_code 113) 9 = .ok (.istore 4, 2) := by decide +kernel
theorem x_113_11 : decode (q_code 113) 11 = .ok (.iload 4, 2) := by decide +kernel
theorem x_113_13 : decode (q_code 113) 13 = .ok (.ldc 49, 2) := by decide +kernel
theorem x_113_15 : decode (q_code 113) 15 = .ok (.if_icmp .ge 26, 3) := by decide +kernel
theorem x_113_18 : decode (q_code 113) 18 = .ok (.aload_n 0, 1) := by decide +kernel
theorem x_113_19 : decode (q_code 113) 19 = .ok (.iload_n 3, 1) := by decide +kernel
theorem x_113_20 : decode (q_code 113) 20 = .ok (.invokestatic 42, 3) := by decide +kernel
theorem x_113_23 : decode (q_code 113) 23 = .ok (.ifCond .eq 18, 3) := by decide +kernel
theorem x_113_26 : decode (q_code 113) 26 = .ok (.iinc 2 1, 3) := by decide +kernel
theorem x_113_29 : decode (q_code 113) 29 = .ok (.aload_n 0, 1) := by decide +kernel
theorem x_113_30 : decode (q_code 113) 30 = .ok (.iload_n 3, 1) := by decide +kernel
theorem x_113_31 : decode (q_code 113) 31 = .ok (.invokestatic 50, 3) := by decide +kernel
theorem x_113_34 : decode (q_code 113) 34 = .ok (.istore_n 3, 1) := by decide +kernel
theorem x_113_35 : decode (q_code 113) 35 = .ok (.iinc 4 1, 3) := by decide +kernel
theorem x_113_38 : decode (q_code 113) 38 = .ok (.goto (-27), 3) := by decide +kernel
theorem x_113_41 : decode (q_code 113) 41 = .ok (.iload_n 2, 1) := by decide +kernel
theorem x_113_42 : decode (q_code 113) 42 = .ok (.ireturn, 1) := by decide +kernel
theorem x_114_0 : decode (q_code 114) 0 = .ok (.aload_n 0, 1) := by decide +kernel
theorem x_114_1 : decode (q_code 114) 1 = .ok (.iload_n 1, 1) := by decide +kernel
theorem x_114_2 : decode (q_code 114) 2 = .ok (.invokestatic 46, 3) := by decide +kernel
theorem x_114_5 : decode (q_code 114) 5 = .ok (.istore 5, 2) := by decide +kernel
theorem x_114_7 : decode (q_code 114) 7 = .ok (.iconst 0, 1) := by decide +kernel
theorem x_114_8 : decode (q_code 114) 8 = .ok (.istore 6, 2) := by decide +kernel
theorem x_114_10 : decode (q_code 114) 10 = .ok (.iload 6, 2) := by decide +kernel
theorem x_114_12 : decode (q_code 114) 12 = .ok (.ldc 49, 2) := by decide +kernel
theorem x_114_14 : decode (q_code 114) 14 = .ok (.if_icmp .ge 52, 3) := by decide +kernel
theorem x_114_17 : decode (q_code 114) 17 = .ok (.aload_n 0, 1) := by decide +kernel
theorem x_114_18 : decode (q_code 114) 18 = .ok (.iload 5, 2) := by decide +kernel
theorem x_114_20 : decode (q_code 114) 20 = .ok (.invokestatic 42, 3) := by decide +kernel
theorem x_114_23 : decode (q_code 114) 23 = .ok (.ifCond .eq 43, 3) := by decide +kernel
theorem x_114_26 : decode (q_code 114) 26 = .ok (.aload_n 0, 1) := by decide +kernel
theorem x_114_27 : decode (q_code 114) 27 = .ok (.iload 5, 2) := by decide +kernel
theorem x_114_29 : decode (q_code 114) 29 = .ok (.iconst 1, 1) := by decide +kernel
theorem x_114_30 : decode (q_code 114) 30 = .ok (.iadd, 1) := by decide +kernel
theorem x_114_31 : decode (q_code 114) 31 = .ok (.aload_n 0, 1) := by decide +kernel
theorem x_114_32 : decode (q_code 114) 32 = .ok (.iload 5, 2) := by decide +kernel
theorem x_114_34 : decode (q_code 114) 34 = .ok (.invokestatic 53, 3) := by decide +kernel
theorem x_114_37 : decode (q_code 114) 37 = .ok (.iconst 1, 1) := by decide +kernel
theorem x_114_38 : decode (q_code 114) 38 = .ok (.isub, 1) := by decide +kernel
theorem x_114_39 : decode (q_code 114) 39 = .ok (.aload_n 2, 1) := by decide +kernel
theorem x_114_40 : decode (q_code 114) 40 = .ok (.iload_n 3, 1) := by decide +kernel
theorem x_114_41 : decode (q_code 114) 41 = .ok (.iload 4, 2) := by decide +kernel
theorem x_114_43 : decode (q_code 114) 43 = .ok (.invokestatic 56, 3) := by decide +kernel
theorem x_114_46 : decode (q_code 114) 46 = .ok (.ifCond .ne 6, 3) := by decide +kernel
theorem x_114_49 : decode (q_code 114) 49 = .ok (.iload 5, 2) := by decide +kernel
theorem x_114_51 : decode (q_code 114) 51 = .ok (.ireturn, 1) := by decide +kernel
theorem x_114_52 : decode (q_code 114) 52 = .ok (.aload_n 0, 1) := by decide +kernel
theorem x_114_53 : decode (q_code 114) 53 = .ok (.iload 5, 2) := by decide +kernel
theorem x_114_55 : decode (q_code 114) 55 = .ok (.invokestatic 50, 3) := by decide +kernel
theorem x_114_58 : decode (q_code 114) 58 = .ok (.istore 5, 2) := by decide +kernel
theorem x_114_60 : decode (q_code 114) 60 = .ok (.iinc 6 1, 3) := by decide +kernel
theorem x_114_63 : decode (q_code 114) 63 = .ok (.goto (-53), 3) := by decide +kernel
theorem x_114_66 : decode (q_code 114) 66 = .ok (.iconst (-1), 1) := by decide +kernel
theorem x_114_67 : decode (q_code 114) 67 = .ok (.ireturn, 1) := by decide +kernel
theorem x_115_0 : decode (q_code 115) 0 = .ok (.aload_n 2, 1) := by decide +kernel
theorem x_115_1 : decode (q_code 115) 1 = .ok (.invokevirtual 60, 3) := by decide +kernel
theorem x_115_4 : decode (q_code 115) 4 = .ok (.istore_n 3, 1) := by decide +kernel
theorem x_115_5 : decode (q_code 115) 5 = .ok (.iload_n 1, 1) := by decide +kernel
theorem x_115_6 : decode (q_code 115) 6 = .ok (.ifCond .lt 13, 3) := by decide +kernel
theorem x_115_9 : decode (q_code 115) 9 = .ok (.iload_n 1, 1) := by decide +kernel
theorem x_115_10 : decode (q_code 115) 10 = .ok (.iconst 1, 1) := by decide +kernel
theorem x_115_11 : decode (q_code 115) 11 = .ok (.iadd, 1) := by decide +kernel
theorem x_115_12 : decode (q_code 115) 12 = .ok (.iload_n 3, 1) := by decide +kernel
theorem x_115_13 : decode (q_code 115) 13 = .ok (.iadd, 1) := by decide +kernel
theorem x_115_14 : decode (q_code 115) 14 = .ok (.aload_n 0, 1) := by decide +kernel
theorem x_115_15 : decode (q_code 115) 15 = .ok (.arraylength, 1) := by decide +kernel
theorem x_115_16 : decode (q_code 115) 16 = .ok (.if_icmp .lt 5, 3) := by decide +kernel
theorem x_115_19 : decode (q_code 115) 19 = .ok (.iconst 0, 1) := by decide +kernel
theorem x_115_20 : decode (q_code 115) 20 = .ok (.ireturn, 1) := by decide +kernel
theorem x_115_21 : decode (q_code 115) 21 = .ok (.iconst 0, 1) := by decide +kernel
theorem x_115_22 : decode (q_code 115) 22 = .ok (.istore 4, 2) := by decide +kernel
theorem x_115_24 : decode (q_code 115) 24 = .ok (.iload 4, 2) := by decide +kernel
theorem x_115_26 : decode (q_code 115) 26 = .ok (.iload_n 3, 1) := by decide +kernel
theorem x_115_27 : decode (q_code 115) 27 = .ok (.if_icmp .ge 28, 3) := by decide +kernel
theorem x_115_30 : decode (q_code 115) 30 = .ok (.aload_n 0, 1) := by decide +kernel
theorem x_115_31 : decode (q_code 115) 31 = .ok (.iload_n 1, 1) := by decide +kernel
theorem x_115_32 : decode (q_code 115) 32 = .ok (.iconst 1, 1) := by decide +kernel
theorem x_115_33 : decode (q_code 115) 33 = .ok (.iadd, 1) := by decide +kernel
theorem x_115_34 : decode (q_code 115) 34 = .ok (.iload 4, 2) := by decide +kernel
theorem x_115_36 : decode (q_code 115) 36 = .ok (.iadd, 1) := by decide +kernel
theorem x_115_37 : decode (q_code 115) 37 = .ok (.baload, 1) := by decide +kernel
theorem x_115_38 : decode (q_code 115) 38 = .ok (.aload_n 2, 1) := by decide +kernel
theorem x_115_39 : decode (q_code 115) 39 = .ok (.iload 4, 2) := by decide +kernel
theorem x_115_41 : decode (q_code 115) 41 = .ok (.invokevirtual 66, 3) := by decide +kernel
theorem x_115_44 : decode (q_code 115) 44 = .ok (.if_icmp .eq 5, 3) := by decide +kernel
theorem x_115_47 : decode (q_code 115) 47 = .ok (.iconst 0, 1) := by decide +kernel
theorem x_115_48 : decode (q_code 115) 48 = .ok (.ireturn, 1) := by decide +kernel
theorem x_115_49 : decode (q_code 115) 49 = .ok (.iinc 4 1, 3) := by decide +kernel
theorem x_115_52 : decode (q_code 115) 52 = .ok (.goto (-28), 3) := by decide +kernel
theorem x_115_55 : decode (q_code 115) 55 = .ok (.aload_n 0, 1) := by decide +kernel
theorem x_115_56 : decode (q_code 115) 56 = .ok (.iload_n 1, 1) := by decide +kernel
theorem x_115_57 : decode (q_code 115) 57 = .ok (.iconst 1, 1) := by decide +kernel
theorem x_115_58 : decode (q_code 115) 58 = .ok (.iadd, 1) := by decide +kernel
theorem x_115_59 : decode (q_code 115) 59 = .ok (.iload_n 3, 1) := by decide +kernel
theorem x_115_60 : decode (q_code 115) 60 = .ok (.iadd, 1) := by decide +kernel
theorem x_115_61 : decode (q_code 115) 61 = .ok (.baload, 1) := by decide +kernel
theorem x_115_62 : decode (q_code 115) 62 = .ok (.ifCond .ne 7, 3) := by decide +kernel
theorem x_115_65 : decode (q_code 115) 65 = .ok (.iconst 1, 1) := by decide +kernel
theorem x_115_66 : decode (q_code 115) 66 = .ok (.goto 4, 3) := by decide +kernel
theorem x_115_69 : decode (q_code 115) 69 = .ok (.iconst 0, 1) := by decide +kernel
theorem x_115_70 : decode (q_code 115) 70 = .ok (.ireturn, 1) := by decide +kernel
theorem x_116_0 : decode (q_code 116) 0 = .ok (.iload_n 1, 1) := by decide +kernel
theorem x_116_1 : decode (q_code 116) 1 = .ok (.ifCond .lt 25, 3) := by decide +kernel
theorem x_116_4 : decode (q_code 116) 4 = .ok (.iload_n 1, 1) := by decide +kernel
theorem x_116_5 : decode (q_code 116) 5 = .ok (.iconst 1, 1) := by decide +kernel
theorem x_116_6 : decode (q_code 116) 6 = .ok (.iadd, 1) := by decide +kernel
theorem x_116_7 : decode (q_code 116) 7 = .ok (.aload_n 0, 1) := by decide +kernel
theorem x_116_8 : decode (q_code 116) 8 = .ok (.arraylength, 1) := by decide +kernel
theorem x_116_9 : decode (q_code 116) 9 = .ok (.if_icmp .ge 17, 3) := by decide +kernel
theorem x_116_12 : decode (q_code 116) 12 = .ok (.aload_n 0, 1) := by decide +kernel
theorem x_116_13 : decode (q_code 116) 13 = .ok (.iload_n 1, 1) := by decide +kernel
theorem x_116_14 : decode (q_code 116) 14 = .ok (.iconst 1, 1) := by decide +kernel
theorem x_116_15 : decode (q_code 116) 15 = .ok (.iadd, 1) := by decide +kernel
theorem x_116_16 : decode (q_code 116) 16 = .ok (.baload, 1) := by decide +kernel
theorem x_116_17 : decode (q_code 116) 17 = .ok (.bipush 36, 2) := by decide +kernel
theorem x_116_19 : decode (q_code 116) 19 = .ok (.if_icmp .ne 7, 3) := by decide +kernel
theorem x_116_22 : decode (q_code 116) 22 = .ok (.iconst 1, 1) := by decide +kernel
theorem x_116_23 : decode (q_code 116) 23 = .ok (.goto 4, 3) := by decide +kernel
theorem x_116_26 : decode (q_code 116) 26 = .ok (.iconst 0, 1) := by decide +kernel
theorem x_116_27 : decode (q_code 116) 27 = .ok (.ireturn, 1) := by decide +kernel
theorem x_117_0 : decode (q_code 117) 0 = .ok (.aload_n 0, 1) := by decide +kernel
theorem x_117_1 : decode (q_code 117) 1 = .ok (.iload_n 1, 1) := by decide +kernel
theorem x_117_2 : decode (q_code 117) 2 = .ok (.invokestatic 42, 3) := by decide +kernel
theorem x_117_5 : decode (q_code 117) 5 = .ok (.istore_n 2, 1) := by decide +kernel
theorem x_117_6 : decode (q_code 117) 6 = .ok (.iload_n 2, 1) := by decide +kernel
theorem x_117_7 : decode (q_code 117) 7 = .ok (.bipush 16, 2) := by decide +kernel
theorem x_117_9 : decode (q_code 117) 9 = .ok (.if_icmp .eq 9, 3) := by decide +kernel
theorem x_117_12 : decode (q_code 117) 12 = .ok (.iload_n 2, 1) := by decide +kernel
theorem x_117_13 : decode (q_code 117) 13 = .ok (.bipush 18, 2) := by decide +kernel
theorem x_117_15 : decode (q_code 117) 15 = .ok (.if_icmp .ne 7, 3) := by decide +kernel
theorem x_117_18 : decode (q_code 117) 18 = .ok (.iconst 1, 1) := by decide +kernel
theorem x_117_19 : decode (q_code 117) 19 = .ok (.goto 4, 3) := by decide +kernel
theorem x_117_22 : decode (q_code 117) 22 = .ok (.iconst 0, 1) := by decide +kernel
theorem x_117_23 : decode (q_code 117) 23 = .ok (.ireturn, 1) := by decide +kernel
theorem x_118_0 : decode (q_code 118) 0 = .ok (.aload_n 0, 1) := by decide +kernel
theorem x_118_1 : decode (q_code 118) 1 = .ok (.iload_n 1, 1) := by decide +kernel
theorem x_118_2 : decode (q_code 118) 2 = .ok (.invokestatic 53, 3) := by decide +kernel
theorem x_118_5 : decode (q_code 118) 5 = .ok (.istore_n 2, 1) := by decide +kernel
theorem x_118_6 : decode (q_code 118) 6 = .ok (.aload_n 0, 1) := by decide +kernel
theorem x_118_7 : decode (q_code 118) 7 = .ok (.iload_n 2, 1) := by decide +kernel
theorem x_118_8 : decode (q_code 118) 8 = .ok (.invokestatic 70, 3) := by decide +kernel
theorem x_118_11 : decode (q_code 118) 11 = .ok (.istore_n 3, 1) := by decide +kernel
theorem x_118_12 : decode (q_code 118) 12 = .ok (.aload_n 0, 1) := by decide +kernel
theorem x_118_13 : decode (q_code 118) 13 = .ok (.iload_n 1, 1) := by decide +kernel
theorem x_118_14 : decode (q_code 118) 14 = .ok (.invokestatic 42, 3) := by decide +kernel
theorem x_118_17 : decode (q_code 118) 17 = .ok (.bipush 16, 2) := by decide +kernel
theorem x_118_19 : decode (q_code 118) 19 = .ok (.if_icmp .ne 8, 3) := by decide +kernel
theorem x_118_22 : decode (q_code 118) 22 = .ok (.iload_n 3, 1) := by decide +kernel
theorem x_118_23 : decode (q_code 118) 23 = .ok (.i2l, 1) := by decide +kernel
theorem x_118_24 : decode (q_code 118) 24 = .ok (.goto 21, 3) := by decide +kernel
theorem x_118_27 : decode (q_code 118) 27 = .ok (.iload_n 3, 1) := by decide +kernel
theorem x_118_28 : decode (q_code 118) 28 = .ok (.i2l, 1) := by decide +kernel
theorem x_118_29 : decode (q_code 118) 29 = .ok (.ldc2_w 73, 3) := by decide +kernel
theorem x_118_32 : decode (q_code 118) 32 = .ok (.land, 1) := by decide +kernel
theorem x_118_33 : decode (q_code 118) 33 = .ok (.aload_n 0, 1) := by decide +kernel
theorem x_118_34 : decode (q_code 118) 34 = .ok (.iload_n 2, 1) := by decide +kernel
theorem x_118_35 : decode (q_code 118) 35 = .ok (.iconst 4, 1) := by decide +kernel
theorem x_118_36 : decode (q_code 118) 36 = .ok (.iadd, 1) := by decide +kernel
theorem x_118_37 : decode (q_code 118) 37 = .ok (.invokestatic 70, 3) := by decide +kernel
theorem x_118_40 : decode (q_code 118) 40 = .ok (.i2l, 1) := by decide +kernel
theorem x_118_41 : decode (q_code 118) 41 = .ok (.bipush 32, 2) := by decide +kernel
theorem x_118_43 : decode (q_code 118) 43 = .ok (.lshl, 1) := by decide +kernel
theorem x_118_44 : decode (q_code 118) 44 = .ok (.lor, 1) := by decide +kernel
theorem x_118_45 : decode (q_code 118) 45 = .ok (.lreturn, 1) := by decide +kernel
theorem x_119_0 : decode (q_code 119) 0 = .ok (.aload_n 0, 1) := by decide +kernel
theorem x_119_1 : decode (q_code 119) 1 = .ok (.iload_n 1, 1) := by decide +kernel
theorem x_119_2 : decode (q_code 119) 2 = .ok (.invokestatic 42, 3) := by decide +kernel
theorem x_119_5 : decode (q_code 119) 5 = .ok (.bipush 8, 2) := by decide +kernel
theorem x_119_7 : decode (q_code 119) 7 = .ok (.if_icmp .ne 20, 3) := by decide +kernel
theorem x_119_10 : decode (q_code 119) 10 = .ok (.aload_n 0, 1) := by decide +kernel
theorem x_119_11 : decode (q_code 119) 11 = .ok (.aload_n 0, 1) := by decide +kernel
theorem x_119_12 : decode (q_code 119) 12 = .ok (.iload_n 1, 1) := by decide +kernel
theorem x_119_13 : decode (q_code 119) 13 = .ok (.invokestatic 53, 3) := by decide +kernel
theorem x_119_16 : decode (q_code 119) 16 = .ok (.invokestatic 42, 3) := by decide +kernel
theorem x_119_19 : decode (q_code 119) 19 = .ok (.iload_n 2, 1) := by decide +kernel
theorem x_119_20 : decode (q_code 119) 20 = .ok (.if_icmp .ne 7, 3) := by decide +kernel
theorem x_119_23 : decode (q_code 119) 23 = .ok (.iconst 1, 1) := by decide +kernel
theorem x_119_24 : decode (q_code 119) 24 = .ok (.goto 4, 3) := by decide +kernel
theorem x_119_27 : decode (q_code 119) 27 = .ok (.iconst 0, 1) := by decide +kernel
theorem x_119_28 : decode (q_code 119) 28 = .ok (.ireturn, 1) := by decide +kernel
theorem x_120_0 : decode (q_code 120) 0 = .ok (.iload_n 1, 1) := by decide +kernel
theorem x_120_1 : decode (q_code 120) 1 = .ok (.ifCond .lt 9, 3) := by decide +kernel
theorem x_120_4 : decode (q_code 120) 4 = .ok (.iload_n 1, 1) := by decide +kernel
theorem x_120_5 : decode (q_code 120) 5 = .ok (.aload_n 0, 1) := by decide +kernel
theorem x_120_6 : decode (q_code 120) 6 = .ok (.arraylength, 1) := by decide +kernel
theorem x_120_7 : decode (q_code 120) 7 = .ok (.if_icmp .lt 5, 3) := by decide +kernel
theorem x_120_10 : decode (q_code 120) 10 = .ok (.iconst 0, 1) := by decide +kernel
theorem x_120_11 : decode (q_code 120) 11 = .ok (.ireturn, 1) := by decide +kernel
theorem x_120_12 : decode (q_code 120) 12 = .ok (.aload_n 0, 1) := by decide +kernel
theorem x_120_13 : decode (q_code 120) 13 = .ok (.iload_n 1, 1) := by decide +kernel
theorem x_120_14 : decode (q_code 120) 14 = .ok (.baload, 1) := by decide +kernel
theorem x_120_15 : decode (q_code 120) 15 = .ok (.tableswitch 91 2 18 #[85, 87, 89, 91, 91, 91, 91, 91, 81, 91, 91, 91, 91, 91, 83, 91, 83], 81) := by decide +kernel
theorem x_120_96 : decode (q_code 120) 96 = .ok (.iconst 1, 1) := by decide +kernel
theorem x_120_97 : decode (q_code 120) 97 = .ok (.ireturn, 1) := by decide +kernel
theorem x_120_98 : decode (q_code 120) 98 = .ok (.iconst 2, 1) := by decide +kernel
theorem x_120_99 : decode (q_code 120) 99 = .ok (.ireturn, 1) := by decide +kernel
theorem x_120_100 : decode (q_code 120) 100 = .ok (.iconst 3, 1) := by decide +kernel
theorem x_120_101 : decode (q_code 120) 101 = .ok (.ireturn, 1) := by decide +kernel
theorem x_120_102 : decode (q_code 120) 102 = .ok (.iconst 4, 1) := by decide +kernel
theorem x_120_103 : decode (q_code 120) 103 = .ok (.ireturn, 1) := by decide +kernel
theorem x_120_104 : decode (q_code 120) 104 = .ok (.iconst 5, 1) := by decide +kernel
theorem x_120_105 : decode (q_code 120) 105 = .ok (.ireturn, 1) := by decide +kernel
theorem x_120_106 : decode (q_code 120) 106 = .ok (.bipush 6, 2) := by decide +kernel
theorem x_120_108 : decode (q_code 120) 108 = .ok (.ireturn, 1) := by decide +kernel
theorem x_121_0 : decode (q_code 121) 0 = .ok (.aload_n 0, 1) := by decide +kernel
theorem x_121_1 : decode (q_code 121) 1 = .ok (.iload_n 1, 1) := by decide +kernel
theorem x_121_2 : decode (q_code 121) 2 = .ok (.invokestatic 75, 3) := by decide +kernel
theorem x_121_5 : decode (q_code 121) 5 = .ok (.istore 5, 2) := by decide +kernel
theorem x_121_7 : decode (q_code 121) 7 = .ok (.iload 5, 2) := by decide +kernel
theorem x_121_9 : decode (q_code 121) 9 = .ok (.aload_n 2, 1) := by decide +kernel
theorem x_121_10 : decode (q_code 121) 10 = .ok (.iload_n 3, 1) := by decide +kernel
theorem x_121_11 : decode (q_code 121) 11 = .ok (.invokestatic 75, 3) := by decide +kernel
theorem x_121_14 : decode (q_code 121) 14 = .ok (.if_icmp .eq 19, 3) := by decide +kernel
theorem x_121_17 : decode (q_code 121) 17 = .ok (.iload 5, 2) := by decide +kernel
theorem x_121_19 : decode (q_code 121) 19 = .ok (.aload_n 2, 1) := by decide +kernel
theorem x_121_20 : decode (q_code 121) 20 = .ok (.iload_n 3, 1) := by decide +kernel
theorem x_121_21 : decode (q_code 121) 21 = .ok (.invokestatic 75, 3) := by decide +kernel
theorem x_121_24 : decode (q_code 121) 24 = .ok (.if_icmp .ge 7, 3) := by decide +kernel
theorem x_121_27 : decode (q_code 121) 27 = .ok (.iconst (-1), 1) := by decide +kernel
theorem x_121_28 : decode (q_code 121) 28 = .ok (.goto 4, 3) := by decide +kernel
theorem x_121_31 : decode (q_code 121) 31 = .ok (.iconst 1, 1) := by decide +kernel
theorem x_121_32 : decode (q_code 121) 32 = .ok (.ireturn, 1) := by decide +kernel
theorem x_121_33 : decode (q_code 121) 33 = .ok (.iload 5, 2) := by decide +kernel
theorem x_121_35 : decode (q_code 121) 35 = .ok (.iconst 2, 1) := by decide +kernel
theorem x_121_36 : decode (q_code 121) 36 = .ok (.if_icmp .ge 5, 3) := by decide +kernel
theorem x_121_39 : decode (q_code 121) 39 = .ok (.iconst 0, 1) := by decide +kernel
theorem x_121_40 : decode (q_code 121) 40 = .ok (.ireturn, 1) := by decide +kernel
theorem x_121_41 : decode (q_code 121) 41 = .ok (.aload_n 0, 1) := by decide +kernel
theorem x_121_42 : decode (q_code 121) 42 = .ok (.iload_n 1, 1) := by decide +kernel
theorem x_121_43 : decode (q_code 121) 43 = .ok (.invokestatic 53, 3) := by decide +kernel
theorem x_121_46 : decode (q_code 121) 46 = .ok (.istore 6, 2) := by decide +kernel
theorem x_121_48 : decode (q_code 121) 48 = .ok (.aload_n 2, 1) := by decide +kernel
theorem x_121_49 : decode (q_code 121) 49 = .ok (.iload_n 3, 1) := by decide +kernel
theorem x_121_50 : decode (q_code 121) 50 = .ok (.invokestatic 53, 3) := by decide +kernel
theorem x_121_53 : decode (q_code 121) 53 = .ok (.istore 7, 2) := by decide +kernel
theorem x_121_55 : decode (q_code 121) 55 = .ok (.iload 5, 2) := by decide +kernel
theorem x_121_57 : decode (q_code 121) 57 = .ok (.tableswitch 181 2 6 #[35, 129, 181, 181, 165], 35) := by decide +kernel
theorem x_121_92 : decode (q_code 121) 92 = .ok (.aload_n 0, 1) := by decide +kernel
theorem x_121_93 : decode (q_code 121) 93 = .ok (.iload 6, 2) := by decide +kernel
theorem x_121_95 : decode (q_code 121) 95 = .ok (.invokestatic 70, 3) := by decide +kernel
theorem x_121_98 : decode (q_code 121) 98 = .ok (.i2l, 1) := by decide +kernel
theorem x_121_99 : decode (q_code 121) 99 = .ok (.lstore 8, 2) := by decide +kernel
theorem x_121_101 : decode (q_code 121) 101 = .ok (.aload_n 2, 1) := by decide +kernel
theorem x_121_102 : decode (q_code 121) 102 = .ok (.iload 7, 2) := by decide +kernel
theorem x_121_104 : decode (q_code 121) 104 = .ok (.invokestatic 70, 3) := by decide +kernel
theorem x_121_107 : decode (q_code 121) 107 = .ok (.i2l, 1) := by decide +kernel
theorem x_121_108 : decode (q_code 121) 108 = .ok (.lstore 10, 2) := by decide +kernel
theorem x_121_110 : decode (q_code 121) 110 = .ok (.aload_n 0, 1) := by decide +kernel
theorem x_121_111 : decode (q_code 121) 111 = .ok (.iload_n 1, 1) := by decide +kernel
theorem x_121_112 : decode (q_code 121) 112 = .ok (.baload, 1) := by decide +kernel
theorem x_121_113 : decode (q_code 121) 113 = .ok (.bipush 16, 2) := by decide +kernel
theorem x_121_115 : decode (q_code 121) 115 = .ok (.if_icmp .ne 8, 3) := by decide +kernel
theorem x_121_118 : decode (q_code 121) 118 = .ok (.lload 8, 2) := by decide +kernel
theorem x_121_120 : decode (q_code 121) 120 = .ok (.goto 22, 3) := by decide +kernel
theorem x_121_123 : decode (q_code 121) 123 = .ok (.lload 8, 2) := by decide +kernel
theorem x_121_125 : decode (q_code 121) 125 = .ok (.ldc2_w 73, 3) := by decide +kernel
theorem x_121_128 : decode (q_code 121) 128 = .ok (.land, 1) := by decide +kernel
theorem x_121_129 : decode (q_code 121) 129 = .ok (.aload_n 0, 1) := by decide +kernel
theorem x_121_130 : decode (q_code 121) 130 = .ok (.iload 6, 2) := by decide +kernel
theorem x_121_132 : decode (q_code 121) 132 = .ok (.iconst 4, 1) := by decide +kernel
theorem x_121_133 : decode (q_code 121) 133 = .ok (.iadd, 1) := by decide +kernel
theorem x_121_134 : decode (q_code 121) 134 = .ok (.invokestatic 70, 3) := by decide +kernel
theorem x_121_137 : decode (q_code 121) 137 = .ok (.i2l, 1) := by decide +kernel
theorem x_121_138 : decode (q_code 121) 138 = .ok (.bipush 32, 2) := by decide +kernel
theorem x_121_140 : decode (q_code 121) 140 = .ok (.lshl, 1) := by decide +kernel
theorem x_121_141 : decode (q_code 121) 141 = .ok (.lor, 1) := by decide +kernel
theorem x_121_142 : decode (q_code 121) 142 = .ok (.lstore 8, 2) := by decide +kernel
theorem x_121_144 : decode (q_code 121) 144 = .ok (.aload_n 2, 1) := by decide +kernel
theorem x_121_145 : decode (q_code 121) 145 = .ok (.iload_n 3, 1) := by decide +kernel
theorem x_121_146 : decode (q_code 121) 146 = .ok (.baload, 1) := by decide +kernel
theorem x_121_147 : decode (q_code 121) 147 = .ok (.bipush 16, 2) := by decide +kernel
theorem x_121_149 : decode (q_code 121) 149 = .ok (.if_icmp .ne 8, 3) := by decide +kernel
theorem x_121_152 : decode (q_code 121) 152 = .ok (.lload 10, 2) := by decide +kernel
theorem x_121_154 : decode (q_code 121) 154 = .ok (.goto 22, 3) := by decide +kernel
theorem x_121_157 : decode (q_code 121) 157 = .ok (.lload 10, 2) := by decide +kernel
theorem x_121_159 : decode (q_code 121) 159 = .ok (.ldc2_w 73, 3) := by decide +kernel
theorem x_121_162 : decode (q_code 121) 162 = .ok (.land, 1) := by decide +kernel
theorem x_121_163 : decode (q_code 121) 163 = .ok (.aload_n 2, 1) := by decide +kernel
theorem x_121_164 : decode (q_code 121) 164 = .ok (.iload 7, 2) := by decide +kernel
theorem x_121_166 : decode (q_code 121) 166 = .ok (.iconst 4, 1) := by decide +kernel
theorem x_121_167 : decode (q_code 121) 167 = .ok (.iadd, 1) := by decide +kernel
theorem x_121_168 : decode (q_code 121) 168 = .ok (.invokestatic 70, 3) := by decide +kernel
theorem x_121_171 : decode (q_code 121) 171 = .ok (.i2l, 1) := by decide +kernel
theorem x_121_172 : decode (q_code 121) 172 = .ok (.bipush 32, 2) := by decide +kernel
theorem x_121_174 : decode (q_code 121) 174 = .ok (.lshl, 1) := by decide +kernel
theorem x_121_175 : decode (q_code 121) 175 = .ok (.lor, 1) := by decide +kernel
theorem x_121_176 : decode (q_code 121) 176 = .ok (.lstore 10, 2) := by decide +kernel
theorem x_121_178 : decode (q_code 121) 178 = .ok (.lload 8, 2) := by decide +kernel
theorem x_121_180 : decode (q_code 121) 180 = .ok (.lload 10, 2) := by decide +kernel
theorem x_121_182 : decode (q_code 121) 182 = .ok (.invokestatic 78, 3) := by decide +kernel
theorem x_121_185 : decode (q_code 121) 185 = .ok (.ireturn, 1) := by decide +kernel
theorem x_121_186 : decode (q_code 121) 186 = .ok (.aload_n 0, 1) := by decide +kernel
theorem x_121_187 : decode (q_code 121) 187 = .ok (.iload 6, 2) := by decide +kernel
theorem x_121_189 : decode (q_code 121) 189 = .ok (.iconst 4, 1) := by decide +kernel
theorem x_121_190 : decode (q_code 121) 190 = .ok (.iadd, 1) := by decide +kernel
theorem x_121_191 : decode (q_code 121) 191 = .ok (.iload 6, 2) := by decide +kernel
theorem x_121_193 : decode (q_code 121) 193 = .ok (.iconst 3, 1) := by decide +kernel
theorem x_121_194 : decode (q_code 121) 194 = .ok (.iadd, 1) := by decide +kernel
theorem x_121_195 : decode (q_code 121) 195 = .ok (.aload_n 0, 1) := by decide +kernel
theorem x_121_196 : decode (q_code 121) 196 = .ok (.iload 6, 2) := by decide +kernel
theorem x_121_198 : decode (q_code 121) 198 = .ok (.invokestatic 70, 3) := by decide +kernel
theorem x_121_201 : decode (q_code 121) 201 = .ok (.iadd, 1) := by decide +kernel
theorem x_121_202 : decode (q_code 121) 202 = .ok (.aload_n 2, 1) := by decide +kernel
theorem x_121_203 : decode (q_code 121) 203 = .ok (.iload 7, 2) := by decide +kernel
theorem x_121_205 : decode (q_code 121) 205 = .ok (.iconst 4, 1) := by decide +kernel
theorem x_121_206 : decode (q_code 121) 206 = .ok (.iadd, 1) := by decide +kernel
theorem x_121_207 : decode (q_code 121) 207 = .ok (.iload 7, 2) := by decide +kernel
theorem x_121_209 : decode (q_code 121) 209 = .ok (.iconst 3, 1) := by decide +kernel
theorem x_121_210 : decode (q_code 121) 210 = .ok (.iadd, 1) := by decide +kernel
theorem x_121_211 : decode (q_code 121) 211 = .ok (.aload_n 2, 1) := by decide +kernel
theorem x_121_212 : decode (q_code 121) 212 = .ok (.iload 7, 2) := by decide +kernel
theorem x_121_214 : decode (q_code 121) 214 = .ok (.invokestatic 70, 3) := by decide +kernel
theorem x_121_217 : decode (q_code 121) 217 = .ok (.iadd, 1) := by decide +kernel
theorem x_121_218 : decode (q_code 121) 218 = .ok (.invokestatic 56, 3) := by decide +kernel
theorem x_121_221 : decode (q_code 121) 221 = .ok (.ireturn, 1) := by decide +kernel
theorem x_121_222 : decode (q_code 121) 222 = .ok (.aload_n 0, 1) := by decide +kernel
theorem x_121_223 : decode (q_code 121) 223 = .ok (.iload 6, 2) := by decide +kernel
theorem x_121_225 : decode (q_code 121) 225 = .ok (.invokestatic 42, 3) := by decide +kernel
theorem x_121_228 : decode (q_code 121) 228 = .ok (.aload_n 2, 1) := by decide +kernel
theorem x_121_229 : decode (q_code 121) 229 = .ok (.iload 7, 2) := by decide +kernel
theorem x_121_231 : decode (q_code 121) 231 = .ok (.invokestatic 42, 3) := by decide +kernel
theorem x_121_234 : decode (q_code 121) 234 = .ok (.invokestatic 84, 3) := by decide +kernel
theorem x_121_237 : decode (q_code 121) 237 = .ok (.ireturn, 1) := by decide +kernel
theorem x_121_238 : decode (q_code 121) 238 = .ok (.iload 4, 2) := by decide +kernel
theorem x_121_240 : decode (q_code 121) 240 = .ok (.bipush 60, 2) := by decide +kernel
theorem x_121_242 : decode (q_code 121) 242 = .ok (.if_icmp .le 7, 3) := by decide +kernel
theorem x_121_245 : decode (q_code 121) 245 = .ok (.iconst 0, 1) := by decide +kernel
theorem x_121_246 : decode (q_code 121) 246 = .ok (.goto 14, 3) := by decide +kernel
theorem x_121_249 : decode (q_code 121) 249 = .ok (.aload_n 0, 1) := by decide +kernel
theorem x_121_250 : decode (q_code 121) 250 = .ok (.iload_n 1, 1) := by decide +kernel
theorem x_121_251 : decode (q_code 121) 251 = .ok (.aload_n 2, 1) := by decide +kernel
theorem x_121_252 : decode (q_code 121) 252 = .ok (.iload_n 3, 1) := by decide +kernel
theorem x_121_253 : decode (q_code 121) 253 = .ok (.iload 4, 2) := by decide +kernel
theorem x_121_255 : decode (q_code 121) 255 = .ok (.iconst 1, 1) := by decide +kernel
theorem x_121_256 : decode (q_code 121) 256 = .ok (.iadd, 1) := by decide +kernel
theorem x_121_257 : decode (q_code 121) 257 = .ok (.invokestatic 89, 3) := by decide +kernel
theorem x_121_260 : decode (q_code 121) 260 = .ok (.ireturn, 1) := by decide +kernel
theorem x_122_0 : decode (q_code 122) 0 = .ok (.aload_n 0, 1) := by decide +kernel
theorem x_122_1 : decode (q_code 122) 1 = .ok (.iload_n 1, 1) := by decide +kernel
theorem x_122_2 : decode (q_code 122) 2 = .ok (.baload, 1) := by decide +kernel
theorem x_122_3 : decode (q_code 122) 3 = .ok (.iconst 4, 1) := by decide +kernel
theorem x_122_4 : decode (q_code 122) 4 = .ok (.if_icmp .ne 7, 3) := by decide +kernel
theorem x_122_7 : decode (q_code 122) 7 = .ok (.iconst 1, 1) := by decide +kernel
theorem x_122_8 : decode (q_code 122) 8 = .ok (.goto 4, 3) := by decide +kernel
theorem x_122_11 : decode (q_code 122) 11 = .ok (.iconst 0, 1) := by decide +kernel
theorem x_122_12 : decode (q_code 122) 12 = .ok (.istore 5, 2) := by decide +kernel
theorem x_122_14 : decode (q_code 122) 14 = .ok (.aload_n 0, 1) := by decide +kernel
theorem x_122_15 : decode (q_code 122) 15 = .ok (.iload_n 1, 1) := by decide +kernel
theorem x_122_16 : decode (q_code 122) 16 = .ok (.invokestatic 53, 3) := by decide +kernel
theorem x_122_19 : decode (q_code 122) 19 = .ok (.iconst 4, 1) := by decide +kernel
theorem x_122_20 : decode (q_code 122) 20 = .ok (.iadd, 1) := by decide +kernel
theorem x_122_21 : decode (q_code 122) 21 = .ok (.istore 6, 2) := by decide +kernel
theorem x_122_23 : decode (q_code 122) 23 = .ok (.aload_n 2, 1) := by decide +kernel
theorem x_122_24 : decode (q_code 122) 24 = .ok (.iload_n 3, 1) := by decide +kernel
theorem x_122_25 : decode (q_code 122) 25 = .ok (.invokestatic 53, 3) := by decide +kernel
theorem x_122_28 : decode (q_code 122) 28 = .ok (.iconst 4, 1) := by decide +kernel
theorem x_122_29 : decode (q_code 122) 29 = .ok (.iadd, 1) := by decide +kernel
theorem x_122_30 : decode (q_code 122) 30 = .ok (.istore 7, 2) := by decide +kernel
theorem x_122_32 : decode (q_code 122) 32 = .ok (.iconst 0, 1) := by decide +kernel
theorem x_122_33 : decode (q_code 122) 33 = .ok (.istore 8, 2) := by decide +kernel
theorem x_122_35 : decode (q_code 122) 35 = .ok (.iload 8, 2) := by decide +kernel
theorem x_122_37 : decode (q_code 122) 37 = .ok (.ldc 49, 2) := by decide +kernel
theorem x_122_39 : decode (q_code 122) 39 = .ok (.if_icmp .ge 179, 3) := by decide +kernel
theorem x_122_42 : decode (q_code 122) 42 = .ok (.aload_n 0, 1) := by decide +kernel
theorem x_122_43 : decode (q_code 122) 43 = .ok (.iload 6, 2) := by decide +kernel
theorem x_122_45 : decode (q_code 122) 45 = .ok (.invokestatic 75, 3) := by decide +kernel
theorem x_122_48 : decode (q_code 122) 48 = .ok (.istore 9, 2) := by decide +kernel
theorem x_122_50 : decode (q_code 122) 50 = .ok (.aload_n 2, 1) := by decide +kernel
theorem x_122_51 : decode (q_code 122) 51 = .ok (.iload 7, 2) := by decide +kernel
theorem x_122_53 : decode (q_code 122) 53 = .ok (.invokestatic 75, 3) := by decide +kernel
theorem x_122_56 : decode (q_code 122) 56 = .ok (.istore 10, 2) := by decide +kernel
theorem x_122_58 : decode (q_code 122) 58 = .ok (.aload_n 0, 1) := by decide +kernel
theorem x_122_59 : decode (q_code 122) 59 = .ok (.iload 6, 2) := by decide +kernel
theorem x_122_61 : decode (q_code 122) 61 = .ok (.invokestatic 42, 3) := by decide +kernel
theorem x_122_64 : decode (q_code 122) 64 = .ok (.ifCond .eq 12, 3) := by decide +kernel
theorem x_122_67 : decode (q_code 122) 67 = .ok (.aload_n 2, 1) := by decide +kernel
theorem x_122_68 : decode (q_code 122) 68 = .ok (.iload 7, 2) := by decide +kernel
theorem x_122_70 : decode (q_code 122) 70 = .ok (.invokestatic 42, 3) := by decide +kernel
theorem x_122_73 : decode (q_code 122) 73 = .ok (.ifCond .ne 37, 3) := by decide +kernel
theorem x_122_76 : decode (q_code 122) 76 = .ok (.aload_n 0, 1) := by decide +kernel
theorem x_122_77 : decode (q_code 122) 77 = .ok (.iload 6, 2) := by decide +kernel
theorem x_122_79 : decode (q_code 122) 79 = .ok (.invokestatic 42, 3) := by decide +kernel
theorem x_122_82 : decode (q_code 122) 82 = .ok (.aload_n 2, 1) := by decide +kernel
theorem x_122_83 : decode (q_code 122) 83 = .ok (.iload 7, 2) := by decide +kernel
theorem x_122_85 : decode (q_code 122) 85 = .ok (.invokestatic 42, 3) := by decide +kernel
theorem x_122_88 : decode (q_code 122) 88 = .ok (.if_icmp .ne 7, 3) := by decide +kernel
theorem x_122_91 : decode (q_code 122) 91 = .ok (.iconst 0, 1) := by decide +kernel
theorem x_122_92 : decode (q_code 122) 92 = .ok (.goto 17, 3) := by decide +kernel
theorem x_122_95 : decode (q_code 122) 95 = .ok (.aload_n 0, 1) := by decide +kernel
theorem x_122_96 : decode (q_code 122) 96 = .ok (.iload 6, 2) := by decide +kernel
theorem x_122_98 : decode (q_code 122) 98 = .ok (.invokestatic 42, 3) := by decide +kernel
theorem x_122_101 : decode (q_code 122) 101 = .ok (.ifCond .ne 7, 3) := by decide +kernel
theorem x_122_104 : decode (q_code 122) 104 = .ok (.iconst (-1), 1) := by decide +kernel
theorem x_122_105 : decode (q_code 122) 105 = .ok (.goto 4, 3) := by decide +kernel
theorem x_122_108 : decode (q_code 122) 108 = .ok (.iconst 1, 1) := by decide +kernel
theorem x_122_109 : decode (q_code 122) 109 = .ok (.ireturn, 1) := by decide +kernel
theorem x_122_110 : decode (q_code 122) 110 = .ok (.iload 9, 2) := by decide +kernel
theorem x_122_112 : decode (q_code 122) 112 = .ok (.iload 10, 2) := by decide +kernel
theorem x_122_114 : decode (q_code 122) 114 = .ok (.if_icmp .eq 16, 3) := by decide +kernel
theorem x_122_117 : decode (q_code 122) 117 = .ok (.iload 9, 2) := by decide +kernel
theorem x_122_119 : decode (q_code 122) 119 = .ok (.iload 10, 2) := by decide +kernel
theorem x_122_121 : decode (q_code 122) 121 = .ok (.if_icmp .ge 7, 3) := by decide +kernel
theorem x_122_124 : decode (q_code 122) 124 = .ok (.iconst (-1), 1) := by decide +kernel
theorem x_122_125 : decode (q_code 122) 125 = .ok (.goto 4, 3) := by decide +kernel
theorem x_122_128 : decode (q_code 122) 128 = .ok (.iconst 1, 1) := by decide +kernel
theorem x_122_129 : decode (q_code 122) 129 = .ok (.ireturn, 1) := by decide +kernel
theorem x_122_130 : decode (q_code 122) 130 = .ok (.iload 5, 2) := by decide +kernel
theorem x_122_132 : decode (q_code 122) 132 = .ok (.ifCond .eq 7, 3) := by decide +kernel
theorem x_122_135 : decode (q_code 122) 135 = .ok (.iconst 0, 1) := by decide +kernel
theorem x_122_136 : decode (q_code 122) 136 = .ok (.goto 32, 3) := by decide +kernel
theorem x_122_139 : decode (q_code 122) 139 = .ok (.aload_n 0, 1) := by decide +kernel
theorem x_122_140 : decode (q_code 122) 140 = .ok (.iload 6, 2) := by decide +kernel
theorem x_122_142 : decode (q_code 122) 142 = .ok (.iconst 1, 1) := by decide +kernel
theorem x_122_143 : decode (q_code 122) 143 = .ok (.iadd, 1) := by decide +kernel
theorem x_122_144 : decode (q_code 122) 144 = .ok (.aload_n 0, 1) := by decide +kernel
theorem x_122_145 : decode (q_code 122) 145 = .ok (.iload 6, 2) := by decide +kernel
theorem x_122_147 : decode (q_code 122) 147 = .ok (.invokestatic 53, 3) := by decide +kernel
theorem x_122_150 : decode (q_code 122) 150 = .ok (.iconst 1, 1) := by decide +kernel
theorem x_122_151 : decode (q_code 122) 151 = .ok (.isub, 1) := by decide +kernel
theorem x_122_152 : decode (q_code 122) 152 = .ok (.aload_n 2, 1) := by decide +kernel
theorem x_122_153 : decode (q_code 122) 153 = .ok (.iload 7, 2) := by decide +kernel
theorem x_122_155 : decode (q_code 122) 155 = .ok (.iconst 1, 1) := by decide +kernel
theorem x_122_156 : decode (q_code 122) 156 = .ok (.iadd, 1) := by decide +kernel
theorem x_122_157 : decode (q_code 122) 157 = .ok (.aload_n 2, 1) := by decide +kernel
theorem x_122_158 : decode (q_code 122) 158 = .ok (.iload 7, 2) := by decide +kernel
theorem x_122_160 : decode (q_code 122) 160 = .ok (.invokestatic 53, 3) := by decide +kernel
theorem x_122_163 : decode (q_code 122) 163 = .ok (.iconst 1, 1) := by decide +kernel
theorem x_122_164 : decode (q_code 122) 164 = .ok (.isub, 1) := by decide +kernel
theorem x_122_165 : decode (q_code 122) 165 = .ok (.invokestatic 56, 3) := by decide +kernel
theorem x_122_168 : decode (q_code 122) 168 = .ok (.istore 11, 2) := by decide +kernel
theorem x_122_170 : decode (q_code 122) 170 = .ok (.iload 11, 2) := by decide +kernel
theorem x_122_172 : decode (q_code 122) 172 = .ok (.ifCond .ne 16, 3) := by decide +kernel
theorem x_122_175 : decode (q_code 122) 175 = .ok (.aload_n 0, 1) := by decide +kernel
theorem x_122_176 : decode (q_code 122) 176 = .ok (.iload 6, 2) := by decide +kernel
theorem x_122_178 : decode (q_code 122) 178 = .ok (.aload_n 2, 1) := by decide +kernel
theorem x_122_179 : decode (q_code 122) 179 = .ok (.iload 7, 2) := by decide +kernel
theorem x_122_181 : decode (q_code 122) 181 = .ok (.iload 4, 2) := by decide +kernel
theorem x_122_183 : decode (q_code 122) 183 = .ok (.invokestatic 93, 3) := by decide +kernel
theorem x_122_186 : decode (q_code 122) 186 = .ok (.istore 11, 2) := by decide +kernel
theorem x_122_188 : decode (q_code 122) 188 = .ok (.iload 11, 2) := by decide +kernel
theorem x_122_190 : decode (q_code 122) 190 = .ok (.ifCond .eq 6, 3) := by decide +kernel
theorem x_122_193 : decode (q_code 122) 193 = .ok (.iload 11, 2) := by decide +kernel
theorem x_122_195 : decode (q_code 122) 195 = .ok (.ireturn, 1) := by decide +kernel
theorem x_122_196 : decode (q_code 122) 196 = .ok (.aload_n 0, 1) := by decide +kernel
theorem x_122_197 : decode (q_code 122) 197 = .ok (.iload 6, 2) := by decide +kernel
theorem x_122_199 : decode (q_code 122) 199 = .ok (.invokestatic 50, 3) := by decide +kernel
theorem x_122_202 : decode (q_code 122) 202 = .ok (.istore 6, 2) := by decide +kernel
theorem x_122_204 : decode (q_code 122) 204 = .ok (.aload_n 2, 1) := by decide +kernel
theorem x_122_205 : decode (q_code 122) 205 = .ok (.iload 7, 2) := by decide +kernel
theorem x_122_207 : decode (q_code 122) 207 = .ok (.invokestatic 50, 3) := by decide +kernel
theorem x_122_210 : decode (q_code 122) 210 = .ok (.istore 7, 2) := by decide +kernel
theorem x_122_212 : decode (q_code 122) 212 = .ok (.iinc 8 1, 3) := by decide +kernel
theorem x_122_215 : decode (q_code 122) 215 = .ok (.goto (-180), 3) := by decide +kernel
theorem x_122_218 : decode (q_code 122) 218 = .ok (.iconst 0, 1) := by decide +kernel
theorem x_122_219 : decode (q_code 122) 219 = .ok (.ireturn, 1) := by decide +kernel
theorem x_123_0 : decode (q_code 123) 0 = .ok (.iload_n 1, 1) := by decide +kernel
theorem x_123_1 : decode (q_code 123) 1 = .ok (.ifCond .lt 21, 3) := by decide +kernel
theorem x_123_4 : decode (q_code 123) 4 = .ok (.iload_n 2, 1) := by decide +kernel
theorem x_123_5 : decode (q_code 123) 5 = .ok (.aload_n 0, 1) := by decide +kernel
theorem x_123_6 : decode (q_code 123) 6 = .ok (.arraylength, 1) := by decide +kernel
theorem x_123_7 : decode (q_code 123) 7 = .ok (.if_icmp .gt 15, 3) := by decide +kernel
theorem x_123_10 : decode (q_code 123) 10 = .ok (.iload 4, 2) := by decide +kernel
theorem x_123_12 : decode (q_code 123) 12 = .ok (.ifCond .lt 10, 3) := by decide +kernel
theorem x_123_15 : decode (q_code 123) 15 = .ok (.iload 5, 2) := by decide +kernel
theorem x_123_17 : decode (q_code 123) 17 = .ok (.aload_n 3, 1) := by decide +kernel
theorem x_123_18 : decode (q_code 123) 18 = .ok (.arraylength, 1) := by decide +kernel
theorem x_123_19 : decode (q_code 123) 19 = .ok (.if_icmp .le 5, 3) := by decide +kernel
theorem x_123_22 : decode (q_code 123) 22 = .ok (.iconst 0, 1) := by decide +kernel
theorem x_123_23 : decode (q_code 123) 23 = .ok (.ireturn, 1) := by decide +kernel
theorem x_123_24 : decode (q_code 123) 24 = .ok (.iload_n 2, 1) := by decide +kernel
theorem x_123_25 : decode (q_code 123) 25 = .ok (.iload_n 1, 1) := by decide +kernel
theorem x_123_26 : decode (q_code 123) 26 = .ok (.isub, 1) := by decide +kernel
theorem x_123_27 : decode (q_code 123) 27 = .ok (.iload 5, 2) := by decide +kernel
theorem x_123_29 : decode (q_code 123) 29 = .ok (.iload 4, 2) := by decide +kernel
theorem x_123_31 : decode (q_code 123) 31 = .ok (.isub, 1) := by decide +kernel
theorem x_123_32 : decode (q_code 123) 32 = .ok (.invokestatic 95, 3) := by decide +kernel
theorem x_123_35 : decode (q_code 123) 35 = .ok (.istore 6, 2) := by decide +kernel
theorem x_123_37 : decode (q_code 123) 37 = .ok (.iconst 0, 1) := by decide +kernel
theorem x_123_38 : decode (q_code 123) 38 = .ok (.istore 7, 2) := by decide +kernel
theorem x_123_40 : decode (q_code 123) 40 = .ok (.iload 7, 2) := by decide +kernel
theorem x_123_42 : decode (q_code 123) 42 = .ok (.iload 6, 2) := by decide +kernel
theorem x_123_44 : decode (q_code 123) 44 = .ok (.if_icmp .ge 54, 3) := by decide +kernel
theorem x_123_47 : decode (q_code 123) 47 = .ok (.aload_n 0, 1) := by decide +kernel
theorem x_123_48 : decode (q_code 123) 48 = .ok (.iload_n 1, 1) := by decide +kernel
theorem x_123_49 : decode (q_code 123) 49 = .ok (.iload 7, 2) := by decide +kernel
theorem x_123_51 : decode (q_code 123) 51 = .ok (.iadd, 1) := by decide +kernel
theorem x_123_52 : decode (q_code 123) 52 = .ok (.baload, 1) := by decide +kernel
theorem x_123_53 : decode (q_code 123) 53 = .ok (.sipush 255, 3) := by decide +kernel
theorem x_123_56 : decode (q_code 123) 56 = .ok (.iand, 1) := by decide +kernel
theorem x_123_57 : decode (q_code 123) 57 = .ok (.istore 8, 2) := by decide +kernel
theorem x_123_59 : decode (q_code 123) 59 = .ok (.aload_n 3, 1) := by decide +kernel
theorem x_123_60 : decode (q_code 123) 60 = .ok (.iload 4, 2) := by decide +kernel
theorem x_123_62 : decode (q_code 123) 62 = .ok (.iload 7, 2) := by decide +kernel
theorem x_123_64 : decode (q_code 123) 64 = .ok (.iadd, 1) := by decide +kernel
theorem x_123_65 : decode (q_code 123) 65 = .ok (.baload, 1) := by decide +kernel
theorem x_123_66 : decode (q_code 123) 66 = .ok (.sipush 255, 3) := by decide +kernel
theorem x_123_69 : decode (q_code 123) 69 = .ok (.iand, 1) := by decide +kernel
theorem x_123_70 : decode (q_code 123) 70 = .ok (.istore 9, 2) := by decide +kernel
theorem x_123_72 : decode (q_code 123) 72 = .ok (.iload 8, 2) := by decide +kernel
theorem x_123_74 : decode (q_code 123) 74 = .ok (.iload 9, 2) := by decide +kernel
theorem x_123_76 : decode (q_code 123) 76 = .ok (.if_icmp .eq 16, 3) := by decide +kernel
theorem x_123_79 : decode (q_code 123) 79 = .ok (.iload 8, 2) := by decide +kernel
theorem x_123_81 : decode (q_code 123) 81 = .ok (.iload 9, 2) := by decide +kernel
theorem x_123_83 : decode (q_code 123) 83 = .ok (.if_icmp .ge 7, 3) := by decide +kernel
theorem x_123_86 : decode (q_code 123) 86 = .ok (.iconst (-1), 1) := by decide +kernel
theorem x_123_87 : decode (q_code 123) 87 = .ok (.goto 4, 3) := by decide +kernel
theorem x_123_90 : decode (q_code 123) 90 = .ok (.iconst 1, 1) := by decide +kernel
theorem x_123_91 : decode (q_code 123) 91 = .ok (.ireturn, 1) := by decide +kernel
theorem x_123_92 : decode (q_code 123) 92 = .ok (.iinc 7 1, 3) := by decide +kernel
theorem x_123_95 : decode (q_code 123) 95 = .ok (.goto (-55), 3) := by decide +kernel
theorem x_123_98 : decode (q_code 123) 98 = .ok (.iload_n 2, 1) := by decide +kernel
theorem x_123_99 : decode (q_code 123) 99 = .ok (.iload_n 1, 1) := by decide +kernel
theorem x_123_100 : decode (q_code 123) 100 = .ok (.isub, 1) := by decide +kernel
theorem x_123_101 : decode (q_code 123) 101 = .ok (.iload 5, 2) := by decide +kernel
theorem x_123_103 : decode (q_code 123) 103 = .ok (.iload 4, 2) := by decide +kernel
theorem x_123_105 : decode (q_code 123) 105 = .ok (.isub, 1) := by decide +kernel
theorem x_123_106 : decode (q_code 123) 106 = .ok (.invokestatic 84, 3) := by decide +kernel
theorem x_123_109 : decode (q_code 123) 109 = .ok (.ireturn, 1) := by decide +kernel
theorem x_124_0 : decode (q_code 124) 0 = .ok (.iload_n 2, 1) := by decide +kernel
theorem x_124_1 : decode (q_code 124) 1 = .ok (.istore_n 3, 1) := by decide +kernel
theorem x_124_2 : decode (q_code 124) 2 = .ok (.iload_n 2, 1) := by decide +kernel
theorem x_124_3 : decode (q_code 124) 3 = .ok (.bipush 60, 2) := by decide +kernel
theorem x_124_5 : decode (q_code 124) 5 = .ok (.if_icmp .le 5, 3) := by decide +kernel
theorem x_124_8 : decode (q_code 124) 8 = .ok (.iload_n 2, 1) := by decide +kernel
theorem x_124_9 : decode (q_code 124) 9 = .ok (.ireturn, 1) := by decide +kernel
theorem x_124_10 : decode (q_code 124) 10 = .ok (.aload_n 0, 1) := by decide +kernel
theorem x_124_11 : decode (q_code 124) 11 = .ok (.iload_n 1, 1) := by decide +kernel
theorem x_124_12 : decode (q_code 124) 12 = .ok (.invokestatic 46, 3) := by decide +kernel
theorem x_124_15 : decode (q_code 124) 15 = .ok (.istore 4, 2) := by decide +kernel
theorem x_124_17 : decode (q_code 124) 17 = .ok (.iconst 0, 1) := by decide +kernel
theorem x_124_18 : decode (q_code 124) 18 = .ok (.istore 5, 2) := by decide +kernel
theorem x_124_20 : decode (q_code 124) 20 = .ok (.iload 5, 2) := by decide +kernel
theorem x_124_22 : decode (q_code 124) 22 = .ok (.ldc 49, 2) := by decide +kernel
theorem x_124_24 : decode (q_code 124) 24 = .ok (.if_icmp .ge 56, 3) := by decide +kernel
theorem x_124_27 : decode (q_code 124) 27 = .ok (.aload_n 0, 1) := by decide +kernel
theorem x_124_28 : decode (q_code 124) 28 = .ok (.iload 4, 2) := by decide +kernel
theorem x_124_30 : decode (q_code 124) 30 = .ok (.invokestatic 42, 3) := by decide +kernel
theorem x_124_33 : decode (q_code 124) 33 = .ok (.ifCond .eq 47, 3) := by decide +kernel
theorem x_124_36 : decode (q_code 124) 36 = .ok (.aload_n 0, 1) := by decide +kernel
theorem x_124_37 : decode (q_code 124) 37 = .ok (.iload 4, 2) := by decide +kernel
theorem x_124_39 : decode (q_code 124) 39 = .ok (.baload, 1) := by decide +kernel
theorem x_124_40 : decode (q_code 124) 40 = .ok (.iconst 3, 1) := by decide +kernel
theorem x_124_41 : decode (q_code 124) 41 = .ok (.if_icmp .eq 11, 3) := by decide +kernel
theorem x_124_44 : decode (q_code 124) 44 = .ok (.aload_n 0, 1) := by decide +kernel
theorem x_124_45 : decode (q_code 124) 45 = .ok (.iload 4, 2) := by decide +kernel
theorem x_124_47 : decode (q_code 124) 47 = .ok (.baload, 1) := by decide +kernel
theorem x_124_48 : decode (q_code 124) 48 = .ok (.iconst 4, 1) := by decide +kernel
theorem x_124_49 : decode (q_code 124) 49 = .ok (.if_icmp .ne 17, 3) := by decide +kernel
theorem x_124_52 : decode (q_code 124) 52 = .ok (.iload_n 3, 1) := by decide +kernel
theorem x_124_53 : decode (q_code 124) 53 = .ok (.aload_n 0, 1) := by decide +kernel
theorem x_124_54 : decode (q_code 124) 54 = .ok (.iload 4, 2) := by decide +kernel
theorem x_124_56 : decode (q_code 124) 56 = .ok (.iload_n 2, 1) := by decide +kernel
theorem x_124_57 : decode (q_code 124) 57 = .ok (.iconst 1, 1) := by decide +kernel
theorem x_124_58 : decode (q_code 124) 58 = .ok (.iadd, 1) := by decide +kernel
theorem x_124_59 : decode (q_code 124) 59 = .ok (.invokestatic 100, 3) := by decide +kernel
theorem x_124_62 : decode (q_code 124) 62 = .ok (.invokestatic 104, 3) := by decide +kernel
theorem x_124_65 : decode (q_code 124) 65 = .ok (.istore_n 3, 1) := by decide +kernel
theorem x_124_66 : decode (q_code 124) 66 = .ok (.aload_n 0, 1) := by decide +kernel
theorem x_124_67 : decode (q_code 124) 67 = .ok (.iload 4, 2) := by decide +kernel
theorem x_124_69 : decode (q_code 124) 69 = .ok (.invokestatic 50, 3) := by decide +kernel
theorem x_124_72 : decode (q_code 124) 72 = .ok (.istore 4, 2) := by decide +kernel
theorem x_124_74 : decode (q_code 124) 74 = .ok (.iinc 5 1, 3) := by decide +kernel
theorem x_124_77 : decode (q_code 124) 77 = .ok (.goto (-57), 3) := by decide +kernel
theorem x_124_80 : decode (q_code 124) 80 = .ok (.iload_n 3, 1) := by decide +kernel
theorem x_124_81 : decode (q_code 124) 81 = .ok (.ireturn, 1) := by decide +kernel
theorem x_125_0 : decode (q_code 125) 0 = .ok (.iload_n 3, 1) := by decide +kernel
theorem x_125_1 : decode (q_code 125) 1 = .ok (.istore 4, 2) := by decide +kernel
theorem x_125_3 : decode (q_code 125) 3 = .ok (.iload_n 2, 1) := by decide +kernel
theorem x_125_4 : decode (q_code 125) 4 = .ok (.iconst 1, 1) := by decide +kernel
theorem x_125_5 : decode (q_code 125) 5 = .ok (.isub, 1) := by decide +kernel
theorem x_125_6 : decode (q_code 125) 6 = .ok (.istore 5, 2) := by decide +kernel
theorem x_125_8 : decode (q_code 125) 8 = .ok (.iload 5, 2) := by decide +kernel
theorem x_125_10 : decode (q_code 125) 10 = .ok (.iload_n 1, 1) := by decide +kernel
theorem x_125_11 : decode (q_code 125) 11 = .ok (.if_icmp .lt 62, 3) := by decide +kernel
theorem x_125_14 : decode (q_code 125) 14 = .ok (.iload 5, 2) := by decide +kernel
theorem x_125_16 : decode (q_code 125) 16 = .ok (.ifCond .lt 57, 3) := by decide +kernel
theorem x_125_19 : decode (q_code 125) 19 = .ok (.iload 5, 2) := by decide +kernel
theorem x_125_21 : decode (q_code 125) 21 = .ok (.aload_n 0, 1) := by decide +kernel
theorem x_125_22 : decode (q_code 125) 22 = .ok (.arraylength, 1) := by decide +kernel
theorem x_125_23 : decode (q_code 125) 23 = .ok (.if_icmp .ge 50, 3) := by decide +kernel
theorem x_125_26 : decode (q_code 125) 26 = .ok (.aload_n 0, 1) := by decide +kernel
theorem x_125_27 : decode (q_code 125) 27 = .ok (.iload 5, 2) := by decide +kernel
theorem x_125_29 : decode (q_code 125) 29 = .ok (.baload, 1) := by decide +kernel
theorem x_125_30 : decode (q_code 125) 30 = .ok (.bipush 48, 2) := by decide +kernel
theorem x_125_32 : decode (q_code 125) 32 = .ok (.iload 4, 2) := by decide +kernel
theorem x_125_34 : decode (q_code 125) 34 = .ok (.bipush 10, 2) := by decide +kernel
theorem x_125_36 : decode (q_code 125) 36 = .ok (.irem, 1) := by decide +kernel
theorem x_125_37 : decode (q_code 125) 37 = .ok (.iadd, 1) := by decide +kernel
theorem x_125_38 : decode (q_code 125) 38 = .ok (.if_icmp .eq 5, 3) := by decide +kernel
theorem x_125_41 : decode (q_code 125) 41 = .ok (.iconst 0, 1) := by decide +kernel
theorem x_125_42 : decode (q_code 125) 42 = .ok (.ireturn, 1) := by decide +kernel
theorem x_125_43 : decode (q_code 125) 43 = .ok (.iload 4, 2) := by decide +kernel
theorem x_125_45 : decode (q_code 125) 45 = .ok (.bipush 10, 2) := by decide +kernel
theorem x_125_47 : decode (q_code 125) 47 = .ok (.idiv, 1) := by decide +kernel
theorem x_125_48 : decode (q_code 125) 48 = .ok (.istore 4, 2) := by decide +kernel
theorem x_125_50 : decode (q_code 125) 50 = .ok (.iload 4, 2) := by decide +kernel
theorem x_125_52 : decode (q_code 125) 52 = .ok (.ifCond .ne 15, 3) := by decide +kernel
theorem x_125_55 : decode (q_code 125) 55 = .ok (.iload 5, 2) := by decide +kernel
theorem x_125_57 : decode (q_code 125) 57 = .ok (.iload_n 1, 1) := by decide +kernel
theorem x_125_58 : decode (q_code 125) 58 = .ok (.if_icmp .ne 7, 3) := by decide +kernel
theorem x_125_61 : decode (q_code 125) 61 = .ok (.iconst 1, 1) := by decide +kernel
theorem x_125_62 : decode (q_code 125) 62 = .ok (.goto 4, 3) := by decide +kernel
theorem x_125_65 : decode (q_code 125) 65 = .ok (.iconst 0, 1) := by decide +kernel
theorem x_125_66 : decode (q_code 125) 66 = .ok (.ireturn, 1) := by decide +kernel
theorem x_125_67 : decode (q_code 125) 67 = .ok (.iinc 5 (-1), 3) := by decide +kernel
theorem x_125_70 : decode (q_code 125) 70 = .ok (.goto (-62), 3) := by decide +kernel
theorem x_125_73 : decode (q_code 125) 73 = .ok (.iconst 0, 1) := by decide +kernel
theorem x_125_74 : decode (q_code 125) 74 = .ok (.ireturn, 1) := by decide +kernel
theorem x_126_0 : decode (q_code 126) 0 = .ok (.iload_n 1, 1) := by decide +kernel
theorem x_126_1 : decode (q_code 126) 1 = .ok (.istore_n 3, 1) := by decide +kernel
theorem x_126_2 : decode (q_code 126) 2 = .ok (.iconst 0, 1) := by decide +kernel
theorem x_126_3 : decode (q_code 126) 3 = .ok (.istore 4, 2) := by decide +kernel
theorem x_126_5 : decode (q_code 126) 5 = .ok (.iload 4, 2) := by decide +kernel
theorem x_126_7 : decode (q_code 126) 7 = .ok (.ldc 49, 2) := by decide +kernel
theorem x_126_9 : decode (q_code 126) 9 = .ok (.if_icmp .ge 34, 3) := by decide +kernel
theorem x_126_12 : decode (q_code 126) 12 = .ok (.iload_n 3, 1) := by decide +kernel
theorem x_126_13 : decode (q_code 126) 13 = .ok (.iload_n 2, 1) := by decide +kernel
theorem x_126_14 : decode (q_code 126) 14 = .ok (.if_icmp .ge 29, 3) := by decide +kernel
theorem x_126_17 : decode (q_code 126) 17 = .ok (.aload_n 0, 1) := by decide +kernel
theorem x_126_18 : decode (q_code 126) 18 = .ok (.iload_n 3, 1) := by decide +kernel
theorem x_126_19 : decode (q_code 126) 19 = .ok (.iload_n 2, 1) := by decide +kernel
theorem x_126_20 : decode (q_code 126) 20 = .ok (.invokestatic 107, 3) := by decide +kernel
theorem x_126_23 : decode (q_code 126) 23 = .ok (.istore 5, 2) := by decide +kernel
theorem x_126_25 : decode (q_code 126) 25 = .ok (.iload 5, 2) := by decide +kernel
theorem x_126_27 : decode (q_code 126) 27 = .ok (.ifCond .ne 5, 3) := by decide +kernel
theorem x_126_30 : decode (q_code 126) 30 = .ok (.iload_n 3, 1) := by decide +kernel
theorem x_126_31 : decode (q_code 126) 31 = .ok (.ireturn, 1) := by decide +kernel
theorem x_126_32 : decode (q_code 126) 32 = .ok (.iload_n 3, 1) := by decide +kernel
theorem x_126_33 : decode (q_code 126) 33 = .ok (.iload 5, 2) := by decide +kernel
theorem x_126_35 : decode (q_code 126) 35 = .ok (.iadd, 1) := by decide +kernel
theorem x_126_36 : decode (q_code 126) 36 = .ok (.istore_n 3, 1) := by decide +kernel
theorem x_126_37 : decode (q_code 126) 37 = .ok (.iinc 4 1, 3) := by decide +kernel
theorem x_126_40 : decode (q_code 126) 40 = .ok (.goto (-35), 3) := by decide +kernel
theorem x_126_43 : decode (q_code 126) 43 = .ok (.iconst (-1), 1) := by decide +kernel
theorem x_126_44 : decode (q_code 126) 44 = .ok (.ireturn, 1) := by decide +kernel
theorem x_127_0 : decode (q_code 127) 0 = .ok (.iload_n 1, 1) := by decide +kernel
theorem x_127_1 : decode (q_code 127) 1 = .ok (.ifCond .lt 14, 3) := by decide +kernel
theorem x_127_4 : decode (q_code 127) 4 = .ok (.iload_n 1, 1) := by decide +kernel
theorem x_127_5 : decode (q_code 127) 5 = .ok (.iload_n 2, 1) := by decide +kernel
theorem x_127_6 : decode (q_code 127) 6 = .ok (.if_icmp .ge 9, 3) := by decide +kernel
theorem x_127_9 : decode (q_code 127) 9 = .ok (.iload_n 2, 1) := by decide +kernel
theorem x_127_10 : decode (q_code 127) 10 = .ok (.aload_n 0, 1) := by decide +kernel
theorem x_127_11 : decode (q_code 127) 11 = .ok (.arraylength, 1) := by decide +kernel
theorem x_127_12 : decode (q_code 127) 12 = .ok (.if_icmp .le 5, 3) := by decide +kernel
theorem x_127_15 : decode (q_code 127) 15 = .ok (.iconst 0, 1) := by decide +kernel
theorem x_127_16 : decode (q_code 127) 16 = .ok (.ireturn, 1) := by decide +kernel
theorem x_127_17 : decode (q_code 127) 17 = .ok (.aload_n 0, 1) := by decide +kernel
theorem x_127_18 : decode (q_code 127) 18 = .ok (.iload_n 1, 1) := by decide +kernel
theorem x_127_19 : decode (q_code 127) 19 = .ok (.baload, 1) := by decide +kernel
theorem x_127_20 : decode (q_code 127) 20 = .ok (.sipush 255, 3) := by decide +kernel
theorem x_127_23 : decode (q_code 127) 23 = .ok (.iand, 1) := by decide +kernel
theorem x_127_24 : decode (q_code 127) 24 = .ok (.istore_n 3, 1) := by decide +kernel
theorem x_127_25 : decode (q_code 127) 25 = .ok (.iload_n 3, 1) := by decide +kernel
theorem x_127_26 : decode (q_code 127) 26 = .ok (.sipush 128, 3) := by decide +kernel
theorem x_127_29 : decode (q_code 127) 29 = .ok (.if_icmp .ge 5, 3) := by decide +kernel
theorem x_127_32 : decode (q_code 127) 32 = .ok (.iconst 1, 1) := by decide +kernel
theorem x_127_33 : decode (q_code 127) 33 = .ok (.ireturn, 1) := by decide +kernel
theorem x_127_34 : decode (q_code 127) 34 = .ok (.iload_n 3, 1) := by decide +kernel
theorem x_127_35 : decode (q_code 127) 35 = .ok (.sipush 224, 3) := by decide +kernel
theorem x_127_38 : decode (q_code 127) 38 = .ok (.if_icmp .ge 7, 3) := by decide +kernel
theorem x_127_41 : decode (q_code 127) 41 = .ok (.iconst 2, 1) := by decide +kernel
theorem x_127_42 : decode (q_code 127) 42 = .ok (.goto 15, 3) := by decide +kernel
theorem x_127_45 : decode (q_code 127) 45 = .ok (.iload_n 3, 1) := by decide +kernel
theorem x_127_46 : decode (q_code 127) 46 = .ok (.sipush 240, 3) := by decide +kernel
theorem x_127_49 : decode (q_code 127) 49 = .ok (.if_icmp .ge 7, 3) := by decide +kernel
theorem x_127_52 : decode (q_code 127) 52 = .ok (.iconst 3, 1) := by decide +kernel
theorem x_127_53 : decode (q_code 127) 53 = .ok (.goto 4, 3) := by decide +kernel
theorem x_127_56 : decode (q_code 127) 56 = .ok (.iconst 4, 1) := by decide +kernel
theorem x_127_57 : decode (q_code 127) 57 = .ok (.istore 4, 2) := by decide +kernel
theorem x_127_59 : decode (q_code 127) 59 = .ok (.iload_n 3, 1) := by decide +kernel
theorem x_127_60 : decode (q_code 127) 60 = .ok (.sipush 194, 3) := by decide +kernel
theorem x_127_63 : decode (q_code 127) 63 = .ok (.if_icmp .lt 18, 3) := by decide +kernel
theorem x_127_66 : decode (q_code 127) 66 = .ok (.iload_n 3, 1) := by decide +kernel
theorem x_127_67 : decode (q_code 127) 67 = .ok (.sipush 244, 3) := by decide +kernel
theorem x_127_70 : decode (q_code 127) 70 = .ok (.if_icmp .gt 11, 3) := by decide +kernel
theorem x_127_73 : decode (q_code 127) 73 = .ok (.iload_n 1, 1) := by decide +kernel
theorem x_127_74 : decode (q_code 127) 74 = .ok (.iload 4, 2) := by decide +kernel
theorem x_127_76 : decode (q_code 127) 76 = .ok (.iadd, 1) := by decide +kernel
theorem x_127_77 : decode (q_code 127) 77 = .ok (.iload_n 2, 1) := by decide +kernel
theorem x_127_78 : decode (q_code 127) 78 = .ok (.if_icmp .le 5, 3) := by decide +kernel
theorem x_127_81 : decode (q_code 127) 81 = .ok (.iconst 0, 1) := by decide +kernel
theorem x_127_82 : decode (q_code 127) 82 = .ok (.ireturn, 1) := by decide +kernel
theorem x_127_83 : decode (q_code 127) 83 = .ok (.iconst 1, 1) := by decide +kernel
theorem x_127_84 : decode (q_code 127) 84 = .ok (.istore 5, 2) := by decide +kernel
theorem x_127_86 : decode (q_code 127) 86 = .ok (.iload 5, 2) := by decide +kernel
theorem x_127_88 : decode (q_code 127) 88 = .ok (.iload 4, 2) := by decide +kernel
theorem x_127_90 : decode (q_code 127) 90 = .ok (.if_icmp .ge 27, 3) := by decide +kernel
theorem x_127_93 : decode (q_code 127) 93 = .ok (.aload_n 0, 1) := by decide +kernel
theorem x_127_94 : decode (q_code 127) 94 = .ok (.iload_n 1, 1) := by decide +kernel
theorem x_127_95 : decode (q_code 127) 95 = .ok (.iload 5, 2) := by decide +kernel
theorem x_127_97 : decode (q_code 127) 97 = .ok (.iadd, 1) := by decide +kernel
theorem x_127_98 : decode (q_code 127) 98 = .ok (.baload, 1) := by decide +kernel
theorem x_127_99 : decode (q_code 127) 99 = .ok (.sipush 192, 3) := by decide +kernel
theorem x_127_102 : decode (q_code 127) 102 = .ok (.iand, 1) := by decide +kernel
theorem x_127_103 : decode (q_code 127) 103 = .ok (.sipush 128, 3) := by decide +kernel
theorem x_127_106 : decode (q_code 127) 106 = .ok (.if_icmp .eq 5, 3) := by decide +kernel
theorem x_127_109 : decode (q_code 127) 109 = .ok (.iconst 0, 1) := by decide +kernel
theorem x_127_110 : decode (q_code 127) 110 = .ok (.ireturn, 1) := by decide +kernel
theorem x_127_111 : decode (q_code 127) 111 = .ok (.iinc 5 1, 3) := by decide +kernel
theorem x_127_114 : decode (q_code 127) 114 = .ok (.goto (-28), 3) := by decide +kernel
theorem x_127_117 : decode (q_code 127) 117 = .ok (.aload_n 0, 1) := by decide +kernel
theorem x_127_118 : decode (q_code 127) 118 = .ok (.iload_n 1, 1) := by decide +kernel
theorem x_127_119 : decode (q_code 127) 119 = .ok (.iconst 1, 1) := by decide +kernel
theorem x_127_120 : decode (q_code 127) 120 = .ok (.iadd, 1) := by decide +kernel
theorem x_127_121 : decode (q_code 127) 121 = .ok (.baload, 1) := by decide +kernel
theorem x_127_122 : decode (q_code 127) 122 = .ok (.sipush 255, 3) := by decide +kernel
theorem x_127_125 : decode (q_code 127) 125 = .ok (.iand, 1) := by decide +kernel
theorem x_127_126 : decode (q_code 127) 126 = .ok (.istore 5, 2) := by decide +kernel
theorem x_127_128 : decode (q_code 127) 128 = .ok (.iload_n 3, 1) := by decide +kernel
theorem x_127_129 : decode (q_code 127) 129 = .ok (.sipush 224, 3) := by decide +kernel
theorem x_127_132 : decode (q_code 127) 132 = .ok (.if_icmp .ne 11, 3) := by decide +kernel
theorem x_127_135 : decode (q_code 127) 135 = .ok (.iload 5, 2) := by decide +kernel
theorem x_127_137 : decode (q_code 127) 137 = .ok (.sipush 160, 3) := by decide +kernel
theorem x_127_140 : decode (q_code 127) 140 = .ok (.if_icmp .lt 48, 3) := by decide +kernel
theorem x_127_143 : decode (q_code 127) 143 = .ok (.iload_n 3, 1) := by decide +kernel
theorem x_127_144 : decode (q_code 127) 144 = .ok (.sipush 237, 3) := by decide +kernel
theorem x_127_147 : decode (q_code 127) 147 = .ok (.if_icmp .ne 11, 3) := by decide +kernel
theorem x_127_150 : decode (q_code 127) 150 = .ok (.iload 5, 2) := by decide +kernel
theorem x_127_152 : decode (q_code 127) 152 = .ok (.sipush 159, 3) := by decide +kernel
theorem x_127_155 : decode (q_code 127) 155 = .ok (.if_icmp .gt 33, 3) := by decide +kernel
theorem x_127_158 : decode (q_code 127) 158 = .ok (.iload_n 3, 1) := by decide +kernel
theorem x_127_159 : decode (q_code 127) 159 = .ok (.sipush 240, 3) := by decide +kernel
theorem x_127_162 : decode (q_code 127) 162 = .ok (.if_icmp .ne 11, 3) := by decide +kernel
theorem x_127_165 : decode (q_code 127) 165 = .ok (.iload 5, 2) := by decide +kernel
theorem x_127_167 : decode (q_code 127) 167 = .ok (.sipush 144, 3) := by decide +kernel
theorem x_127_170 : decode (q_code 127) 170 = .ok (.if_icmp .lt 18, 3) := by decide +kernel
theorem x_127_173 : decode (q_code 127) 173 = .ok (.iload_n 3, 1) := by decide +kernel
theorem x_127_174 : decode (q_code 127) 174 = .ok (.sipush 244, 3) := by decide +kernel
theorem x_127_177 : decode (q_code 127) 177 = .ok (.if_icmp .ne 15, 3) := by decide +kernel
theorem x_127_180 : decode (q_code 127) 180 = .ok (.iload 5, 2) := by decide +kernel
theorem x_127_182 : decode (q_code 127) 182 = .ok (.sipush 143, 3) := by decide +kernel
theorem x_127_185 : decode (q_code 127) 185 = .ok (.if_icmp .le 7, 3) := by decide +kernel
theorem x_127_188 : decode (q_code 127) 188 = .ok (.iconst 1, 1) := by decide +kernel
theorem x_127_189 : decode (q_code 127) 189 = .ok (.goto 4, 3) := by decide +kernel
theorem x_127_192 : decode (q_code 127) 192 = .ok (.iconst 0, 1) := by decide +kernel
theorem x_127_193 : decode (q_code 127) 193 = .ok (.istore 6, 2) := by decide +kernel
theorem x_127_195 : decode (q_code 127) 195 = .ok (.iload 6, 2) := by decide +kernel
theorem x_127_197 : decode (q_code 127) 197 = .ok (.ifCond .eq 7, 3) := by decide +kernel
theorem x_127_200 : decode (q_code 127) 200 = .ok (.iconst 0, 1) := by decide +kernel
theorem x_127_201 : decode (q_code 127) 201 = .ok (.goto 5, 3) := by decide +kernel
theorem x_127_204 : decode (q_code 127) 204 = .ok (.iload 4, 2) := by decide +kernel
theorem x_127_206 : decode (q_code 127) 206 = .ok (.ireturn, 1) := by decide +kernel
theorem m_X7_push {d : Nat} {M : g_M} {Q : g_M → Prop} {a0 : Nat} {v1 : Int} (hv1 : g_InR v1) (h : g_ok M → g_O M a0 7 ∧ ∃ b2, g_r M a0 1 = some b2 ∧ ∃ n4, g_A M b2 1 n4 ∧ g_InR n4 ∧ ((g_i M a0 2 < n4 → g_Run d 104 30 [(0, .ref a0), (1, g_n v1)] [] M (g_qV Q)) ∧ (¬ g_i M a0 2 < n4 → ∃ b7, g_r M a0 1 = some b7 ∧ ∃ b9, g_r M a0 1 = some b9 ∧ ∃ n11, g_A M b9 1 n11 ∧ g_InR n11 ∧ g_InR (2 * n11) ∧ g_Call d 439 [.ref b7, g_n (2 * n11)] M (g_qR fun o18 M15 => g_ext M M15 → g_ok M15 → ∃ b19, o18 = some b19 ∧ (∀ M21, M21 = g_wr M15 a0 1 (some b19) → g_ok M21 → g_Run d 104 30 [(0, .ref a0), (1, g_n v1)] [] M21 (g_qV Q)))))) : g_Call (d + 1) 104 [.ref a0, g_n v1] M (g_qV Q) := by
  refine g_Call.ok fun hok0 => ?_
  replace h := h hok0
  refine r_body rfl (lv := [(0, .ref a0), (1, g_n v1)]) rfl ?_
  refine g_Run.ok fun hok => ?_
  refine r_aload_n x_104_0 rfl ?_
  obtain ⟨hO1, h⟩ := h
  refine r_getI x_104_1 rfl (ci := 7) (k := 2) (ns := 0) (by decide +kernel) (by decide) rfl (kz := 2) rfl hO1 ?_
  refine r_aload_n x_104_4 rfl ?_
  obtain ⟨b2, hb3, h⟩ := h
  refine r_getR x_104_5 rfl (ci := 7) (k := 1) (ns := 0) (by decide +kernel) (by decide) rfl (kz := 1) rfl hO1 hb3 ?_
  obtain ⟨n4, hA5, h⟩ := h
  refine r_alen x_104_8 hA5 ?_
  obtain ⟨h6, h⟩ := h
  refine r_ic_lt x_104_9 (t := 30) (by decide +kernel) (hok.1 _ _) h6 (fun hc => ?_) (fun hc => ?_)
  · replace h := h.1 hc
    exact h
  · replace h := h.2 hc
    refine r_aload_n x_104_12 rfl ?_
    refine r_aload_n x_104_13 rfl ?_
    obtain ⟨b7, hb8, h⟩ := h
    refine r_getR x_104_14 rfl (ci := 7) (k := 1) (ns := 0) (by decide +kernel) (by decide) rfl (kz := 1) rfl hO1 hb8 ?_
    refine r_iconst x_104_17 ?_
    refine r_aload_n x_104_18 rfl ?_
    obtain ⟨b9, hb10, h⟩ := h
    refine r_getR x_104_19 rfl (ci := 7) (k := 1) (ns := 0) (by decide +kernel) (by decide) rfl (kz := 1) rfl hO1 hb10 ?_
    obtain ⟨n11, hA12, h⟩ := h
    refine r_alen x_104_22 hA12 ?_
    obtain ⟨h13, h⟩ := h
    refine r_imul x_104_23 ?_
    obtain ⟨h14, h⟩ := h
    refine r_invS x_104_24 (z := 439) (ns := 0) (by decide +kernel) (as := [.ref b7, g_n (2 * n11)]) (r := [.ref a0]) rfl rfl rfl ?_
    refine r_callR h fun o18 M15 hx16 hok17 h => ?_
    replace h := h hx16 hok17
    obtain ⟨b19, hb20, h⟩ := h
    subst hb20
    replace hO1 := hO1.up hx16
    replace hA5 := hA5.up hx16
    replace hA12 := hA12.up hx16
    refine r_putR x_104_27 (o := (some b19)) (ci := 7) (k := 1) (ns := 0) (by decide +kernel) (by decide) (g_fR (by decide +kernel) rfl) rfl (kz := 1) rfl hO1 ?_
    obtain ⟨M21, hM22⟩ : ∃ Mz, Mz = g_wr M15 a0 1 (some b19) := ⟨_, rfl⟩
    rw [← hM22]
    refine g_Run.ok fun hok23 => ?_
    replace h := h M21 hM22 hok23
    have hx24 := g_extR hM22
    replace hO1 := hO1.up hx24
    replace hA5 := hA5.up hx24
    replace hA12 := hA12.up hx24
    exact h
theorem s_X7_push_30 {d : Nat} {M : g_M} {Q : g_M → Prop} {a0 : Nat} {v1 : Int} (hv1 : g_InR v1) (h : g_ok M → g_O M a0 7 ∧ ∃ b2, g_r M a0 1 = some b2 ∧ ∃ n4, g_A M b2 1 n4 ∧ ((0 : Int) ≤ g_i M a0 2 ∧ (g_i M a0 2 : Int) < n4) ∧ (∀ M7, M7 = g_wi M b2 (g_i M a0 2) v1 → g_ok M7 → g_InR ((g_i M7 a0 2) + 1) ∧ (∀ M12, M12 = g_wi M7 a0 2 ((g_i M7 a0 2) + 1) → g_ok M12 → Q M12))) : g_Run d 104 30 [(0, .ref a0), (1, g_n v1)] [] M (g_qV Q) := by
  refine g_Run.ok fun hok => ?_
  replace h := h hok
  refine r_aload_n x_104_30 rfl ?_
  obtain ⟨hO1, h⟩ := h
  obtain ⟨b2, hb3, h⟩ := h
  refine r_getR x_104_31 rfl (ci := 7) (k := 1) (ns := 0) (by decide +kernel) (by decide) rfl (kz := 1) rfl hO1 hb3 ?_
  refine r_aload_n x_104_34 rfl ?_
  refine r_getI x_104_35 rfl (ci := 7) (k := 2) (ns := 0) (by decide +kernel) (by decide) rfl (kz := 2) rfl hO1 ?_
  refine r_iload_n x_104_38 rfl ?_
  obtain ⟨n4, hA5, h⟩ := h
  obtain ⟨h6, h⟩ := h
  refine r_iast x_104_39 hA5 (hok.1 _ _) h6.1 h6.2 hv1 ?_
  obtain ⟨M7, hM8⟩ : ∃ Mz, Mz = g_wi M b2 (g_i M a0 2) v1 := ⟨_, rfl⟩
  rw [← hM8]
  refine g_Run.ok fun hok9 => ?_
  replace h := h M7 hM8 hok9
  have hx10 := g_extW hM8
  replace hO1 := hO1.up hx10
  replace hA5 := hA5.up hx10
  refine r_aload_n x_104_40 rfl ?_
  refine r_dup x_104_41 rfl ?_
  refine r_getI x_104_42 rfl (ci := 7) (k := 2) (ns := 0) (by decide +kernel) (by decide) rfl (kz := 2) rfl hO1 ?_
  refine r_iconst x_104_45 ?_
  refine r_iadd x_104_46 ?_
  obtain ⟨h11, h⟩ := h
  refine r_putI x_104_47 (ci := 7) (k := 2) (ns := 0) (by decide +kernel) (by decide) (g_f0 (by decide +kernel)) rfl h11 trivial (kz := 2) rfl hO1 ?_
  obtain ⟨M12, hM13⟩ : ∃ Mz, Mz = g_wi M7 a0 2 ((g_i M7 a0 2) + 1) := ⟨_, rfl⟩
  rw [← hM13]
  refine g_Run.ok fun hok14 => ?_
  replace h := h M12 hM13 hok14
  have hx15 := g_extW hM13
  replace hO1 := hO1.up hx15
  replace hA5 := hA5.up hx15
  exact r_retV x_104_50 rfl h
theorem m_X7_leaf {d : Nat} {M : g_M} {Q : Int → g_M → Prop} {a0 : Nat} {v1 : Int} (hv1 : g_InR v1) (h : g_ok M → ((v1 < 0 → Q ((-1)) M) ∧ (¬ v1 < 0 → g_O M a0 7 ∧ ((v1 < g_i M a0 2 → ∃ b2, g_r M a0 1 = some b2 ∧ ∃ n4, g_A M b2 1 n4 ∧ g_InR n4 ∧ ((v1 < n4 → ∃ b7, g_r M a0 1 = some b7 ∧ ∃ n9, g_A M b7 1 n9 ∧ ((0 : Int) ≤ v1 ∧ (v1 : Int) < n9) ∧ Q (g_i M b7 v1) M) ∧ (¬ v1 < n4 → Q ((-1)) M))) ∧ (¬ v1 < g_i M a0 2 → Q ((-1)) M))))) : g_Call (d + 1) 105 [.ref a0, g_n v1] M (g_qI Q) := by
  refine g_Call.ok fun hok0 => ?_
  replace h := h hok0
  refine r_body rfl (lv := [(0, .ref a0), (1, g_n v1)]) rfl ?_
  refine g_Run.ok fun hok => ?_
  refine r_iload_n x_105_0 rfl ?_
  refine r_if_lt x_105_1 (t := 30) (by decide +kernel) hv1 (fun hc => ?_) (fun hc => ?_)
  · replace h := h.1 hc
    refine r_iconst x_105_30 ?_
    exact r_retI x_105_31 rfl (g_Rk rfl) h
  · replace h := h.2 hc
    refine r_iload_n x_105_4 rfl ?_
    refine r_aload_n x_105_5 rfl ?_
    obtain ⟨hO1, h⟩ := h
    refine r_getI x_105_6 rfl (ci := 7) (k := 2) (ns := 0) (by decide +kernel) (by decide) rfl (kz := 2) rfl hO1 ?_
    refine r_ic_ge x_105_9 (t := 30) (by decide +kernel) hv1 (hok.1 _ _) (fun hc => ?_) (fun hc => ?_)
    · replace h := h.2 hc
      refine r_iconst x_105_30 ?_
      exact r_retI x_105_31 rfl (g_Rk rfl) h
    · replace h := h.1 hc
      refine r_iload_n x_105_12 rfl ?_
      refine r_aload_n x_105_13 rfl ?_
      obtain ⟨b2, hb3, h⟩ := h
      refine r_getR x_105_14 rfl (ci := 7) (k := 1) (ns := 0) (by decide +kernel) (by decide) rfl (kz := 1) rfl hO1 hb3 ?_
      obtain ⟨n4, hA5, h⟩ := h
      refine r_alen x_105_17 hA5 ?_
      obtain ⟨h6, h⟩ := h
      refine r_ic_ge x_105_18 (t := 30) (by decide +kernel) hv1 h6 (fun hc => ?_) (fun hc => ?_)
      · replace h := h.2 hc
        refine r_iconst x_105_30 ?_
        exact r_retI x_105_31 rfl (g_Rk rfl) h
      · replace h := h.1 hc
        refine r_aload_n x_105_21 rfl ?_
        obtain ⟨b7, hb8, h⟩ := h
        refine r_getR x_105_22 rfl (ci := 7) (k := 1) (ns := 0) (by decide +kernel) (by decide) rfl (kz := 1) rfl hO1 hb8 ?_
        refine r_iload_n x_105_25 rfl ?_
        obtain ⟨n9, hA10, h⟩ := h
        obtain ⟨h11, h⟩ := h
        refine r_iald x_105_26 hA10 hv1 h11.1 h11.2 ?_
        refine r_goto x_105_27 (t := 31) (by decide +kernel) ?_
        exact r_retI x_105_31 rfl (hok.1 _ _) h
theorem m_X7_put {d : Nat} {M : g_M} {Q : g_M → Prop} {a0 : Nat} {v1 : Int} (hv1 : g_InR v1) {v2 : Int} (hv2 : g_InR v2) (h : g_ok M → ((v1 < 0 → Q M) ∧ (¬ v1 < 0 → g_O M a0 7 ∧ ((v1 < g_i M a0 2 → ∃ b2, g_r M a0 1 = some b2 ∧ ∃ n4, g_A M b2 1 n4 ∧ g_InR n4 ∧ ((v1 < n4 → ∃ b7, g_r M a0 1 = some b7 ∧ ∃ n9, g_A M b7 1 n9 ∧ ((0 : Int) ≤ v1 ∧ (v1 : Int) < n9) ∧ (∀ M12, M12 = g_wi M b7 v1 v2 → g_ok M12 → Q M12)) ∧ (¬ v1 < n4 → Q M))) ∧ (¬ v1 < g_i M a0 2 → Q M))))) : g_Call (d + 1) 106 [.ref a0, g_n v1, g_n v2] M (g_qV Q) := by
  refine g_Call.ok fun hok0 => ?_
  replace h := h hok0
  refine r_body rfl (lv := [(0, .ref a0), (1, g_n v1), (2, g_n v2)]) rfl ?_
  refine g_Run.ok fun hok => ?_
  refine r_iload_n x_106_0 rfl ?_
  refine r_if_lt x_106_1 (t := 28) (by decide +kernel) hv1 (fun hc => ?_) (fun hc => ?_)
  · replace h := h.1 hc
    exact r_retV x_106_28 rfl h
  · replace h := h.2 hc
    refine r_iload_n x_106_4 rfl ?_
    refine r_aload_n x_106_5 rfl ?_
    obtain ⟨hO1, h⟩ := h
    refine r_getI x_106_6 rfl (ci := 7) (k := 2) (ns := 0) (by decide +kernel) (by decide) rfl (kz := 2) rfl hO1 ?_
    refine r_ic_ge x_106_9 (t := 28) (by decide +kernel) hv1 (hok.1 _ _) (fun hc => ?_) (fun hc => ?_)
    · replace h := h.2 hc
      exact r_retV x_106_28 rfl h
    · replace h := h.1 hc
      refine r_iload_n x_106_12 rfl ?_
      refine r_aload_n x_106_13 rfl ?_
      obtain ⟨b2, hb3, h⟩ := h
      refine r_getR x_106_14 rfl (ci := 7) (k := 1) (ns := 0) (by decide +kernel) (by decide) rfl (kz := 1) rfl hO1 hb3 ?_
      obtain ⟨n4, hA5, h⟩ := h
      refine r_alen x_106_17 hA5 ?_
      obtain ⟨h6, h⟩ := h
      refine r_ic_ge x_106_18 (t := 28) (by decide +kernel) hv1 h6 (fun hc => ?_) (fun hc => ?_)
      · replace h := h.2 hc
        exact r_retV x_106_28 rfl h
      · replace h := h.1 hc
        refine r_aload_n x_106_21 rfl ?_
        obtain ⟨b7, hb8, h⟩ := h
        refine r_getR x_106_22 rfl (ci := 7) (k := 1) (ns := 0) (by decide +kernel) (by decide) rfl (kz := 1) rfl hO1 hb8 ?_
        refine r_iload_n x_106_25 rfl ?_
        refine r_iload_n x_106_26 rfl ?_
        obtain ⟨n9, hA10, h⟩ := h
        obtain ⟨h11, h⟩ := h
        refine r_iast x_106_27 hA10 hv1 h11.1 h11.2 hv2 ?_
        obtain ⟨M12, hM13⟩ : ∃ Mz, Mz = g_wi M b7 v1 v2 := ⟨_, rfl⟩
        rw [← hM13]
        refine g_Run.ok fun hok14 => ?_
        replace h := h M12 hM13 hok14
        have hx15 := g_extW hM13
        replace hO1 := hO1.up hx15
        replace hA5 := hA5.up hx15
        replace hA10 := hA10.up hx15
        exact r_retV x_106_28 rfl h
theorem m_X7_addItems {d : Nat} {M : g_M} {Q : g_M → Prop} {a0 : Nat} {v1 : Int} (hv1 : g_InR v1) {v2 : Int} (hv2 : g_InR v2) (h : g_ok M → g_O M a0 7 ∧ ((g_i M a0 2 = v1 → g_Call d 104 [.ref a0, g_n v2] M (g_qV fun M2 => g_ext M M2 → g_ok M2 → g_Run d 107 18 [(0, .ref a0), (1, g_n v1), (2, g_n v2), (3, g_n (g_i M a0 2)), (4, g_n v1)] [] M2 (g_qV Q))) ∧ (¬ g_i M a0 2 = v1 → g_Run d 107 18 [(0, .ref a0), (1, g_n v1), (2, g_n v2), (3, g_n (g_i M a0 2)), (4, g_n v1)] [] M (g_qV Q)))) : g_Call (d + 1) 107 [.ref a0, g_n v1, g_n v2] M (g_qV Q) := by
  refine g_Call.ok fun hok0 => ?_
  replace h := h hok0
  refine r_body rfl (lv := [(0, .ref a0), (1, g_n v1), (2, g_n v2)]) rfl ?_
  refine g_Run.ok fun hok => ?_
  refine r_aload_n x_107_0 rfl ?_
  obtain ⟨hO1, h⟩ := h
  refine r_getI x_107_1 rfl (ci := 7) (k := 2) (ns := 0) (by decide +kernel) (by decide) rfl (kz := 2) rfl hO1 ?_
  refine r_istore_n x_107_4 (by decide +kernel) rfl (lv1 := [(0, .ref a0), (1, g_n v1), (2, g_n v2), (3, g_n (g_i M a0 2))]) rfl ?_
  refine r_iload_n x_107_5 rfl ?_
  refine r_iload_n x_107_6 rfl ?_
  refine r_ic_ne x_107_7 (t := 15) (by decide +kernel) (hok.1 _ _) hv1 (fun hc => ?_) (fun hc => ?_)
  · replace h := h.2 hc
    refine r_iload_n x_107_15 rfl ?_
    refine r_istore x_107_16 (by decide +kernel) rfl (lv1 := [(0, .ref a0), (1, g_n v1), (2, g_n v2), (3, g_n (g_i M a0 2)), (4, g_n v1)]) rfl ?_
    exact h
  · replace h := h.1 hc
    refine r_aload_n x_107_10 rfl ?_
    refine r_iload_n x_107_11 rfl ?_
    refine r_invV x_107_12 (z := 104) (ns := 0) (by decide +kernel) (as := [g_n v2]) (r := []) rfl rfl rfl hO1 rfl rfl ?_
    refine r_callV h fun M2 hx3 hok4 h => ?_
    replace h := h hx3 hok4
    replace hO1 := hO1.up hx3
    refine r_iload_n x_107_15 rfl ?_
    refine r_istore x_107_16 (by decide +kernel) rfl (lv1 := [(0, .ref a0), (1, g_n v1), (2, g_n v2), (3, g_n (g_i M a0 2)), (4, g_n v1)]) rfl ?_
    exact h
theorem s_X7_addItems_18 {d : Nat} {M : g_M} {Q : g_M → Prop} {a0 : Nat} {v1 : Int} (hv1 : g_InR v1) {v2 : Int} (hv2 : g_InR v2) {v3 : Int} (hv3 : g_InR v3) {v4 : Int} (hv4 : g_InR v4) (h : g_ok M → ((v4 < v3 → g_O M a0 7 ∧ g_Call d 105 [.ref a0, g_n v4] M (g_qI fun r5 M2 => g_ext M M2 → g_ok M2 → g_InR r5 → ((r5 < 0 → g_Call d 106 [.ref a0, g_n v4, g_n v2] M2 (g_qV fun M7 => g_ext M2 M7 → g_ok M7 → g_Run d 107 44 [(0, .ref a0), (1, g_n v1), (2, g_n v2), (3, g_n v3), (4, g_n v4), (5, g_n r5)] [] M7 (g_qV Q))) ∧ (¬ r5 < 0 → g_Run d 107 44 [(0, .ref a0), (1, g_n v1), (2, g_n v2), (3, g_n v3), (4, g_n v4), (5, g_n r5)] [] M2 (g_qV Q))))) ∧ (¬ v4 < v3 → Q M))) : g_Run d 107 18 [(0, .ref a0), (1, g_n v1), (2, g_n v2), (3, g_n v3), (4, g_n v4)] [] M (g_qV Q) := by
  refine g_Run.ok fun hok => ?_
  replace h := h hok
  refine r_iload x_107_18 rfl ?_
  refine r_iload_n x_107_20 rfl ?_
  refine r_ic_ge x_107_21 (t := 122) (by decide +kernel) hv4 hv3 (fun hc => ?_) (fun hc => ?_)
  · replace h := h.2 hc
    exact r_retV x_107_122 rfl h
  · replace h := h.1 hc
    refine r_aload_n x_107_24 rfl ?_
    refine r_iload x_107_25 rfl ?_
    obtain ⟨hO1, h⟩ := h
    refine r_invV x_107_27 (z := 105) (ns := 0) (by decide +kernel) (as := [g_n v4]) (r := []) rfl rfl rfl hO1 rfl rfl ?_
    refine r_callI h fun r5 M2 hx3 hok4 hr6 h => ?_
    replace h := h hx3 hok4 hr6
    replace hO1 := hO1.up hx3
    refine r_istore x_107_30 (by decide +kernel) rfl (lv1 := [(0, .ref a0), (1, g_n v1), (2, g_n v2), (3, g_n v3), (4, g_n v4), (5, g_n r5)]) rfl ?_
    refine r_iload x_107_32 rfl ?_
    refine r_if_ge x_107_34 (t := 44) (by decide +kernel) hr6 (fun hc => ?_) (fun hc => ?_)
    · replace h := h.2 hc
      exact h
    · replace h := h.1 hc
      refine r_aload_n x_107_37 rfl ?_
      refine r_iload x_107_38 rfl ?_
      refine r_iload_n x_107_40 rfl ?_
      refine r_invV x_107_41 (z := 106) (ns := 0) (by decide +kernel) (as := [g_n v4, g_n v2]) (r := []) rfl rfl rfl hO1 rfl rfl ?_
      refine r_callV h fun M7 hx8 hok9 h => ?_
      replace h := h hx8 hok9
      replace hO1 := hO1.up hx8
      exact h
theorem s_X7_addItems_44 {d : Nat} {M : g_M} {Q : g_M → Prop} {a0 : Nat} {v1 : Int} (hv1 : g_InR v1) {v2 : Int} (hv2 : g_InR v2) {v3 : Int} (hv3 : g_InR v3) {v4 : Int} (hv4 : g_InR v4) {v5 : Int} (hv5 : g_InR v5) (h : g_ok M → g_O M a0 7 ∧ ∃ b2, g_r M a0 0 = some b2 ∧ g_Call d 108 [.ref b2, g_n v5] M (g_qI fun r7 M4 => g_ext M M4 → g_ok M4 → g_InR r7 → ((r7 = 4 → ∃ b9, g_r M4 a0 0 = some b9 ∧ g_Call d 112 [.ref b9, g_n v5] M4 (g_qI fun r14 M11 => g_ext M4 M11 → g_ok M11 → g_InR r14 → g_Run d 107 74 [(0, .ref a0), (1, g_n v1), (2, g_n v2), (3, g_n v3), (4, g_n v4), (5, g_n v5), (6, g_n r14), (7, g_n 0)] [] M11 (g_qV Q))) ∧ (¬ r7 = 4 → g_InR (v4 + 1) ∧ g_Run d 107 18 [(0, .ref a0), (1, g_n v1), (2, g_n v2), (3, g_n v3), (4, g_n (v4 + 1))] [] M4 (g_qV Q))))) : g_Run d 107 44 [(0, .ref a0), (1, g_n v1), (2, g_n v2), (3, g_n v3), (4, g_n v4), (5, g_n v5)] [] M (g_qV Q) := by
  refine g_Run.ok fun hok => ?_
  replace h := h hok
  refine r_aload_n x_107_44 rfl ?_
  obtain ⟨hO1, h⟩ := h
  obtain ⟨b2, hb3, h⟩ := h
  refine r_getR x_107_45 rfl (ci := 7) (k := 0) (ns := 0) (by decide +kernel) (by decide) rfl (kz := 0) rfl hO1 hb3 ?_
  refine r_iload x_107_48 rfl ?_
  refine r_invS x_107_50 (z := 108) (ns := 0) (by decide +kernel) (as := [.ref b2, g_n v5]) (r := []) rfl rfl rfl ?_
  refine r_callI h fun r7 M4 hx5 hok6 hr8 h => ?_
  replace h := h hx5 hok6 hr8
  replace hO1 := hO1.up hx5
  refine r_iconst x_107_53 ?_
  refine r_ic_eq x_107_54 (t := 60) (by decide +kernel) hr8 (g_Rk rfl) (fun hc => ?_) (fun hc => ?_)
  · replace h := h.1 hc
    refine r_aload_n x_107_60 rfl ?_
    obtain ⟨b9, hb10, h⟩ := h
    refine r_getR x_107_61 rfl (ci := 7) (k := 0) (ns := 0) (by decide +kernel) (by decide) rfl (kz := 0) rfl hO1 hb10 ?_
    refine r_iload x_107_64 rfl ?_
    refine r_invS x_107_66 (z := 112) (ns := 0) (by decide +kernel) (as := [.ref b9, g_n v5]) (r := []) rfl rfl rfl ?_
    refine r_callI h fun r14 M11 hx12 hok13 hr15 h => ?_
    replace h := h hx12 hok13 hr15
    replace hO1 := hO1.up hx12
    refine r_istore x_107_69 (by decide +kernel) rfl (lv1 := [(0, .ref a0), (1, g_n v1), (2, g_n v2), (3, g_n v3), (4, g_n v4), (5, g_n v5), (6, g_n r14)]) rfl ?_
    refine r_iconst x_107_71 ?_
    refine r_istore x_107_72 (by decide +kernel) rfl (lv1 := [(0, .ref a0), (1, g_n v1), (2, g_n v2), (3, g_n v3), (4, g_n v4), (5, g_n v5), (6, g_n r14), (7, g_n 0)]) rfl ?_
    exact h
  · replace h := h.2 hc
    refine r_goto x_107_57 (t := 116) (by decide +kernel) ?_
    obtain ⟨h16, h⟩ := h
    refine r_iinc x_107_116 (by decide +kernel) rfl rfl (lv1 := [(0, .ref a0), (1, g_n v1), (2, g_n v2), (3, g_n v3), (4, g_n (v4 + 1)), (5, g_n v5)]) rfl ?_
    refine r_goto x_107_119 (t := 18) (by decide +kernel) ?_
    refine g_drop [0, 1, 2, 3, 4] (lv1 := [(0, .ref a0), (1, g_n v1), (2, g_n v2), (3, g_n v3), (4, g_n (v4 + 1))]) rfl ?_
    exact h
theorem s_X7_addItems_74 {d : Nat} {M : g_M} {Q : g_M → Prop} {a0 : Nat} {v1 : Int} (hv1 : g_InR v1) {v2 : Int} (hv2 : g_InR v2) {v3 : Int} (hv3 : g_InR v3) {v4 : Int} (hv4 : g_InR v4) {v5 : Int} (hv5 : g_InR v5) {v6 : Int} (hv6 : g_InR v6) {v7 : Int} (hv7 : g_InR v7) (h : g_ok M → ((v7 < 100000 → g_O M a0 7 ∧ ∃ b3, g_r M a0 0 = some b3 ∧ g_Call d 108 [.ref b3, g_n v6] M (g_qI fun r8 M5 => g_ext M M5 → g_ok M5 → g_InR r8 → ((r8 = 0 → g_InR (v4 + 1) ∧ g_Run d 107 18 [(0, .ref a0), (1, g_n v1), (2, g_n v2), (3, g_n v3), (4, g_n (v4 + 1))] [] M5 (g_qV Q)) ∧ (¬ r8 = 0 → g_Call d 104 [.ref a0, g_n v6] M5 (g_qV fun M11 => g_ext M5 M11 → g_ok M11 → ∃ b14, g_r M11 a0 0 = some b14 ∧ g_Call d 111 [.ref b14, g_n v6] M11 (g_qI fun r19 M16 => g_ext M11 M16 → g_ok M16 → g_InR r19 → g_InR (v7 + 1) ∧ g_Run d 107 74 [(0, .ref a0), (1, g_n v1), (2, g_n v2), (3, g_n v3), (4, g_n v4), (5, g_n v5), (6, g_n r19), (7, g_n (v7 + 1))] [] M16 (g_qV Q))))))) ∧ (¬ v7 < 100000 → g_InR (v4 + 1) ∧ g_Run d 107 18 [(0, .ref a0), (1, g_n v1), (2, g_n v2), (3, g_n v3), (4, g_n (v4 + 1))] [] M (g_qV Q)))) : g_Run d 107 74 [(0, .ref a0), (1, g_n v1), (2, g_n v2), (3, g_n v3), (4, g_n v4), (5, g_n v5), (6, g_n v6), (7, g_n v7)] [] M (g_qV Q) := by
  refine g_Run.ok fun hok => ?_
  replace h := h hok
  refine r_iload x_107_74 rfl ?_
  refine r_ldc x_107_76 (v := g_n 100000) rfl ?_
  refine r_ic_ge x_107_78 (t := 116) (by decide +kernel) hv7 (g_Rk rfl) (fun hc => ?_) (fun hc => ?_)
  · replace h := h.2 hc
    obtain ⟨h1, h⟩ := h
    refine r_iinc x_107_116 (by decide +kernel) rfl rfl (lv1 := [(0, .ref a0), (1, g_n v1), (2, g_n v2), (3, g_n v3), (4, g_n (v4 + 1)), (5, g_n v5), (6, g_n v6), (7, g_n v7)]) rfl ?_
    refine r_goto x_107_119 (t := 18) (by decide +kernel) ?_
    refine g_drop [0, 1, 2, 3, 4] (lv1 := [(0, .ref a0), (1, g_n v1), (2, g_n v2), (3, g_n v3), (4, g_n (v4 + 1))]) rfl ?_
    exact h
  · replace h := h.1 hc
    refine r_aload_n x_107_81 rfl ?_
    obtain ⟨hO2, h⟩ := h
    obtain ⟨b3, hb4, h⟩ := h
    refine r_getR x_107_82 rfl (ci := 7) (k := 0) (ns := 0) (by decide +kernel) (by decide) rfl (kz := 0) rfl hO2 hb4 ?_
    refine r_iload x_107_85 rfl ?_
    refine r_invS x_107_87 (z := 108) (ns := 0) (by decide +kernel) (as := [.ref b3, g_n v6]) (r := []) rfl rfl rfl ?_
    refine r_callI h fun r8 M5 hx6 hok7 hr9 h => ?_
    replace h := h hx6 hok7 hr9
    replace hO2 := hO2.up hx6
    refine r_if_eq x_107_90 (t := 116) (by decide +kernel) hr9 (fun hc => ?_) (fun hc => ?_)
    · replace h := h.1 hc
      obtain ⟨h10, h⟩ := h
      refine r_iinc x_107_116 (by decide +kernel) rfl rfl (lv1 := [(0, .ref a0), (1, g_n v1), (2, g_n v2), (3, g_n v3), (4, g_n (v4 + 1)), (5, g_n v5), (6, g_n v6), (7, g_n v7)]) rfl ?_
      refine r_goto x_107_119 (t := 18) (by decide +kernel) ?_
      refine g_drop [0, 1, 2, 3, 4] (lv1 := [(0, .ref a0), (1, g_n v1), (2, g_n v2), (3, g_n v3), (4, g_n (v4 + 1))]) rfl ?_
      exact h
    · replace h := h.2 hc
      refine r_aload_n x_107_93 rfl ?_
      refine r_iload x_107_94 rfl ?_
      refine r_invV x_107_96 (z := 104) (ns := 0) (by decide +kernel) (as := [g_n v6]) (r := []) rfl rfl rfl hO2 rfl rfl ?_
      refine r_callV h fun M11 hx12 hok13 h => ?_
      replace h := h hx12 hok13
      replace hO2 := hO2.up hx12
      refine r_aload_n x_107_99 rfl ?_
      obtain ⟨b14, hb15, h⟩ := h
      refine r_getR x_107_100 rfl (ci := 7) (k := 0) (ns := 0) (by decide +kernel) (by decide) rfl (kz := 0) rfl hO2 hb15 ?_
      refine r_iload x_107_103 rfl ?_
      refine r_invS x_107_105 (z := 111) (ns := 0) (by decide +kernel) (as := [.ref b14, g_n v6]) (r := []) rfl rfl rfl ?_
      refine r_callI h fun r19 M16 hx17 hok18 hr20 h => ?_
      replace h := h hx17 hok18 hr20
      replace hO2 := hO2.up hx17
      refine r_istore x_107_108 (by decide +kernel) rfl (lv1 := [(0, .ref a0), (1, g_n v1), (2, g_n v2), (3, g_n v3), (4, g_n v4), (5, g_n v5), (6, g_n r19), (7, g_n v7)]) rfl ?_
      obtain ⟨h21, h⟩ := h
      refine r_iinc x_107_110 (by decide +kernel) rfl rfl (lv1 := [(0, .ref a0), (1, g_n v1), (2, g_n v2), (3, g_n v3), (4, g_n v4), (5, g_n v5), (6, g_n r19), (7, g_n (v7 + 1))]) rfl ?_
      refine r_goto x_107_113 (t := 74) (by decide +kernel) ?_
      exact h
theorem m_X7_kind {d : Nat} {M : g_M} {Q : Int → g_M → Prop} {a0 : Nat} {v1 : Int} (hv1 : g_InR v1) (h : g_ok M → ((v1 < 0 → Q 0 M) ∧ (¬ v1 < 0 → ∃ n1, g_A M a0 0 n1 ∧ g_InR n1 ∧ ((v1 < n1 → ((0 : Int) ≤ v1 ∧ (v1 : Int) < n1) ∧ Q (g_i M a0 v1) M) ∧ (¬ v1 < n1 → Q 0 M))))) : g_Call (d + 1) 108 [.ref a0, g_n v1] M (g_qI Q) := by
  refine g_Call.ok fun hok0 => ?_
  replace h := h hok0
  refine r_body rfl (lv := [(0, .ref a0), (1, g_n v1)]) rfl ?_
  refine g_Run.ok fun hok => ?_
  refine r_iload_n x_108_0 rfl ?_
  refine r_if_lt x_108_1 (t := 16) (by decide +kernel) hv1 (fun hc => ?_) (fun hc => ?_)
  · replace h := h.1 hc
    refine r_iconst x_108_16 ?_
    exact r_retI x_108_17 rfl (g_Rk rfl) h
  · replace h := h.2 hc
    refine r_iload_n x_108_4 rfl ?_
    refine r_aload_n x_108_5 rfl ?_
    obtain ⟨n1, hA2, h⟩ := h
    refine r_alen x_108_6 hA2 ?_
    obtain ⟨h3, h⟩ := h
    refine r_ic_ge x_108_7 (t := 16) (by decide +kernel) hv1 h3 (fun hc => ?_) (fun hc => ?_)
    · replace h := h.2 hc
      refine r_iconst x_108_16 ?_
      exact r_retI x_108_17 rfl (g_Rk rfl) h
    · replace h := h.1 hc
      refine r_aload_n x_108_10 rfl ?_
      refine r_iload_n x_108_11 rfl ?_
      obtain ⟨h4, h⟩ := h
      refine r_bald x_108_12 (Or.inl rfl) hA2 hv1 h4.1 h4.2 ?_
      refine r_goto x_108_13 (t := 17) (by decide +kernel) ?_
      exact r_retI x_108_17 rfl (hok.1 _ _) h
theorem m_X7_whole4 {d : Nat} {M : g_M} {Q : Int → g_M → Prop} {a0 : Nat} {v1 : Int} (hv1 : g_InR v1) (h : g_ok M → ((v1 < 0 → Q 0 M) ∧ (¬ v1 < 0 → g_InR (v1 + 4) ∧ ∃ n2, g_A M a0 0 n2 ∧ g_InR n2 ∧ ((n2 < v1 + 4 → Q 0 M) ∧ (¬ n2 < v1 + 4 → ((0 : Int) ≤ v1 ∧ (v1 : Int) < n2) ∧ g_InR (v1 + 1) ∧ ((0 : Int) ≤ v1 + 1 ∧ (v1 + 1 : Int) < n2) ∧ g_InR (v1 + 2) ∧ ((0 : Int) ≤ v1 + 2 ∧ (v1 + 2 : Int) < n2) ∧ g_InR (v1 + 3) ∧ ((0 : Int) ≤ v1 + 3 ∧ (v1 + 3 : Int) < n2) ∧ Q (g_or (g_or (g_or (g_and (g_i M a0 v1) 255) (g_shl (g_and (g_i M a0 (v1 + 1)) 255) 8)) (g_shl (g_and (g_i M a0 (v1 + 2)) 255) 16)) (g_shl (g_i M a0 (v1 + 3)) 24)) M))))) : g_Call (d + 1) 109 [.ref a0, g_n v1] M (g_qI Q) := by
  refine g_Call.ok fun hok0 => ?_
  replace h := h hok0
  refine r_body rfl (lv := [(0, .ref a0), (1, g_n v1)]) rfl ?_
  refine g_Run.ok fun hok => ?_
  refine r_iload_n x_109_0 rfl ?_
  refine r_if_lt x_109_1 (t := 12) (by decide +kernel) hv1 (fun hc => ?_) (fun hc => ?_)
  · replace h := h.1 hc
    refine r_iconst x_109_12 ?_
    exact r_retI x_109_13 rfl (g_Rk rfl) h
  · replace h := h.2 hc
    refine r_iload_n x_109_4 rfl ?_
    refine r_iconst x_109_5 ?_
    refine r_iadd x_109_6 ?_
    obtain ⟨h1, h⟩ := h
    refine r_aload_n x_109_7 rfl ?_
    obtain ⟨n2, hA3, h⟩ := h
    refine r_alen x_109_8 hA3 ?_
    obtain ⟨h4, h⟩ := h
    refine r_ic_le x_109_9 (t := 14) (by decide +kernel) h1 h4 (fun hc => ?_) (fun hc => ?_)
    · replace h := h.2 hc
      refine r_aload_n x_109_14 rfl ?_
      refine r_iload_n x_109_15 rfl ?_
      obtain ⟨h5, h⟩ := h
      refine r_bald x_109_16 (Or.inl rfl) hA3 hv1 h5.1 h5.2 ?_
      refine r_sipush x_109_17 (x := 255) rfl ?_
      refine r_iand x_109_20 ?_
      refine r_aload_n x_109_21 rfl ?_
      refine r_iload_n x_109_22 rfl ?_
      refine r_iconst x_109_23 ?_
      refine r_iadd x_109_24 ?_
      obtain ⟨h6, h⟩ := h
      obtain ⟨h7, h⟩ := h
      refine r_bald x_109_25 (Or.inl rfl) hA3 h6 h7.1 h7.2 ?_
      refine r_sipush x_109_26 (x := 255) rfl ?_
      refine r_iand x_109_29 ?_
      refine r_bipush x_109_30 (x := 8) rfl ?_
      refine r_ishl x_109_32 ?_
      refine r_ior x_109_33 ?_
      refine r_aload_n x_109_34 rfl ?_
      refine r_iload_n x_109_35 rfl ?_
      refine r_iconst x_109_36 ?_
      refine r_iadd x_109_37 ?_
      obtain ⟨h8, h⟩ := h
      obtain ⟨h9, h⟩ := h
      refine r_bald x_109_38 (Or.inl rfl) hA3 h8 h9.1 h9.2 ?_
      refine r_sipush x_109_39 (x := 255) rfl ?_
      refine r_iand x_109_42 ?_
      refine r_bipush x_109_43 (x := 16) rfl ?_
      refine r_ishl x_109_45 ?_
      refine r_ior x_109_46 ?_
      refine r_aload_n x_109_47 rfl ?_
      refine r_iload_n x_109_48 rfl ?_
      refine r_iconst x_109_49 ?_
      refine r_iadd x_109_50 ?_
      obtain ⟨h10, h⟩ := h
      obtain ⟨h11, h⟩ := h
      refine r_bald x_109_51 (Or.inl rfl) hA3 h10 h11.1 h11.2 ?_
      refine r_bipush x_109_52 (x := 24) rfl ?_
      refine r_ishl x_109_54 ?_
      refine r_ior x_109_55 ?_
      exact r_retI x_109_56 rfl (g_InR_toInt _) h
    · replace h := h.1 hc
      refine r_iconst x_109_12 ?_
      exact r_retI x_109_13 rfl (g_Rk rfl) h
theorem m_X7_valueAt {d : Nat} {M : g_M} {Q : Int → g_M → Prop} {a0 : Nat} {v1 : Int} (hv1 : g_InR v1) (h : g_ok M → ((v1 < 0 → ∃ n1, g_A M a0 0 n1 ∧ g_InR n1 ∧ g_Run d 110 11 [(0, .ref a0), (1, g_n v1), (2, g_n n1)] [] M (g_qI Q)) ∧ (¬ v1 < 0 → g_Run d 110 11 [(0, .ref a0), (1, g_n v1), (2, g_n v1)] [] M (g_qI Q)))) : g_Call (d + 1) 110 [.ref a0, g_n v1] M (g_qI Q) := by
  refine g_Call.ok fun hok0 => ?_
  replace h := h hok0
  refine r_body rfl (lv := [(0, .ref a0), (1, g_n v1)]) rfl ?_
  refine g_Run.ok fun hok => ?_
  refine r_iload_n x_110_0 rfl ?_
  refine r_if_ge x_110_1 (t := 9) (by decide +kernel) hv1 (fun hc => ?_) (fun hc => ?_)
  · replace h := h.2 hc
    refine r_iload_n x_110_9 rfl ?_
    refine r_istore_n x_110_10 (by decide +kernel) rfl (lv1 := [(0, .ref a0), (1, g_n v1), (2, g_n v1)]) rfl ?_
    exact h
  · replace h := h.1 hc
    refine r_aload_n x_110_4 rfl ?_
    obtain ⟨n1, hA2, h⟩ := h
    refine r_alen x_110_5 hA2 ?_
    obtain ⟨h3, h⟩ := h
    refine r_goto x_110_6 (t := 10) (by decide +kernel) ?_
    refine r_istore_n x_110_10 (by decide +kernel) rfl (lv1 := [(0, .ref a0), (1, g_n v1), (2, g_n n1)]) rfl ?_
    exact h
theorem s_X7_valueAt_11 {d : Nat} {M : g_M} {Q : Int → g_M → Prop} {a0 : Nat} {v1 : Int} (hv1 : g_InR v1) {v2 : Int} (hv2 : g_InR v2) (h : g_ok M → ∃ n1, g_A M a0 0 n1 ∧ g_InR n1 ∧ g_InR (n1 - 1) ∧ ((v2 < n1 - 1 → g_InR (v2 + 1) ∧ ((0 : Int) ≤ v2 + 1 ∧ (v2 + 1 : Int) < n1) ∧ ((g_i M a0 (v2 + 1) = 0 → g_InR (v2 + 2) ∧ Q (v2 + 2) M) ∧ (¬ g_i M a0 (v2 + 1) = 0 → g_InR (v2 + 1) ∧ g_Run d 110 11 [(0, .ref a0), (1, g_n v1), (2, g_n (v2 + 1))] [] M (g_qI Q)))) ∧ (¬ v2 < n1 - 1 → g_InR n1 ∧ Q n1 M))) : g_Run d 110 11 [(0, .ref a0), (1, g_n v1), (2, g_n v2)] [] M (g_qI Q) := by
  refine g_Run.ok fun hok => ?_
  replace h := h hok
  refine r_iload_n x_110_11 rfl ?_
  refine r_aload_n x_110_12 rfl ?_
  obtain ⟨n1, hA2, h⟩ := h
  refine r_alen x_110_13 hA2 ?_
  obtain ⟨h3, h⟩ := h
  refine r_iconst x_110_14 ?_
  refine r_isub x_110_15 ?_
  obtain ⟨h4, h⟩ := h
  refine r_ic_ge x_110_16 (t := 37) (by decide +kernel) hv2 h4 (fun hc => ?_) (fun hc => ?_)
  · replace h := h.2 hc
    refine r_aload_n x_110_37 rfl ?_
    refine r_alen x_110_38 hA2 ?_
    obtain ⟨h5, h⟩ := h
    exact r_retI x_110_39 rfl h5 h
  · replace h := h.1 hc
    refine r_aload_n x_110_19 rfl ?_
    refine r_iload_n x_110_20 rfl ?_
    refine r_iconst x_110_21 ?_
    refine r_iadd x_110_22 ?_
    obtain ⟨h6, h⟩ := h
    obtain ⟨h7, h⟩ := h
    refine r_bald x_110_23 (Or.inl rfl) hA2 h6 h7.1 h7.2 ?_
    refine r_if_ne x_110_24 (t := 31) (by decide +kernel) (hok.1 _ _) (fun hc => ?_) (fun hc => ?_)
    · replace h := h.2 hc
      obtain ⟨h8, h⟩ := h
      refine r_iinc x_110_31 (by decide +kernel) rfl rfl (lv1 := [(0, .ref a0), (1, g_n v1), (2, g_n (v2 + 1))]) rfl ?_
      refine r_goto x_110_34 (t := 11) (by decide +kernel) ?_
      exact h
    · replace h := h.1 hc
      refine r_iload_n x_110_27 rfl ?_
      refine r_iconst x_110_28 ?_
      refine r_iadd x_110_29 ?_
      obtain ⟨h9, h⟩ := h
      exact r_retI x_110_30 rfl h9 h
theorem m_X7_next {d : Nat} {M : g_M} {Q : Int → g_M → Prop} {a0 : Nat} {v1 : Int} (hv1 : g_InR v1) (h : g_ok M → ((v1 < 0 → ∃ n1, g_A M a0 0 n1 ∧ g_InR n1 ∧ Q n1 M) ∧ (¬ v1 < 0 → ∃ n4, g_A M a0 0 n4 ∧ g_InR n4 ∧ ((v1 < n4 → g_InR (v1 + 1) ∧ g_Run d 111 17 [(0, .ref a0), (1, g_n v1), (2, g_n (v1 + 1))] [] M (g_qI Q)) ∧ (¬ v1 < n4 → g_InR n4 ∧ Q n4 M))))) : g_Call (d + 1) 111 [.ref a0, g_n v1] M (g_qI Q) := by
  refine g_Call.ok fun hok0 => ?_
  replace h := h hok0
  refine r_body rfl (lv := [(0, .ref a0), (1, g_n v1)]) rfl ?_
  refine g_Run.ok fun hok => ?_
  refine r_iload_n x_111_0 rfl ?_
  refine r_if_lt x_111_1 (t := 10) (by decide +kernel) hv1 (fun hc => ?_) (fun hc => ?_)
  · replace h := h.1 hc
    refine r_aload_n x_111_10 rfl ?_
    obtain ⟨n1, hA2, h⟩ := h
    refine r_alen x_111_11 hA2 ?_
    obtain ⟨h3, h⟩ := h
    exact r_retI x_111_12 rfl h3 h
  · replace h := h.2 hc
    refine r_iload_n x_111_4 rfl ?_
    refine r_aload_n x_111_5 rfl ?_
    obtain ⟨n4, hA5, h⟩ := h
    refine r_alen x_111_6 hA5 ?_
    obtain ⟨h6, h⟩ := h
    refine r_ic_lt x_111_7 (t := 13) (by decide +kernel) hv1 h6 (fun hc => ?_) (fun hc => ?_)
    · replace h := h.1 hc
      refine r_iload_n x_111_13 rfl ?_
      refine r_iconst x_111_14 ?_
      refine r_iadd x_111_15 ?_
      obtain ⟨h7, h⟩ := h
      refine r_istore_n x_111_16 (by decide +kernel) rfl (lv1 := [(0, .ref a0), (1, g_n v1), (2, g_n (v1 + 1))]) rfl ?_
      exact h
    · replace h := h.2 hc
      refine r_aload_n x_111_10 rfl ?_
      refine r_alen x_111_11 hA5 ?_
      obtain ⟨h8, h⟩ := h
      exact r_retI x_111_12 rfl h8 h
theorem s_X7_next_17 {d : Nat} {M : g_M} {Q : Int → g_M → Prop} {a0 : Nat} {v1 : Int} (hv1 : g_InR v1) {v2 : Int} (hv2 : g_InR v2) (h : g_ok M → ∃ n1, g_A M a0 0 n1 ∧ g_InR n1 ∧ ((v2 < n1 → ((0 : Int) ≤ v2 ∧ (v2 : Int) < n1) ∧ ((g_i M a0 v2 = 0 → g_Run d 111 38 [(0, .ref a0), (1, g_n v1), (2, g_n v2)] [] M (g_qI Q)) ∧ (¬ g_i M a0 v2 = 0 → g_InR (v2 + 1) ∧ g_Run d 111 17 [(0, .ref a0), (1, g_n v1), (2, g_n (v2 + 1))] [] M (g_qI Q)))) ∧ (¬ v2 < n1 → g_Run d 111 38 [(0, .ref a0), (1, g_n v1), (2, g_n v2)] [] M (g_qI Q)))) : g_Run d 111 17 [(0, .ref a0), (1, g_n v1), (2, g_n v2)] [] M (g_qI Q) := by
  refine g_Run.ok fun hok => ?_
  replace h := h hok
  refine r_iload_n x_111_17 rfl ?_
  refine r_aload_n x_111_18 rfl ?_
  obtain ⟨n1, hA2, h⟩ := h
  refine r_alen x_111_19 hA2 ?_
  obtain ⟨h3, h⟩ := h
  refine r_ic_ge x_111_20 (t := 38) (by decide +kernel) hv2 h3 (fun hc => ?_) (fun hc => ?_)
  · replace h := h.2 hc
    exact h
  · replace h := h.1 hc
    refine r_aload_n x_111_23 rfl ?_
    refine r_iload_n x_111_24 rfl ?_
    obtain ⟨h4, h⟩ := h
    refine r_bald x_111_25 (Or.inl rfl) hA2 hv2 h4.1 h4.2 ?_
    refine r_if_ne x_111_26 (t := 32) (by decide +kernel) (hok.1 _ _) (fun hc => ?_) (fun hc => ?_)
    · replace h := h.2 hc
      obtain ⟨h5, h⟩ := h
      refine r_iinc x_111_32 (by decide +kernel) rfl rfl (lv1 := [(0, .ref a0), (1, g_n v1), (2, g_n (v2 + 1))]) rfl ?_
      refine r_goto x_111_35 (t := 17) (by decide +kernel) ?_
      exact h
    · replace h := h.1 hc
      refine r_goto x_111_29 (t := 38) (by decide +kernel) ?_
      exact h
theorem s_X7_next_38 {d : Nat} {M : g_M} {Q : Int → g_M → Prop} {a0 : Nat} {v1 : Int} (hv1 : g_InR v1) {v2 : Int} (hv2 : g_InR v2) (h : g_ok M → g_InR (v2 + 1) ∧ ∃ n2, g_A M a0 0 n2 ∧ ((0 : Int) ≤ v1 ∧ (v1 : Int) < n2) ∧ ((g_i M a0 v1 = 2 → g_InR ((v2 + 1) + 4) ∧ g_InR n2 ∧ ((n2 < (v2 + 1) + 4 → g_InR n2 ∧ Q n2 M) ∧ (¬ n2 < (v2 + 1) + 4 → ((0 : Int) ≤ v2 + 1 ∧ (v2 + 1 : Int) < n2) ∧ g_InR ((v2 + 1) + 1) ∧ ((0 : Int) ≤ (v2 + 1) + 1 ∧ ((v2 + 1) + 1 : Int) < n2) ∧ g_InR ((v2 + 1) + 2) ∧ ((0 : Int) ≤ (v2 + 1) + 2 ∧ ((v2 + 1) + 2 : Int) < n2) ∧ g_InR ((v2 + 1) + 3) ∧ ((0 : Int) ≤ (v2 + 1) + 3 ∧ ((v2 + 1) + 3 : Int) < n2) ∧ ((0 : Int) ≤ v1 ∧ (v1 : Int) < n2) ∧ ((g_i M a0 v1 = 2 → g_InR ((v2 + 1) + 4) ∧ g_InR (((v2 + 1) + 4) + (g_or (g_or (g_or (g_and (g_i M a0 (v2 + 1)) 255) (g_shl (g_and (g_i M a0 ((v2 + 1) + 1)) 255) 8)) (g_shl (g_and (g_i M a0 ((v2 + 1) + 2)) 255) 16)) (g_shl (g_i M a0 ((v2 + 1) + 3)) 24))) ∧ Q (((v2 + 1) + 4) + (g_or (g_or (g_or (g_and (g_i M a0 (v2 + 1)) 255) (g_shl (g_and (g_i M a0 ((v2 + 1) + 1)) 255) 8)) (g_shl (g_and (g_i M a0 ((v2 + 1) + 2)) 255) 16)) (g_shl (g_i M a0 ((v2 + 1) + 3)) 24))) M) ∧ (¬ g_i M a0 v1 = 2 → g_InR ((v2 + 1) + (g_or (g_or (g_or (g_and (g_i M a0 (v2 + 1)) 255) (g_shl (g_and (g_i M a0 ((v2 + 1) + 1)) 255) 8)) (g_shl (g_and (g_i M a0 ((v2 + 1) + 2)) 255) 16)) (g_shl (g_i M a0 ((v2 + 1) + 3)) 24))) ∧ Q ((v2 + 1) + (g_or (g_or (g_or (g_and (g_i M a0 (v2 + 1)) 255) (g_shl (g_and (g_i M a0 ((v2 + 1) + 1)) 255) 8)) (g_shl (g_and (g_i M a0 ((v2 + 1) + 2)) 255) 16)) (g_shl (g_i M a0 ((v2 + 1) + 3)) 24))) M))))) ∧ (¬ g_i M a0 v1 = 2 → ((g_i M a0 v1 = 3 → g_InR ((v2 + 1) + 4) ∧ g_InR n2 ∧ ((n2 < (v2 + 1) + 4 → g_InR n2 ∧ Q n2 M) ∧ (¬ n2 < (v2 + 1) + 4 → ((0 : Int) ≤ v2 + 1 ∧ (v2 + 1 : Int) < n2) ∧ g_InR ((v2 + 1) + 1) ∧ ((0 : Int) ≤ (v2 + 1) + 1 ∧ ((v2 + 1) + 1 : Int) < n2) ∧ g_InR ((v2 + 1) + 2) ∧ ((0 : Int) ≤ (v2 + 1) + 2 ∧ ((v2 + 1) + 2 : Int) < n2) ∧ g_InR ((v2 + 1) + 3) ∧ ((0 : Int) ≤ (v2 + 1) + 3 ∧ ((v2 + 1) + 3 : Int) < n2) ∧ ((0 : Int) ≤ v1 ∧ (v1 : Int) < n2) ∧ ((g_i M a0 v1 = 2 → g_InR ((v2 + 1) + 4) ∧ g_InR (((v2 + 1) + 4) + (g_or (g_or (g_or (g_and (g_i M a0 (v2 + 1)) 255) (g_shl (g_and (g_i M a0 ((v2 + 1) + 1)) 255) 8)) (g_shl (g_and (g_i M a0 ((v2 + 1) + 2)) 255) 16)) (g_shl (g_i M a0 ((v2 + 1) + 3)) 24))) ∧ Q (((v2 + 1) + 4) + (g_or (g_or (g_or (g_and (g_i M a0 (v2 + 1)) 255) (g_shl (g_and (g_i M a0 ((v2 + 1) + 1)) 255) 8)) (g_shl (g_and (g_i M a0 ((v2 + 1) + 2)) 255) 16)) (g_shl (g_i M a0 ((v2 + 1) + 3)) 24))) M) ∧ (¬ g_i M a0 v1 = 2 → g_InR ((v2 + 1) + (g_or (g_or (g_or (g_and (g_i M a0 (v2 + 1)) 255) (g_shl (g_and (g_i M a0 ((v2 + 1) + 1)) 255) 8)) (g_shl (g_and (g_i M a0 ((v2 + 1) + 2)) 255) 16)) (g_shl (g_i M a0 ((v2 + 1) + 3)) 24))) ∧ Q ((v2 + 1) + (g_or (g_or (g_or (g_and (g_i M a0 (v2 + 1)) 255) (g_shl (g_and (g_i M a0 ((v2 + 1) + 1)) 255) 8)) (g_shl (g_and (g_i M a0 ((v2 + 1) + 2)) 255) 16)) (g_shl (g_i M a0 ((v2 + 1) + 3)) 24))) M))))) ∧ (¬ g_i M a0 v1 = 3 → ((g_i M a0 v1 = 4 → g_InR ((v2 + 1) + 4) ∧ g_InR n2 ∧ ((n2 < (v2 + 1) + 4 → g_InR n2 ∧ Q n2 M) ∧ (¬ n2 < (v2 + 1) + 4 → ((0 : Int) ≤ v2 + 1 ∧ (v2 + 1 : Int) < n2) ∧ g_InR ((v2 + 1) + 1) ∧ ((0 : Int) ≤ (v2 + 1) + 1 ∧ ((v2 + 1) + 1 : Int) < n2) ∧ g_InR ((v2 + 1) + 2) ∧ ((0 : Int) ≤ (v2 + 1) + 2 ∧ ((v2 + 1) + 2 : Int) < n2) ∧ g_InR ((v2 + 1) + 3) ∧ ((0 : Int) ≤ (v2 + 1) + 3 ∧ ((v2 + 1) + 3 : Int) < n2) ∧ ((0 : Int) ≤ v1 ∧ (v1 : Int) < n2) ∧ ((g_i M a0 v1 = 2 → g_InR ((v2 + 1) + 4) ∧ g_InR (((v2 + 1) + 4) + (g_or (g_or (g_or (g_and (g_i M a0 (v2 + 1)) 255) (g_shl (g_and (g_i M a0 ((v2 + 1) + 1)) 255) 8)) (g_shl (g_and (g_i M a0 ((v2 + 1) + 2)) 255) 16)) (g_shl (g_i M a0 ((v2 + 1) + 3)) 24))) ∧ Q (((v2 + 1) + 4) + (g_or (g_or (g_or (g_and (g_i M a0 (v2 + 1)) 255) (g_shl (g_and (g_i M a0 ((v2 + 1) + 1)) 255) 8)) (g_shl (g_and (g_i M a0 ((v2 + 1) + 2)) 255) 16)) (g_shl (g_i M a0 ((v2 + 1) + 3)) 24))) M) ∧ (¬ g_i M a0 v1 = 2 → g_InR ((v2 + 1) + (g_or (g_or (g_or (g_and (g_i M a0 (v2 + 1)) 255) (g_shl (g_and (g_i M a0 ((v2 + 1) + 1)) 255) 8)) (g_shl (g_and (g_i M a0 ((v2 + 1) + 2)) 255) 16)) (g_shl (g_i M a0 ((v2 + 1) + 3)) 24))) ∧ Q ((v2 + 1) + (g_or (g_or (g_or (g_and (g_i M a0 (v2 + 1)) 255) (g_shl (g_and (g_i M a0 ((v2 + 1) + 1)) 255) 8)) (g_shl (g_and (g_i M a0 ((v2 + 1) + 2)) 255) 16)) (g_shl (g_i M a0 ((v2 + 1) + 3)) 24))) M))))) ∧ (¬ g_i M a0 v1 = 4 → ((g_i M a0 v1 = 5 → Q (v2 + 1) M) ∧ (¬ g_i M a0 v1 = 5 → ((g_i M a0 v1 = 6 → Q (v2 + 1) M) ∧ (¬ g_i M a0 v1 = 6 → ((g_i M a0 v1 = 7 → Q (v2 + 1) M) ∧ (¬ g_i M a0 v1 = 7 → ((g_i M a0 v1 = 8 → g_InR ((v2 + 1) + 1) ∧ Q ((v2 + 1) + 1) M) ∧ (¬ g_i M a0 v1 = 8 → ((g_i M a0 v1 = 9 → Q (v2 + 1) M) ∧ (¬ g_i M a0 v1 = 9 → ((g_i M a0 v1 = 10 → Q (v2 + 1) M) ∧ (¬ g_i M a0 v1 = 10 → ((g_i M a0 v1 = 11 → Q (v2 + 1) M) ∧ (¬ g_i M a0 v1 = 11 → ((g_i M a0 v1 = 12 → Q (v2 + 1) M) ∧ (¬ g_i M a0 v1 = 12 → ((g_i M a0 v1 = 13 → Q (v2 + 1) M) ∧ (¬ g_i M a0 v1 = 13 → ((g_i M a0 v1 = 14 → Q (v2 + 1) M) ∧ (¬ g_i M a0 v1 = 14 → ((g_i M a0 v1 = 15 → Q (v2 + 1) M) ∧ (¬ g_i M a0 v1 = 15 → ((g_i M a0 v1 = 16 → g_InR ((v2 + 1) + 4) ∧ Q ((v2 + 1) + 4) M) ∧ (¬ g_i M a0 v1 = 16 → ((g_i M a0 v1 = 17 → Q (v2 + 1) M) ∧ (¬ g_i M a0 v1 = 17 → ((g_i M a0 v1 = 18 → g_InR ((v2 + 1) + 8) ∧ Q ((v2 + 1) + 8) M) ∧ (¬ g_i M a0 v1 = 18 → Q (v2 + 1) M))))))))))))))))))))))))))))))))))) : g_Run d 111 38 [(0, .ref a0), (1, g_n v1), (2, g_n v2)] [] M (g_qI Q) := by
  refine g_Run.ok fun hok => ?_
  replace h := h hok
  obtain ⟨h1, h⟩ := h
  refine r_iinc x_111_38 (by decide +kernel) rfl rfl (lv1 := [(0, .ref a0), (1, g_n v1), (2, g_n (v2 + 1))]) rfl ?_
  refine r_aload_n x_111_41 rfl ?_
  refine r_iload_n x_111_42 rfl ?_
  obtain ⟨n2, hA3, h⟩ := h
  obtain ⟨h4, h⟩ := h
  refine r_bald x_111_43 (Or.inl rfl) hA3 hv1 h4.1 h4.2 ?_
  by_cases hk19 : g_i M a0 v1 = 2
  · refine r_tableAt x_111_44 hk19 (t := 141) (g_Rk rfl) (by decide +kernel) ?_
    replace h := h.1 hk19
    refine r_goto x_111_141 (t := 146) (by decide +kernel) ?_
    refine r_iload_n x_111_146 rfl ?_
    refine r_iconst x_111_147 ?_
    refine r_iadd x_111_148 ?_
    obtain ⟨h5, h⟩ := h
    refine r_aload_n x_111_149 rfl ?_
    refine r_alen x_111_150 hA3 ?_
    obtain ⟨h6, h⟩ := h
    refine r_ic_le x_111_151 (t := 157) (by decide +kernel) h5 h6 (fun hc => ?_) (fun hc => ?_)
    · replace h := h.2 hc
      refine r_aload_n x_111_157 rfl ?_
      refine r_iload_n x_111_158 rfl ?_
      obtain ⟨h7, h⟩ := h
      refine r_bald x_111_159 (Or.inl rfl) hA3 h1 h7.1 h7.2 ?_
      refine r_sipush x_111_160 (x := 255) rfl ?_
      refine r_iand x_111_163 ?_
      refine r_aload_n x_111_164 rfl ?_
      refine r_iload_n x_111_165 rfl ?_
      refine r_iconst x_111_166 ?_
      refine r_iadd x_111_167 ?_
      obtain ⟨h8, h⟩ := h
      obtain ⟨h9, h⟩ := h
      refine r_bald x_111_168 (Or.inl rfl) hA3 h8 h9.1 h9.2 ?_
      refine r_sipush x_111_169 (x := 255) rfl ?_
      refine r_iand x_111_172 ?_
      refine r_bipush x_111_173 (x := 8) rfl ?_
      refine r_ishl x_111_175 ?_
      refine r_ior x_111_176 ?_
      refine r_aload_n x_111_177 rfl ?_
      refine r_iload_n x_111_178 rfl ?_
      refine r_iconst x_111_179 ?_
      refine r_iadd x_111_180 ?_
      obtain ⟨h10, h⟩ := h
      obtain ⟨h11, h⟩ := h
      refine r_bald x_111_181 (Or.inl rfl) hA3 h10 h11.1 h11.2 ?_
      refine r_sipush x_111_182 (x := 255) rfl ?_
      refine r_iand x_111_185 ?_
      refine r_bipush x_111_186 (x := 16) rfl ?_
      refine r_ishl x_111_188 ?_
      refine r_ior x_111_189 ?_
      refine r_aload_n x_111_190 rfl ?_
      refine r_iload_n x_111_191 rfl ?_
      refine r_iconst x_111_192 ?_
      refine r_iadd x_111_193 ?_
      obtain ⟨h12, h⟩ := h
      obtain ⟨h13, h⟩ := h
      refine r_bald x_111_194 (Or.inl rfl) hA3 h12 h13.1 h13.2 ?_
      refine r_bipush x_111_195 (x := 24) rfl ?_
      refine r_ishl x_111_197 ?_
      refine r_ior x_111_198 ?_
      refine r_istore_n x_111_199 (by decide +kernel) rfl (lv1 := [(0, .ref a0), (1, g_n v1), (2, g_n (v2 + 1)), (3, g_n (g_or (g_or (g_or (g_and (g_i M a0 (v2 + 1)) 255) (g_shl (g_and (g_i M a0 ((v2 + 1) + 1)) 255) 8)) (g_shl (g_and (g_i M a0 ((v2 + 1) + 2)) 255) 16)) (g_shl (g_i M a0 ((v2 + 1) + 3)) 24)))]) rfl ?_
      refine r_aload_n x_111_200 rfl ?_
      refine r_iload_n x_111_201 rfl ?_
      obtain ⟨h14, h⟩ := h
      refine r_bald x_111_202 (Or.inl rfl) hA3 hv1 h14.1 h14.2 ?_
      refine r_iconst x_111_203 ?_
      refine r_ic_ne x_111_204 (t := 215) (by decide +kernel) (hok.1 _ _) (g_Rk rfl) (fun hc => ?_) (fun hc => ?_)
      · replace h := h.2 hc
        refine r_iload_n x_111_215 rfl ?_
        refine r_iload_n x_111_216 rfl ?_
        refine r_iadd x_111_217 ?_
        obtain ⟨h15, h⟩ := h
        exact r_retI x_111_218 rfl h15 h
      · replace h := h.1 hc
        refine r_iload_n x_111_207 rfl ?_
        refine r_iconst x_111_208 ?_
        refine r_iadd x_111_209 ?_
        obtain ⟨h16, h⟩ := h
        refine r_iload_n x_111_210 rfl ?_
        refine r_iadd x_111_211 ?_
        obtain ⟨h17, h⟩ := h
        refine r_goto x_111_212 (t := 218) (by decide +kernel) ?_
        exact r_retI x_111_218 rfl h17 h
    · replace h := h.1 hc
      refine r_aload_n x_111_154 rfl ?_
      refine r_alen x_111_155 hA3 ?_
      obtain ⟨h18, h⟩ := h
      exact r_retI x_111_156 rfl h18 h
  replace h := h.2 hk19
  by_cases hk34 : g_i M a0 v1 = 3
  · refine r_tableAt x_111_44 hk34 (t := 141) (g_Rk rfl) (by decide +kernel) ?_
    replace h := h.1 hk34
    refine r_goto x_111_141 (t := 146) (by decide +kernel) ?_
    refine r_iload_n x_111_146 rfl ?_
    refine r_iconst x_111_147 ?_
    refine r_iadd x_111_148 ?_
    obtain ⟨h20, h⟩ := h
    refine r_aload_n x_111_149 rfl ?_
    refine r_alen x_111_150 hA3 ?_
    obtain ⟨h21, h⟩ := h
    refine r_ic_le x_111_151 (t := 157) (by decide +kernel) h20 h21 (fun hc => ?_) (fun hc => ?_)
    · replace h := h.2 hc
      refine r_aload_n x_111_157 rfl ?_
      refine r_iload_n x_111_158 rfl ?_
      obtain ⟨h22, h⟩ := h
      refine r_bald x_111_159 (Or.inl rfl) hA3 h1 h22.1 h22.2 ?_
      refine r_sipush x_111_160 (x := 255) rfl ?_
      refine r_iand x_111_163 ?_
      refine r_aload_n x_111_164 rfl ?_
      refine r_iload_n x_111_165 rfl ?_
      refine r_iconst x_111_166 ?_
      refine r_iadd x_111_167 ?_
      obtain ⟨h23, h⟩ := h
      obtain ⟨h24, h⟩ := h
      refine r_bald x_111_168 (Or.inl rfl) hA3 h23 h24.1 h24.2 ?_
      refine r_sipush x_111_169 (x := 255) rfl ?_
      refine r_iand x_111_172 ?_
      refine r_bipush x_111_173 (x := 8) rfl ?_
      refine r_ishl x_111_175 ?_
      refine r_ior x_111_176 ?_
      refine r_aload_n x_111_177 rfl ?_
      refine r_iload_n x_111_178 rfl ?_
      refine r_iconst x_111_179 ?_
      refine r_iadd x_111_180 ?_
      obtain ⟨h25, h⟩ := h
      obtain ⟨h26, h⟩ := h
      refine r_bald x_111_181 (Or.inl rfl) hA3 h25 h26.1 h26.2 ?_
      refine r_sipush x_111_182 (x := 255) rfl ?_
      refine r_iand x_111_185 ?_
      refine r_bipush x_111_186 (x := 16) rfl ?_
      refine r_ishl x_111_188 ?_
      refine r_ior x_111_189 ?_
      refine r_aload_n x_111_190 rfl ?_
      refine r_iload_n x_111_191 rfl ?_
      refine r_iconst x_111_192 ?_
      refine r_iadd x_111_193 ?_
      obtain ⟨h27, h⟩ := h
      obtain ⟨h28, h⟩ := h
      refine r_bald x_111_194 (Or.inl rfl) hA3 h27 h28.1 h28.2 ?_
      refine r_bipush x_111_195 (x := 24) rfl ?_
      refine r_ishl x_111_197 ?_
      refine r_ior x_111_198 ?_
      refine r_istore_n x_111_199 (by decide +kernel) rfl (lv1 := [(0, .ref a0), (1, g_n v1), (2, g_n (v2 + 1)), (3, g_n (g_or (g_or (g_or (g_and (g_i M a0 (v2 + 1)) 255) (g_shl (g_and (g_i M a0 ((v2 + 1) + 1)) 255) 8)) (g_shl (g_and (g_i M a0 ((v2 + 1) + 2)) 255) 16)) (g_shl (g_i M a0 ((v2 + 1) + 3)) 24)))]) rfl ?_
      refine r_aload_n x_111_200 rfl ?_
      refine r_iload_n x_111_201 rfl ?_
      obtain ⟨h29, h⟩ := h
      refine r_bald x_111_202 (Or.inl rfl) hA3 hv1 h29.1 h29.2 ?_
      refine r_iconst x_111_203 ?_
      refine r_ic_ne x_111_204 (t := 215) (by decide +kernel) (hok.1 _ _) (g_Rk rfl) (fun hc => ?_) (fun hc => ?_)
      · replace h := h.2 hc
        refine r_iload_n x_111_215 rfl ?_
        refine r_iload_n x_111_216 rfl ?_
        refine r_iadd x_111_217 ?_
        obtain ⟨h30, h⟩ := h
        exact r_retI x_111_218 rfl h30 h
      · replace h := h.1 hc
        refine r_iload_n x_111_207 rfl ?_
        refine r_iconst x_111_208 ?_
        refine r_iadd x_111_209 ?_
        obtain ⟨h31, h⟩ := h
        refine r_iload_n x_111_210 rfl ?_
        refine r_iadd x_111_211 ?_
        obtain ⟨h32, h⟩ := h
        refine r_goto x_111_212 (t := 218) (by decide +kernel) ?_
        exact r_retI x_111_218 rfl h32 h
    · replace h := h.1 hc
      refine r_aload_n x_111_154 rfl ?_
      refine r_alen x_111_155 hA3 ?_
      obtain ⟨h33, h⟩ := h
      exact r_retI x_111_156 rfl h33 h
  replace h := h.2 hk34
  by_cases hk49 : g_i M a0 v1 = 4
  · refine r_tableAt x_111_44 hk49 (t := 141) (g_Rk rfl) (by decide +kernel) ?_
    replace h := h.1 hk49
    refine r_goto x_111_141 (t := 146) (by decide +kernel) ?_
    refine r_iload_n x_111_146 rfl ?_
    refine r_iconst x_111_147 ?_
    refine r_iadd x_111_148 ?_
    obtain ⟨h35, h⟩ := h
    refine r_aload_n x_111_149 rfl ?_
    refine r_alen x_111_150 hA3 ?_
    obtain ⟨h36, h⟩ := h
    refine r_ic_le x_111_151 (t := 157) (by decide +kernel) h35 h36 (fun hc => ?_) (fun hc => ?_)
    · replace h := h.2 hc
      refine r_aload_n x_111_157 rfl ?_
      refine r_iload_n x_111_158 rfl ?_
      obtain ⟨h37, h⟩ := h
      refine r_bald x_111_159 (Or.inl rfl) hA3 h1 h37.1 h37.2 ?_
      refine r_sipush x_111_160 (x := 255) rfl ?_
      refine r_iand x_111_163 ?_
      refine r_aload_n x_111_164 rfl ?_
      refine r_iload_n x_111_165 rfl ?_
      refine r_iconst x_111_166 ?_
      refine r_iadd x_111_167 ?_
      obtain ⟨h38, h⟩ := h
      obtain ⟨h39, h⟩ := h
      refine r_bald x_111_168 (Or.inl rfl) hA3 h38 h39.1 h39.2 ?_
      refine r_sipush x_111_169 (x := 255) rfl ?_
      refine r_iand x_111_172 ?_
      refine r_bipush x_111_173 (x := 8) rfl ?_
      refine r_ishl x_111_175 ?_
      refine r_ior x_111_176 ?_
      refine r_aload_n x_111_177 rfl ?_
      refine r_iload_n x_111_178 rfl ?_
      refine r_iconst x_111_179 ?_
      refine r_iadd x_111_180 ?_
      obtain ⟨h40, h⟩ := h
      obtain ⟨h41, h⟩ := h
      refine r_bald x_111_181 (Or.inl rfl) hA3 h40 h41.1 h41.2 ?_
      refine r_sipush x_111_182 (x := 255) rfl ?_
      refine r_iand x_111_185 ?_
      refine r_bipush x_111_186 (x := 16) rfl ?_
      refine r_ishl x_111_188 ?_
      refine r_ior x_111_189 ?_
      refine r_aload_n x_111_190 rfl ?_
      refine r_iload_n x_111_191 rfl ?_
      refine r_iconst x_111_192 ?_
      refine r_iadd x_111_193 ?_
      obtain ⟨h42, h⟩ := h
      obtain ⟨h43, h⟩ := h
      refine r_bald x_111_194 (Or.inl rfl) hA3 h42 h43.1 h43.2 ?_
      refine r_bipush x_111_195 (x := 24) rfl ?_
      refine r_ishl x_111_197 ?_
      refine r_ior x_111_198 ?_
      refine r_istore_n x_111_199 (by decide +kernel) rfl (lv1 := [(0, .ref a0), (1, g_n v1), (2, g_n (v2 + 1)), (3, g_n (g_or (g_or (g_or (g_and (g_i M a0 (v2 + 1)) 255) (g_shl (g_and (g_i M a0 ((v2 + 1) + 1)) 255) 8)) (g_shl (g_and (g_i M a0 ((v2 + 1) + 2)) 255) 16)) (g_shl (g_i M a0 ((v2 + 1) + 3)) 24)))]) rfl ?_
      refine r_aload_n x_111_200 rfl ?_
      refine r_iload_n x_111_201 rfl ?_
      obtain ⟨h44, h⟩ := h
      refine r_bald x_111_202 (Or.inl rfl) hA3 hv1 h44.1 h44.2 ?_
      refine r_iconst x_111_203 ?_
      refine r_ic_ne x_111_204 (t := 215) (by decide +kernel) (hok.1 _ _) (g_Rk rfl) (fun hc => ?_) (fun hc => ?_)
      · replace h := h.2 hc
        refine r_iload_n x_111_215 rfl ?_
        refine r_iload_n x_111_216 rfl ?_
        refine r_iadd x_111_217 ?_
        obtain ⟨h45, h⟩ := h
        exact r_retI x_111_218 rfl h45 h
      · replace h := h.1 hc
        refine r_iload_n x_111_207 rfl ?_
        refine r_iconst x_111_208 ?_
        refine r_iadd x_111_209 ?_
        obtain ⟨h46, h⟩ := h
        refine r_iload_n x_111_210 rfl ?_
        refine r_iadd x_111_211 ?_
        obtain ⟨h47, h⟩ := h
        refine r_goto x_111_212 (t := 218) (by decide +kernel) ?_
        exact r_retI x_111_218 rfl h47 h
    · replace h := h.1 hc
      refine r_aload_n x_111_154 rfl ?_
      refine r_alen x_111_155 hA3 ?_
      obtain ⟨h48, h⟩ := h
      exact r_retI x_111_156 rfl h48 h
  replace h := h.2 hk49
  by_cases hk50 : g_i M a0 v1 = 5
  · refine r_tableAt x_111_44 hk50 (t := 144) (g_Rk rfl) (by decide +kernel) ?_
    replace h := h.1 hk50
    refine r_iload_n x_111_144 rfl ?_
    exact r_retI x_111_145 rfl h1 h
  replace h := h.2 hk50
  by_cases hk51 : g_i M a0 v1 = 6
  · refine r_tableAt x_111_44 hk51 (t := 144) (g_Rk rfl) (by decide +kernel) ?_
    replace h := h.1 hk51
    refine r_iload_n x_111_144 rfl ?_
    exact r_retI x_111_145 rfl h1 h
  replace h := h.2 hk51
  by_cases hk52 : g_i M a0 v1 = 7
  · refine r_tableAt x_111_44 hk52 (t := 144) (g_Rk rfl) (by decide +kernel) ?_
    replace h := h.1 hk52
    refine r_iload_n x_111_144 rfl ?_
    exact r_retI x_111_145 rfl h1 h
  replace h := h.2 hk52
  by_cases hk54 : g_i M a0 v1 = 8
  · refine r_tableAt x_111_44 hk54 (t := 137) (g_Rk rfl) (by decide +kernel) ?_
    replace h := h.1 hk54
    refine r_iload_n x_111_137 rfl ?_
    refine r_iconst x_111_138 ?_
    refine r_iadd x_111_139 ?_
    obtain ⟨h53, h⟩ := h
    exact r_retI x_111_140 rfl h53 h
  replace h := h.2 hk54
  by_cases hk55 : g_i M a0 v1 = 9
  · refine r_tableAt x_111_44 hk55 (t := 144) (g_Rk rfl) (by decide +kernel) ?_
    replace h := h.1 hk55
    refine r_iload_n x_111_144 rfl ?_
    exact r_retI x_111_145 rfl h1 h
  replace h := h.2 hk55
  by_cases hk56 : g_i M a0 v1 = 10
  · refine r_tableAt x_111_44 hk56 (t := 144) (g_Rk rfl) (by decide +kernel) ?_
    replace h := h.1 hk56
    refine r_iload_n x_111_144 rfl ?_
    exact r_retI x_111_145 rfl h1 h
  replace h := h.2 hk56
  by_cases hk57 : g_i M a0 v1 = 11
  · refine r_tableAt x_111_44 hk57 (t := 144) (g_Rk rfl) (by decide +kernel) ?_
    replace h := h.1 hk57
    refine r_iload_n x_111_144 rfl ?_
    exact r_retI x_111_145 rfl h1 h
  replace h := h.2 hk57
  by_cases hk58 : g_i M a0 v1 = 12
  · refine r_tableAt x_111_44 hk58 (t := 144) (g_Rk rfl) (by decide +kernel) ?_
    replace h := h.1 hk58
    refine r_iload_n x_111_144 rfl ?_
    exact r_retI x_111_145 rfl h1 h
  replace h := h.2 hk58
  by_cases hk59 : g_i M a0 v1 = 13
  · refine r_tableAt x_111_44 hk59 (t := 144) (g_Rk rfl) (by decide +kernel) ?_
    replace h := h.1 hk59
    refine r_iload_n x_111_144 rfl ?_
    exact r_retI x_111_145 rfl h1 h
  replace h := h.2 hk59
  by_cases hk60 : g_i M a0 v1 = 14
  · refine r_tableAt x_111_44 hk60 (t := 144) (g_Rk rfl) (by decide +kernel) ?_
    replace h := h.1 hk60
    refine r_iload_n x_111_144 rfl ?_
    exact r_retI x_111_145 rfl h1 h
  replace h := h.2 hk60
  by_cases hk61 : g_i M a0 v1 = 15
  · refine r_tableAt x_111_44 hk61 (t := 144) (g_Rk rfl) (by decide +kernel) ?_
    replace h := h.1 hk61
    refine r_iload_n x_111_144 rfl ?_
    exact r_retI x_111_145 rfl h1 h
  replace h := h.2 hk61
  by_cases hk63 : g_i M a0 v1 = 16
  · refine r_tableAt x_111_44 hk63 (t := 128) (g_Rk rfl) (by decide +kernel) ?_
    replace h := h.1 hk63
    refine r_iload_n x_111_128 rfl ?_
    refine r_iconst x_111_129 ?_
    refine r_iadd x_111_130 ?_
    obtain ⟨h62, h⟩ := h
    exact r_retI x_111_131 rfl h62 h
  replace h := h.2 hk63
  by_cases hk64 : g_i M a0 v1 = 17
  · refine r_tableAt x_111_44 hk64 (t := 144) (g_Rk rfl) (by decide +kernel) ?_
    replace h := h.1 hk64
    refine r_iload_n x_111_144 rfl ?_
    exact r_retI x_111_145 rfl h1 h
  replace h := h.2 hk64
  by_cases hk66 : g_i M a0 v1 = 18
  · refine r_tableAt x_111_44 hk66 (t := 132) (g_Rk rfl) (by decide +kernel) ?_
    replace h := h.1 hk66
    refine r_iload_n x_111_132 rfl ?_
    refine r_bipush x_111_133 (x := 8) rfl ?_
    refine r_iadd x_111_135 ?_
    obtain ⟨h65, h⟩ := h
    exact r_retI x_111_136 rfl h65 h
  replace h := h.2 hk66
  refine r_tableD x_111_44 (hok.1 _ _) (t := 144) (lo := 2) (hi := 18) (by omega) (by decide +kernel) ?_
  refine r_iload_n x_111_144 rfl ?_
  exact r_retI x_111_145 rfl h1 h
theorem m_X7_first {d : Nat} {M : g_M} {Q : Int → g_M → Prop} {a0 : Nat} {v1 : Int} (hv1 : g_InR v1) (h : g_ok M → ((v1 < 0 → ∃ n1, g_A M a0 0 n1 ∧ g_InR n1 ∧ g_Run d 112 11 [(0, .ref a0), (1, g_n v1), (2, g_n n1)] [] M (g_qI Q)) ∧ (¬ v1 < 0 → g_Run d 112 11 [(0, .ref a0), (1, g_n v1), (2, g_n v1)] [] M (g_qI Q)))) : g_Call (d + 1) 112 [.ref a0, g_n v1] M (g_qI Q) := by
  refine g_Call.ok fun hok0 => ?_
  replace h := h hok0
  refine r_body rfl (lv := [(0, .ref a0), (1, g_n v1)]) rfl ?_
  refine g_Run.ok fun hok => ?_
  refine r_iload_n x_112_0 rfl ?_
  refine r_if_ge x_112_1 (t := 9) (by decide +kernel) hv1 (fun hc => ?_) (fun hc => ?_)
  · replace h := h.2 hc
    refine r_iload_n x_112_9 rfl ?_
    refine r_istore_n x_112_10 (by decide +kernel) rfl (lv1 := [(0, .ref a0), (1, g_n v1), (2, g_n v1)]) rfl ?_
    exact h
  · replace h := h.1 hc
    refine r_aload_n x_112_4 rfl ?_
    obtain ⟨n1, hA2, h⟩ := h
    refine r_alen x_112_5 hA2 ?_
    obtain ⟨h3, h⟩ := h
    refine r_goto x_112_6 (t := 10) (by decide +kernel) ?_
    refine r_istore_n x_112_10 (by decide +kernel) rfl (lv1 := [(0, .ref a0), (1, g_n v1), (2, g_n n1)]) rfl ?_
    exact h
theorem s_X7_first_11 {d : Nat} {M : g_M} {Q : Int → g_M → Prop} {a0 : Nat} {v1 : Int} (hv1 : g_InR v1) {v2 : Int} (hv2 : g_InR v2) (h : g_ok M → ∃ n1, g_A M a0 0 n1 ∧ g_InR n1 ∧ g_InR (n1 - 1) ∧ ((v2 < n1 - 1 → g_InR (v2 + 1) ∧ ((0 : Int) ≤ v2 + 1 ∧ (v2 + 1 : Int) < n1) ∧ ((g_i M a0 (v2 + 1) = 0 → g_InR (v2 + 6) ∧ Q (v2 + 6) M) ∧ (¬ g_i M a0 (v2 + 1) = 0 → g_InR (v2 + 1) ∧ g_Run d 112 11 [(0, .ref a0), (1, g_n v1), (2, g_n (v2 + 1))] [] M (g_qI Q)))) ∧ (¬ v2 < n1 - 1 → g_InR n1 ∧ Q n1 M))) : g_Run d 112 11 [(0, .ref a0), (1, g_n v1), (2, g_n v2)] [] M (g_qI Q) := by
  refine g_Run.ok fun hok => ?_
  replace h := h hok
  refine r_iload_n x_112_11 rfl ?_
  refine r_aload_n x_112_12 rfl ?_
  obtain ⟨n1, hA2, h⟩ := h
  refine r_alen x_112_13 hA2 ?_
  obtain ⟨h3, h⟩ := h
  refine r_iconst x_112_14 ?_
  refine r_isub x_112_15 ?_
  obtain ⟨h4, h⟩ := h
  refine r_ic_ge x_112_16 (t := 38) (by decide +kernel) hv2 h4 (fun hc => ?_) (fun hc => ?_)
  · replace h := h.2 hc
    refine r_aload_n x_112_38 rfl ?_
    refine r_alen x_112_39 hA2 ?_
    obtain ⟨h5, h⟩ := h
    exact r_retI x_112_40 rfl h5 h
  · replace h := h.1 hc
    refine r_aload_n x_112_19 rfl ?_
    refine r_iload_n x_112_20 rfl ?_
    refine r_iconst x_112_21 ?_
    refine r_iadd x_112_22 ?_
    obtain ⟨h6, h⟩ := h
    obtain ⟨h7, h⟩ := h
    refine r_bald x_112_23 (Or.inl rfl) hA2 h6 h7.1 h7.2 ?_
    refine r_if_ne x_112_24 (t := 32) (by decide +kernel) (hok.1 _ _) (fun hc => ?_) (fun hc => ?_)
    · replace h := h.2 hc
      obtain ⟨h8, h⟩ := h
      refine r_iinc x_112_32 (by decide +kernel) rfl rfl (lv1 := [(0, .ref a0), (1, g_n v1), (2, g_n (v2 + 1))]) rfl ?_
      refine r_goto x_112_35 (t := 11) (by decide +kernel) ?_
      exact h
    · replace h := h.1 hc
      refine r_iload_n x_112_27 rfl ?_
      refine r_bipush x_112_28 (x := 6) rfl ?_
      refine r_iadd x_112_30 ?_
      obtain ⟨h9, h⟩ := h
      exact r_retI x_112_31 rfl h9 h
theorem m_X7_items {d : Nat} {M : g_M} {Q : Int → g_M → Prop} {a0 : Nat} {v1 : Int} (hv1 : g_InR v1) (h : g_ok M → g_Call d 112 [.ref a0, g_n v1] M (g_qI fun r4 M1 => g_ext M M1 → g_ok M1 → g_InR r4 → g_Run d 113 11 [(0, .ref a0), (1, g_n v1), (2, g_n 0), (3, g_n r4), (4, g_n 0)] [] M1 (g_qI Q))) : g_Call (d + 1) 113 [.ref a0, g_n v1] M (g_qI Q) := by
  refine g_Call.ok fun hok0 => ?_
  replace h := h hok0
  refine r_body rfl (lv := [(0, .ref a0), (1, g_n v1)]) rfl ?_
  refine g_Run.ok fun hok => ?_
  refine r_iconst x_113_0 ?_
  refine r_istore_n x_113_1 (by decide +kernel) rfl (lv1 := [(0, .ref a0), (1, g_n v1), (2, g_n 0)]) rfl ?_
  refine r_aload_n x_113_2 rfl ?_
  refine r_iload_n x_113_3 rfl ?_
  refine r_invS x_113_4 (z := 112) (ns := 0) (by decide +kernel) (as := [.ref a0, g_n v1]) (r := []) rfl rfl rfl ?_
  refine r_callI h fun r4 M1 hx2 hok3 hr5 h => ?_
  replace h := h hx2 hok3 hr5
  refine r_istore_n x_113_7 (by decide +kernel) rfl (lv1 := [(0, .ref a0), (1, g_n v1), (2, g_n 0), (3, g_n r4)]) rfl ?_
  refine r_iconst x_113_8 ?_
  refine r_istore x_113_9 (by decide +kernel) rfl (lv1 := [(0, .ref a0), (1, g_n v1), (2, g_n 0), (3, g_n r4), (4, g_n 0)]) rfl ?_
  exact h
theorem s_X7_items_11 {d : Nat} {M : g_M} {Q : Int → g_M → Prop} {a0 : Nat} {v1 : Int} (hv1 : g_InR v1) {v2 : Int} (hv2 : g_InR v2) {v3 : Int} (hv3 : g_InR v3) {v4 : Int} (hv4 : g_InR v4) (h : g_ok M → ((v4 < 100000 → g_Call d 108 [.ref a0, g_n v3] M (g_qI fun r4 M1 => g_ext M M1 → g_ok M1 → g_InR r4 → ((r4 = 0 → Q v2 M1) ∧ (¬ r4 = 0 → g_InR (v2 + 1) ∧ g_Call d 111 [.ref a0, g_n v3] M1 (g_qI fun r10 M7 => g_ext M1 M7 → g_ok M7 → g_InR r10 → g_InR (v4 + 1) ∧ g_Run d 113 11 [(0, .ref a0), (1, g_n v1), (2, g_n (v2 + 1)), (3, g_n r10), (4, g_n (v4 + 1))] [] M7 (g_qI Q)))))) ∧ (¬ v4 < 100000 → Q v2 M))) : g_Run d 113 11 [(0, .ref a0), (1, g_n v1), (2, g_n v2), (3, g_n v3), (4, g_n v4)] [] M (g_qI Q) := by
  refine g_Run.ok fun hok => ?_
  replace h := h hok
  refine r_iload x_113_11 rfl ?_
  refine r_ldc x_113_13 (v := g_n 100000) rfl ?_
  refine r_ic_ge x_113_15 (t := 41) (by decide +kernel) hv4 (g_Rk rfl) (fun hc => ?_) (fun hc => ?_)
  · replace h := h.2 hc
    refine r_iload_n x_113_41 rfl ?_
    exact r_retI x_113_42 rfl hv2 h
  · replace h := h.1 hc
    refine r_aload_n x_113_18 rfl ?_
    refine r_iload_n x_113_19 rfl ?_
    refine r_invS x_113_20 (z := 108) (ns := 0) (by decide +kernel) (as := [.ref a0, g_n v3]) (r := []) rfl rfl rfl ?_
    refine r_callI h fun r4 M1 hx2 hok3 hr5 h => ?_
    replace h := h hx2 hok3 hr5
    refine r_if_eq x_113_23 (t := 41) (by decide +kernel) hr5 (fun hc => ?_) (fun hc => ?_)
    · replace h := h.1 hc
      refine r_iload_n x_113_41 rfl ?_
      exact r_retI x_113_42 rfl hv2 h
    · replace h := h.2 hc
      obtain ⟨h6, h⟩ := h
      refine r_iinc x_113_26 (by decide +kernel) rfl rfl (lv1 := [(0, .ref a0), (1, g_n v1), (2, g_n (v2 + 1)), (3, g_n v3), (4, g_n v4)]) rfl ?_
      refine r_aload_n x_113_29 rfl ?_
      refine r_iload_n x_113_30 rfl ?_
      refine r_invS x_113_31 (z := 111) (ns := 0) (by decide +kernel) (as := [.ref a0, g_n v3]) (r := []) rfl rfl rfl ?_
      refine r_callI h fun r10 M7 hx8 hok9 hr11 h => ?_
      replace h := h hx8 hok9 hr11
      refine r_istore_n x_113_34 (by decide +kernel) rfl (lv1 := [(0, .ref a0), (1, g_n v1), (2, g_n (v2 + 1)), (3, g_n r10), (4, g_n v4)]) rfl ?_
      obtain ⟨h12, h⟩ := h
      refine r_iinc x_113_35 (by decide +kernel) rfl rfl (lv1 := [(0, .ref a0), (1, g_n v1), (2, g_n (v2 + 1)), (3, g_n r10), (4, g_n (v4 + 1))]) rfl ?_
      refine r_goto x_113_38 (t := 11) (by decide +kernel) ?_
      exact h
theorem m_X7_find {d : Nat} {M : g_M} {Q : Int → g_M → Prop} {a0 : Nat} {v1 : Int} (hv1 : g_InR v1) {a2 : Nat} {v3 : Int} (hv3 : g_InR v3) {v4 : Int} (hv4 : g_InR v4) (h : g_ok M → g_Call d 112 [.ref a0, g_n v1] M (g_qI fun r4 M1 => g_ext M M1 → g_ok M1 → g_InR r4 → g_Run d 114 10 [(0, .ref a0), (1, g_n v1), (2, .ref a2), (3, g_n v3), (4, g_n v4), (5, g_n r4), (6, g_n 0)] [] M1 (g_qI Q))) : g_Call (d + 1) 114 [.ref a0, g_n v1, .ref a2, g_n v3, g_n v4] M (g_qI Q) := by
  refine g_Call.ok fun hok0 => ?_
  replace h := h hok0
  refine r_body rfl (lv := [(0, .ref a0), (1, g_n v1), (2, .ref a2), (3, g_n v3), (4, g_n v4)]) rfl ?_
  refine g_Run.ok fun hok => ?_
  refine r_aload_n x_114_0 rfl ?_
  refine r_iload_n x_114_1 rfl ?_
  refine r_invS x_114_2 (z := 112) (ns := 0) (by decide +kernel) (as := [.ref a0, g_n v1]) (r := []) rfl rfl rfl ?_
  refine r_callI h fun r4 M1 hx2 hok3 hr5 h => ?_
  replace h := h hx2 hok3 hr5
  refine r_istore x_114_5 (by decide +kernel) rfl (lv1 := [(0, .ref a0), (1, g_n v1), (2, .ref a2), (3, g_n v3), (4, g_n v4), (5, g_n r4)]) rfl ?_
  refine r_iconst x_114_7 ?_
  refine r_istore x_114_8 (by decide +kernel) rfl (lv1 := [(0, .ref a0), (1, g_n v1), (2, .ref a2), (3, g_n v3), (4, g_n v4), (5, g_n r4), (6, g_n 0)]) rfl ?_
  exact h
theorem s_X7_find_10 {d : Nat} {M : g_M} {Q : Int → g_M → Prop} {a0 : Nat} {v1 : Int} (hv1 : g_InR v1) {a2 : Nat} {v3 : Int} (hv3 : g_InR v3) {v4 : Int} (hv4 : g_InR v4) {v5 : Int} (hv5 : g_InR v5) {v6 : Int} (hv6 : g_InR v6) (h : g_ok M → ((v6 < 100000 → g_Call d 108 [.ref a0, g_n v5] M (g_qI fun r4 M1 => g_ext M M1 → g_ok M1 → g_InR r4 → ((r4 = 0 → Q ((-1)) M1) ∧ (¬ r4 = 0 → g_InR (v5 + 1) ∧ g_Call d 110 [.ref a0, g_n v5] M1 (g_qI fun r10 M7 => g_ext M1 M7 → g_ok M7 → g_InR r10 → g_InR (r10 - 1) ∧ g_Call d 123 [.ref a0, g_n (v5 + 1), g_n (r10 - 1), .ref a2, g_n v3, g_n v4] M7 (g_qI fun r16 M13 => g_ext M7 M13 → g_ok M13 → g_InR r16 → ((r16 = 0 → Q v5 M13) ∧ (¬ r16 = 0 → g_Call d 111 [.ref a0, g_n v5] M13 (g_qI fun r21 M18 => g_ext M13 M18 → g_ok M18 → g_InR r21 → g_InR (v6 + 1) ∧ g_Run d 114 10 [(0, .ref a0), (1, g_n v1), (2, .ref a2), (3, g_n v3), (4, g_n v4), (5, g_n r21), (6, g_n (v6 + 1))] [] M18 (g_qI Q)))))))))) ∧ (¬ v6 < 100000 → Q ((-1)) M))) : g_Run d 114 10 [(0, .ref a0), (1, g_n v1), (2, .ref a2), (3, g_n v3), (4, g_n v4), (5, g_n v5), (6, g_n v6)] [] M (g_qI Q) := by
  refine g_Run.ok fun hok => ?_
  replace h := h hok
  refine r_iload x_114_10 rfl ?_
  refine r_ldc x_114_12 (v := g_n 100000) rfl ?_
  refine r_ic_ge x_114_14 (t := 66) (by decide +kernel) hv6 (g_Rk rfl) (fun hc => ?_) (fun hc => ?_)
  · replace h := h.2 hc
    refine r_iconst x_114_66 ?_
    exact r_retI x_114_67 rfl (g_Rk rfl) h
  · replace h := h.1 hc
    refine r_aload_n x_114_17 rfl ?_
    refine r_iload x_114_18 rfl ?_
    refine r_invS x_114_20 (z := 108) (ns := 0) (by decide +kernel) (as := [.ref a0, g_n v5]) (r := []) rfl rfl rfl ?_
    refine r_callI h fun r4 M1 hx2 hok3 hr5 h => ?_
    replace h := h hx2 hok3 hr5
    refine r_if_eq x_114_23 (t := 66) (by decide +kernel) hr5 (fun hc => ?_) (fun hc => ?_)
    · replace h := h.1 hc
      refine r_iconst x_114_66 ?_
      exact r_retI x_114_67 rfl (g_Rk rfl) h
    · replace h := h.2 hc
      refine r_aload_n x_114_26 rfl ?_
      refine r_iload x_114_27 rfl ?_
      refine r_iconst x_114_29 ?_
      refine r_iadd x_114_30 ?_
      obtain ⟨h6, h⟩ := h
      refine r_aload_n x_114_31 rfl ?_
      refine r_iload x_114_32 rfl ?_
      refine r_invS x_114_34 (z := 110) (ns := 0) (by decide +kernel) (as := [.ref a0, g_n v5]) (r := [g_n (v5 + 1), .ref a0]) rfl rfl rfl ?_
      refine r_callI h fun r10 M7 hx8 hok9 hr11 h => ?_
      replace h := h hx8 hok9 hr11
      refine r_iconst x_114_37 ?_
      refine r_isub x_114_38 ?_
      obtain ⟨h12, h⟩ := h
      refine r_aload_n x_114_39 rfl ?_
      refine r_iload_n x_114_40 rfl ?_
      refine r_iload x_114_41 rfl ?_
      refine r_invS x_114_43 (z := 123) (ns := 0) (by decide +kernel) (as := [.ref a0, g_n (v5 + 1), g_n (r10 - 1), .ref a2, g_n v3, g_n v4]) (r := []) rfl rfl rfl ?_
      refine r_callI h fun r16 M13 hx14 hok15 hr17 h => ?_
      replace h := h hx14 hok15 hr17
      refine r_if_ne x_114_46 (t := 52) (by decide +kernel) hr17 (fun hc => ?_) (fun hc => ?_)
      · replace h := h.2 hc
        refine r_aload_n x_114_52 rfl ?_
        refine r_iload x_114_53 rfl ?_
        refine r_invS x_114_55 (z := 111) (ns := 0) (by decide +kernel) (as := [.ref a0, g_n v5]) (r := []) rfl rfl rfl ?_
        refine r_callI h fun r21 M18 hx19 hok20 hr22 h => ?_
        replace h := h hx19 hok20 hr22
        refine r_istore x_114_58 (by decide +kernel) rfl (lv1 := [(0, .ref a0), (1, g_n v1), (2, .ref a2), (3, g_n v3), (4, g_n v4), (5, g_n r21), (6, g_n v6)]) rfl ?_
        obtain ⟨h23, h⟩ := h
        refine r_iinc x_114_60 (by decide +kernel) rfl rfl (lv1 := [(0, .ref a0), (1, g_n v1), (2, .ref a2), (3, g_n v3), (4, g_n v4), (5, g_n r21), (6, g_n (v6 + 1))]) rfl ?_
        refine r_goto x_114_63 (t := 10) (by decide +kernel) ?_
        exact h
      · replace h := h.1 hc
        refine r_iload x_114_49 rfl ?_
        exact r_retI x_114_51 rfl hv5 h
theorem m_X7_named {d : Nat} {M : g_M} {Q : Int → g_M → Prop} {a0 : Nat} {v1 : Int} (hv1 : g_InR v1) {j2 : Nat} (hj2 : j2 < q_nS) (h : g_ok M → g_Call d 433 [.ref (4 * j2 + 1)] M (g_qI fun r4 M1 => g_ext M M1 → g_ok M1 → g_InR r4 → ((v1 < 0 → Q 0 M1) ∧ (¬ v1 < 0 → g_InR (v1 + 1) ∧ g_InR ((v1 + 1) + r4) ∧ ∃ n8, g_A M1 a0 0 n8 ∧ g_InR n8 ∧ (((v1 + 1) + r4 < n8 → g_Run d 115 24 [(0, .ref a0), (1, g_n v1), (2, .ref (4 * j2 + 1)), (3, g_n r4), (4, g_n 0)] [] M1 (g_qI Q)) ∧ (¬ (v1 + 1) + r4 < n8 → Q 0 M1)))))) : g_Call (d + 1) 115 [.ref a0, g_n v1, .ref (4 * j2 + 1)] M (g_qI Q) := by
  refine g_Call.ok fun hok0 => ?_
  replace h := h hok0
  refine r_body rfl (lv := [(0, .ref a0), (1, g_n v1), (2, .ref (4 * j2 + 1))]) rfl ?_
  refine g_Run.ok fun hok => ?_
  refine r_aload_n x_115_0 rfl ?_
  refine r_invT x_115_1 (z := 433) (ns := 0) (by decide +kernel) (as := []) (r := []) rfl rfl hj2 rfl rfl ?_
  refine r_callI h fun r4 M1 hx2 hok3 hr5 h => ?_
  replace h := h hx2 hok3 hr5
  refine r_istore_n x_115_4 (by decide +kernel) rfl (lv1 := [(0, .ref a0), (1, g_n v1), (2, .ref (4 * j2 + 1)), (3, g_n r4)]) rfl ?_
  refine r_iload_n x_115_5 rfl ?_
  refine r_if_lt x_115_6 (t := 19) (by decide +kernel) hv1 (fun hc => ?_) (fun hc => ?_)
  · replace h := h.1 hc
    refine r_iconst x_115_19 ?_
    exact r_retZ x_115_20 rfl (Or.inl rfl) h
  · replace h := h.2 hc
    refine r_iload_n x_115_9 rfl ?_
    refine r_iconst x_115_10 ?_
    refine r_iadd x_115_11 ?_
    obtain ⟨h6, h⟩ := h
    refine r_iload_n x_115_12 rfl ?_
    refine r_iadd x_115_13 ?_
    obtain ⟨h7, h⟩ := h
    refine r_aload_n x_115_14 rfl ?_
    obtain ⟨n8, hA9, h⟩ := h
    refine r_alen x_115_15 hA9 ?_
    obtain ⟨h10, h⟩ := h
    refine r_ic_lt x_115_16 (t := 21) (by decide +kernel) h7 h10 (fun hc => ?_) (fun hc => ?_)
    · replace h := h.1 hc
      refine r_iconst x_115_21 ?_
      refine r_istore x_115_22 (by decide +kernel) rfl (lv1 := [(0, .ref a0), (1, g_n v1), (2, .ref (4 * j2 + 1)), (3, g_n r4), (4, g_n 0)]) rfl ?_
      exact h
    · replace h := h.2 hc
      refine r_iconst x_115_19 ?_
      exact r_retZ x_115_20 rfl (Or.inl rfl) h
theorem s_X7_named_24 {d : Nat} {M : g_M} {Q : Int → g_M → Prop} {a0 : Nat} {v1 : Int} (hv1 : g_InR v1) {j2 : Nat} (hj2 : j2 < q_nS) {v3 : Int} (hv3 : g_InR v3) {v4 : Int} (hv4 : g_InR v4) (h : g_ok M → ((v4 < v3 → g_InR (v1 + 1) ∧ g_InR ((v1 + 1) + v4) ∧ ∃ n8, g_A M a0 0 n8 ∧ ((0 : Int) ≤ (v1 + 1) + v4 ∧ ((v1 + 1) + v4 : Int) < n8) ∧ g_Call d 434 [.ref (4 * j2 + 1), g_n v4] M (g_qI fun r14 M11 => g_ext M M11 → g_ok M11 → g_InR r14 → ((g_i M a0 ((v1 + 1) + v4) = r14 → g_InR (v4 + 1) ∧ g_Run d 115 24 [(0, .ref a0), (1, g_n v1), (2, .ref (4 * j2 + 1)), (3, g_n v3), (4, g_n (v4 + 1))] [] M11 (g_qI Q)) ∧ (¬ g_i M a0 ((v1 + 1) + v4) = r14 → Q 0 M11)))) ∧ (¬ v4 < v3 → g_InR (v1 + 1) ∧ g_InR ((v1 + 1) + v3) ∧ ∃ n3, g_A M a0 0 n3 ∧ ((0 : Int) ≤ (v1 + 1) + v3 ∧ ((v1 + 1) + v3 : Int) < n3) ∧ ((g_i M a0 ((v1 + 1) + v3) = 0 → Q 1 M) ∧ (¬ g_i M a0 ((v1 + 1) + v3) = 0 → Q 0 M))))) : g_Run d 115 24 [(0, .ref a0), (1, g_n v1), (2, .ref (4 * j2 + 1)), (3, g_n v3), (4, g_n v4)] [] M (g_qI Q) := by
  refine g_Run.ok fun hok => ?_
  replace h := h hok
  refine r_iload x_115_24 rfl ?_
  refine r_iload_n x_115_26 rfl ?_
  refine r_ic_ge x_115_27 (t := 55) (by decide +kernel) hv4 hv3 (fun hc => ?_) (fun hc => ?_)
  · replace h := h.2 hc
    refine r_aload_n x_115_55 rfl ?_
    refine r_iload_n x_115_56 rfl ?_
    refine r_iconst x_115_57 ?_
    refine r_iadd x_115_58 ?_
    obtain ⟨h1, h⟩ := h
    refine r_iload_n x_115_59 rfl ?_
    refine r_iadd x_115_60 ?_
    obtain ⟨h2, h⟩ := h
    obtain ⟨n3, hA4, h⟩ := h
    obtain ⟨h5, h⟩ := h
    refine r_bald x_115_61 (Or.inl rfl) hA4 h2 h5.1 h5.2 ?_
    refine r_if_ne x_115_62 (t := 69) (by decide +kernel) (hok.1 _ _) (fun hc => ?_) (fun hc => ?_)
    · replace h := h.2 hc
      refine r_iconst x_115_69 ?_
      exact r_retZ x_115_70 rfl (Or.inl rfl) h
    · replace h := h.1 hc
      refine r_iconst x_115_65 ?_
      refine r_goto x_115_66 (t := 70) (by decide +kernel) ?_
      exact r_retZ x_115_70 rfl (Or.inr rfl) h
  · replace h := h.1 hc
    refine r_aload_n x_115_30 rfl ?_
    refine r_iload_n x_115_31 rfl ?_
    refine r_iconst x_115_32 ?_
    refine r_iadd x_115_33 ?_
    obtain ⟨h6, h⟩ := h
    refine r_iload x_115_34 rfl ?_
    refine r_iadd x_115_36 ?_
    obtain ⟨h7, h⟩ := h
    obtain ⟨n8, hA9, h⟩ := h
    obtain ⟨h10, h⟩ := h
    refine r_bald x_115_37 (Or.inl rfl) hA9 h7 h10.1 h10.2 ?_
    refine r_aload_n x_115_38 rfl ?_
    refine r_iload x_115_39 rfl ?_
    refine r_invT x_115_41 (z := 434) (ns := 0) (by decide +kernel) (as := [g_n v4]) (r := [g_n (g_i M a0 ((v1 + 1) + v4))]) rfl rfl hj2 rfl rfl ?_
    refine r_callI h fun r14 M11 hx12 hok13 hr15 h => ?_
    replace h := h hx12 hok13 hr15
    replace hA9 := hA9.up hx12
    refine r_ic_eq x_115_44 (t := 49) (by decide +kernel) (hok.1 _ _) hr15 (fun hc => ?_) (fun hc => ?_)
    · replace h := h.1 hc
      obtain ⟨h16, h⟩ := h
      refine r_iinc x_115_49 (by decide +kernel) rfl rfl (lv1 := [(0, .ref a0), (1, g_n v1), (2, .ref (4 * j2 + 1)), (3, g_n v3), (4, g_n (v4 + 1))]) rfl ?_
      refine r_goto x_115_52 (t := 24) (by decide +kernel) ?_
      exact h
    · replace h := h.2 hc
      refine r_iconst x_115_47 ?_
      exact r_retZ x_115_48 rfl (Or.inl rfl) h
theorem m_X7_beginsWithDollar {d : Nat} {M : g_M} {Q : Int → g_M → Prop} {a0 : Nat} {v1 : Int} (hv1 : g_InR v1) (h : g_ok M → ((v1 < 0 → Q 0 M) ∧ (¬ v1 < 0 → g_InR (v1 + 1) ∧ ∃ n2, g_A M a0 0 n2 ∧ g_InR n2 ∧ ((v1 + 1 < n2 → g_InR (v1 + 1) ∧ ((0 : Int) ≤ v1 + 1 ∧ (v1 + 1 : Int) < n2) ∧ ((g_i M a0 (v1 + 1) = 36 → Q 1 M) ∧ (¬ g_i M a0 (v1 + 1) = 36 → Q 0 M))) ∧ (¬ v1 + 1 < n2 → Q 0 M))))) : g_Call (d + 1) 116 [.ref a0, g_n v1] M (g_qI Q) := by
  refine g_Call.ok fun hok0 => ?_
  replace h := h hok0
  refine r_body rfl (lv := [(0, .ref a0), (1, g_n v1)]) rfl ?_
  refine g_Run.ok fun hok => ?_
  refine r_iload_n x_116_0 rfl ?_
  refine r_if_lt x_116_1 (t := 26) (by decide +kernel) hv1 (fun hc => ?_) (fun hc => ?_)
  · replace h := h.1 hc
    refine r_iconst x_116_26 ?_
    exact r_retZ x_116_27 rfl (Or.inl rfl) h
  · replace h := h.2 hc
    refine r_iload_n x_116_4 rfl ?_
    refine r_iconst x_116_5 ?_
    refine r_iadd x_116_6 ?_
    obtain ⟨h1, h⟩ := h
    refine r_aload_n x_116_7 rfl ?_
    obtain ⟨n2, hA3, h⟩ := h
    refine r_alen x_116_8 hA3 ?_
    obtain ⟨h4, h⟩ := h
    refine r_ic_ge x_116_9 (t := 26) (by decide +kernel) h1 h4 (fun hc => ?_) (fun hc => ?_)
    · replace h := h.2 hc
      refine r_iconst x_116_26 ?_
      exact r_retZ x_116_27 rfl (Or.inl rfl) h
    · replace h := h.1 hc
      refine r_aload_n x_116_12 rfl ?_
      refine r_iload_n x_116_13 rfl ?_
      refine r_iconst x_116_14 ?_
      refine r_iadd x_116_15 ?_
      obtain ⟨h5, h⟩ := h
      obtain ⟨h6, h⟩ := h
      refine r_bald x_116_16 (Or.inl rfl) hA3 h5 h6.1 h6.2 ?_
      refine r_bipush x_116_17 (x := 36) rfl ?_
      refine r_ic_ne x_116_19 (t := 26) (by decide +kernel) (hok.1 _ _) (g_Rk rfl) (fun hc => ?_) (fun hc => ?_)
      · replace h := h.2 hc
        refine r_iconst x_116_26 ?_
        exact r_retZ x_116_27 rfl (Or.inl rfl) h
      · replace h := h.1 hc
        refine r_iconst x_116_22 ?_
        refine r_goto x_116_23 (t := 27) (by decide +kernel) ?_
        exact r_retZ x_116_27 rfl (Or.inr rfl) h
theorem m_X7_isNumber {d : Nat} {M : g_M} {Q : Int → g_M → Prop} {a0 : Nat} {v1 : Int} (hv1 : g_InR v1) (h : g_ok M → g_Call d 108 [.ref a0, g_n v1] M (g_qI fun r4 M1 => g_ext M M1 → g_ok M1 → g_InR r4 → ((r4 = 16 → Q 1 M1) ∧ (¬ r4 = 16 → ((r4 = 18 → Q 1 M1) ∧ (¬ r4 = 18 → Q 0 M1)))))) : g_Call (d + 1) 117 [.ref a0, g_n v1] M (g_qI Q) := by
  refine g_Call.ok fun hok0 => ?_
  replace h := h hok0
  refine r_body rfl (lv := [(0, .ref a0), (1, g_n v1)]) rfl ?_
  refine g_Run.ok fun hok => ?_
  refine r_aload_n x_117_0 rfl ?_
  refine r_iload_n x_117_1 rfl ?_
  refine r_invS x_117_2 (z := 108) (ns := 0) (by decide +kernel) (as := [.ref a0, g_n v1]) (r := []) rfl rfl rfl ?_
  refine r_callI h fun r4 M1 hx2 hok3 hr5 h => ?_
  replace h := h hx2 hok3 hr5
  refine r_istore_n x_117_5 (by decide +kernel) rfl (lv1 := [(0, .ref a0), (1, g_n v1), (2, g_n r4)]) rfl ?_
  refine r_iload_n x_117_6 rfl ?_
  refine r_bipush x_117_7 (x := 16) rfl ?_
  refine r_ic_eq x_117_9 (t := 18) (by decide +kernel) hr5 (g_Rk rfl) (fun hc => ?_) (fun hc => ?_)
  · replace h := h.1 hc
    refine r_iconst x_117_18 ?_
    refine r_goto x_117_19 (t := 23) (by decide +kernel) ?_
    exact r_retZ x_117_23 rfl (Or.inr rfl) h
  · replace h := h.2 hc
    refine r_iload_n x_117_12 rfl ?_
    refine r_bipush x_117_13 (x := 18) rfl ?_
    refine r_ic_ne x_117_15 (t := 22) (by decide +kernel) hr5 (g_Rk rfl) (fun hc => ?_) (fun hc => ?_)
    · replace h := h.2 hc
      refine r_iconst x_117_22 ?_
      exact r_retZ x_117_23 rfl (Or.inl rfl) h
    · replace h := h.1 hc
      refine r_iconst x_117_18 ?_
      refine r_goto x_117_19 (t := 23) (by decide +kernel) ?_
      exact r_retZ x_117_23 rfl (Or.inr rfl) h
theorem m_X7_whole {d : Nat} {M : g_M} {Q : Int64 → g_M → Prop} {a0 : Nat} {v1 : Int} (hv1 : g_InR v1) (h : g_ok M → g_Call d 110 [.ref a0, g_n v1] M (g_qI fun r4 M1 => g_ext M M1 → g_ok M1 → g_InR r4 → g_Call d 109 [.ref a0, g_n r4] M1 (g_qI fun r9 M6 => g_ext M1 M6 → g_ok M6 → g_InR r9 → g_Call d 108 [.ref a0, g_n v1] M6 (g_qI fun r14 M11 => g_ext M6 M11 → g_ok M11 → g_InR r14 → ((r14 = 16 → Q (Int64.ofInt r9) M11) ∧ (¬ r14 = 16 → g_InR (r4 + 4) ∧ g_Call d 109 [.ref a0, g_n (r4 + 4)] M11 (g_qI fun r20 M17 => g_ext M11 M17 → g_ok M17 → g_InR r20 → Q (((Int64.ofInt r9) &&& 4294967295) ||| ((Int64.ofInt r20) <<< ((Int32.ofInt 32).toInt64 &&& 63))) M17))))))) : g_Call (d + 1) 118 [.ref a0, g_n v1] M (g_qL Q) := by
  refine g_Call.ok fun hok0 => ?_
  replace h := h hok0
  refine r_body rfl (lv := [(0, .ref a0), (1, g_n v1)]) rfl ?_
  refine g_Run.ok fun hok => ?_
  refine r_aload_n x_118_0 rfl ?_
  refine r_iload_n x_118_1 rfl ?_
  refine r_invS x_118_2 (z := 110) (ns := 0) (by decide +kernel) (as := [.ref a0, g_n v1]) (r := []) rfl rfl rfl ?_
  refine r_callI h fun r4 M1 hx2 hok3 hr5 h => ?_
  replace h := h hx2 hok3 hr5
  refine r_istore_n x_118_5 (by decide +kernel) rfl (lv1 := [(0, .ref a0), (1, g_n v1), (2, g_n r4)]) rfl ?_
  refine r_aload_n x_118_6 rfl ?_
  refine r_iload_n x_118_7 rfl ?_
  refine r_invS x_118_8 (z := 109) (ns := 0) (by decide +kernel) (as := [.ref a0, g_n r4]) (r := []) rfl rfl rfl ?_
  refine r_callI h fun r9 M6 hx7 hok8 hr10 h => ?_
  replace h := h hx7 hok8 hr10
  refine r_istore_n x_118_11 (by decide +kernel) rfl (lv1 := [(0, .ref a0), (1, g_n v1), (2, g_n r4), (3, g_n r9)]) rfl ?_
  refine r_aload_n x_118_12 rfl ?_
  refine r_iload_n x_118_13 rfl ?_
  refine r_invS x_118_14 (z := 108) (ns := 0) (by decide +kernel) (as := [.ref a0, g_n v1]) (r := []) rfl rfl rfl ?_
  refine r_callI h fun r14 M11 hx12 hok13 hr15 h => ?_
  replace h := h hx12 hok13 hr15
  refine r_bipush x_118_17 (x := 16) rfl ?_
  refine r_ic_ne x_118_19 (t := 27) (by decide +kernel) hr15 (g_Rk rfl) (fun hc => ?_) (fun hc => ?_)
  · replace h := h.2 hc
    refine r_iload_n x_118_27 rfl ?_
    refine r_i2l x_118_28 hr10 ?_
    refine r_ldc2 x_118_29 (X := 4294967295) rfl ?_
    refine r_land x_118_32 ?_
    refine r_aload_n x_118_33 rfl ?_
    refine r_iload_n x_118_34 rfl ?_
    refine r_iconst x_118_35 ?_
    refine r_iadd x_118_36 ?_
    obtain ⟨h16, h⟩ := h
    refine r_invS x_118_37 (z := 109) (ns := 0) (by decide +kernel) (as := [.ref a0, g_n (r4 + 4)]) (r := [.long ((Int64.ofInt r9) &&& 4294967295)]) rfl rfl rfl ?_
    refine r_callI h fun r20 M17 hx18 hok19 hr21 h => ?_
    replace h := h hx18 hok19 hr21
    refine r_i2l x_118_40 hr21 ?_
    refine r_bipush x_118_41 (x := 32) rfl ?_
    refine r_lshl x_118_43 ?_
    refine r_lor x_118_44 ?_
    exact r_retL x_118_45 rfl h
  · replace h := h.1 hc
    refine r_iload_n x_118_22 rfl ?_
    refine r_i2l x_118_23 hr10 ?_
    refine r_goto x_118_24 (t := 45) (by decide +kernel) ?_
    exact r_retL x_118_45 rfl h
theorem m_X7_isTruth {d : Nat} {M : g_M} {Q : Int → g_M → Prop} {a0 : Nat} {v1 : Int} (hv1 : g_InR v1) {v2 : Int} (hv2 : g_InR v2) (h : g_ok M → g_Call d 108 [.ref a0, g_n v1] M (g_qI fun r4 M1 => g_ext M M1 → g_ok M1 → g_InR r4 → ((r4 = 8 → g_Call d 110 [.ref a0, g_n v1] M1 (g_qI fun r9 M6 => g_ext M1 M6 → g_ok M6 → g_InR r9 → g_Call d 108 [.ref a0, g_n r9] M6 (g_qI fun r14 M11 => g_ext M6 M11 → g_ok M11 → g_InR r14 → ((r14 = v2 → Q 1 M11) ∧ (¬ r14 = v2 → Q 0 M11))))) ∧ (¬ r4 = 8 → Q 0 M1)))) : g_Call (d + 1) 119 [.ref a0, g_n v1, g_n v2] M (g_qI Q) := by
  refine g_Call.ok fun hok0 => ?_
  replace h := h hok0
  refine r_body rfl (lv := [(0, .ref a0), (1, g_n v1), (2, g_n v2)]) rfl ?_
  refine g_Run.ok fun hok => ?_
  refine r_aload_n x_119_0 rfl ?_
  refine r_iload_n x_119_1 rfl ?_
  refine r_invS x_119_2 (z := 108) (ns := 0) (by decide +kernel) (as := [.ref a0, g_n v1]) (r := []) rfl rfl rfl ?_
  refine r_callI h fun r4 M1 hx2 hok3 hr5 h => ?_
  replace h := h hx2 hok3 hr5
  refine r_bipush x_119_5 (x := 8) rfl ?_
  refine r_ic_ne x_119_7 (t := 27) (by decide +kernel) hr5 (g_Rk rfl) (fun hc => ?_) (fun hc => ?_)
  · replace h := h.2 hc
    refine r_iconst x_119_27 ?_
    exact r_retZ x_119_28 rfl (Or.inl rfl) h
  · replace h := h.1 hc
    refine r_aload_n x_119_10 rfl ?_
    refine r_aload_n x_119_11 rfl ?_
    refine r_iload_n x_119_12 rfl ?_
    refine r_invS x_119_13 (z := 110) (ns := 0) (by decide +kernel) (as := [.ref a0, g_n v1]) (r := [.ref a0]) rfl rfl rfl ?_
    refine r_callI h fun r9 M6 hx7 hok8 hr10 h => ?_
    replace h := h hx7 hok8 hr10
    refine r_invS x_119_16 (z := 108) (ns := 0) (by decide +kernel) (as := [.ref a0, g_n r9]) (r := []) rfl rfl rfl ?_
    refine r_callI h fun r14 M11 hx12 hok13 hr15 h => ?_
    replace h := h hx12 hok13 hr15
    refine r_iload_n x_119_19 rfl ?_
    refine r_ic_ne x_119_20 (t := 27) (by decide +kernel) hr15 hv2 (fun hc => ?_) (fun hc => ?_)
    · replace h := h.2 hc
      refine r_iconst x_119_27 ?_
      exact r_retZ x_119_28 rfl (Or.inl rfl) h
    · replace h := h.1 hc
      refine r_iconst x_119_23 ?_
      refine r_goto x_119_24 (t := 28) (by decide +kernel) ?_
      exact r_retZ x_119_28 rfl (Or.inr rfl) h
theorem m_X7_classOf {d : Nat} {M : g_M} {Q : Int → g_M → Prop} {a0 : Nat} {v1 : Int} (hv1 : g_InR v1) (h : g_ok M → ((v1 < 0 → Q 0 M) ∧ (¬ v1 < 0 → ∃ n1, g_A M a0 0 n1 ∧ g_InR n1 ∧ ((v1 < n1 → ((0 : Int) ≤ v1 ∧ (v1 : Int) < n1) ∧ ((g_i M a0 v1 = 2 → Q 3 M) ∧ (¬ g_i M a0 v1 = 2 → ((g_i M a0 v1 = 3 → Q 4 M) ∧ (¬ g_i M a0 v1 = 3 → ((g_i M a0 v1 = 4 → Q 5 M) ∧ (¬ g_i M a0 v1 = 4 → ((g_i M a0 v1 = 5 → Q 6 M) ∧ (¬ g_i M a0 v1 = 5 → ((g_i M a0 v1 = 6 → Q 6 M) ∧ (¬ g_i M a0 v1 = 6 → ((g_i M a0 v1 = 7 → Q 6 M) ∧ (¬ g_i M a0 v1 = 7 → ((g_i M a0 v1 = 8 → Q 6 M) ∧ (¬ g_i M a0 v1 = 8 → ((g_i M a0 v1 = 9 → Q 6 M) ∧ (¬ g_i M a0 v1 = 9 → ((g_i M a0 v1 = 10 → Q 1 M) ∧ (¬ g_i M a0 v1 = 10 → ((g_i M a0 v1 = 11 → Q 6 M) ∧ (¬ g_i M a0 v1 = 11 → ((g_i M a0 v1 = 12 → Q 6 M) ∧ (¬ g_i M a0 v1 = 12 → ((g_i M a0 v1 = 13 → Q 6 M) ∧ (¬ g_i M a0 v1 = 13 → ((g_i M a0 v1 = 14 → Q 6 M) ∧ (¬ g_i M a0 v1 = 14 → ((g_i M a0 v1 = 15 → Q 6 M) ∧ (¬ g_i M a0 v1 = 15 → ((g_i M a0 v1 = 16 → Q 2 M) ∧ (¬ g_i M a0 v1 = 16 → ((g_i M a0 v1 = 17 → Q 6 M) ∧ (¬ g_i M a0 v1 = 17 → ((g_i M a0 v1 = 18 → Q 2 M) ∧ (¬ g_i M a0 v1 = 18 → Q 6 M))))))))))))))))))))))))))))))))))) ∧ (¬ v1 < n1 → Q 0 M))))) : g_Call (d + 1) 120 [.ref a0, g_n v1] M (g_qI Q) := by
  refine g_Call.ok fun hok0 => ?_
  replace h := h hok0
  refine r_body rfl (lv := [(0, .ref a0), (1, g_n v1)]) rfl ?_
  refine g_Run.ok fun hok => ?_
  refine r_iload_n x_120_0 rfl ?_
  refine r_if_lt x_120_1 (t := 10) (by decide +kernel) hv1 (fun hc => ?_) (fun hc => ?_)
  · replace h := h.1 hc
    refine r_iconst x_120_10 ?_
    exact r_retI x_120_11 rfl (g_Rk rfl) h
  · replace h := h.2 hc
    refine r_iload_n x_120_4 rfl ?_
    refine r_aload_n x_120_5 rfl ?_
    obtain ⟨n1, hA2, h⟩ := h
    refine r_alen x_120_6 hA2 ?_
    obtain ⟨h3, h⟩ := h
    refine r_ic_lt x_120_7 (t := 12) (by decide +kernel) hv1 h3 (fun hc => ?_) (fun hc => ?_)
    · replace h := h.1 hc
      refine r_aload_n x_120_12 rfl ?_
      refine r_iload_n x_120_13 rfl ?_
      obtain ⟨h4, h⟩ := h
      refine r_bald x_120_14 (Or.inl rfl) hA2 hv1 h4.1 h4.2 ?_
      by_cases hk5 : g_i M a0 v1 = 2
      · refine r_tableAt x_120_15 hk5 (t := 100) (g_Rk rfl) (by decide +kernel) ?_
        replace h := h.1 hk5
        refine r_iconst x_120_100 ?_
        exact r_retI x_120_101 rfl (g_Rk rfl) h
      replace h := h.2 hk5
      by_cases hk6 : g_i M a0 v1 = 3
      · refine r_tableAt x_120_15 hk6 (t := 102) (g_Rk rfl) (by decide +kernel) ?_
        replace h := h.1 hk6
        refine r_iconst x_120_102 ?_
        exact r_retI x_120_103 rfl (g_Rk rfl) h
      replace h := h.2 hk6
      by_cases hk7 : g_i M a0 v1 = 4
      · refine r_tableAt x_120_15 hk7 (t := 104) (g_Rk rfl) (by decide +kernel) ?_
        replace h := h.1 hk7
        refine r_iconst x_120_104 ?_
        exact r_retI x_120_105 rfl (g_Rk rfl) h
      replace h := h.2 hk7
      by_cases hk8 : g_i M a0 v1 = 5
      · refine r_tableAt x_120_15 hk8 (t := 106) (g_Rk rfl) (by decide +kernel) ?_
        replace h := h.1 hk8
        refine r_bipush x_120_106 (x := 6) rfl ?_
        exact r_retI x_120_108 rfl (g_Rk rfl) h
      replace h := h.2 hk8
      by_cases hk9 : g_i M a0 v1 = 6
      · refine r_tableAt x_120_15 hk9 (t := 106) (g_Rk rfl) (by decide +kernel) ?_
        replace h := h.1 hk9
        refine r_bipush x_120_106 (x := 6) rfl ?_
        exact r_retI x_120_108 rfl (g_Rk rfl) h
      replace h := h.2 hk9
      by_cases hk10 : g_i M a0 v1 = 7
      · refine r_tableAt x_120_15 hk10 (t := 106) (g_Rk rfl) (by decide +kernel) ?_
        replace h := h.1 hk10
        refine r_bipush x_120_106 (x := 6) rfl ?_
        exact r_retI x_120_108 rfl (g_Rk rfl) h
      replace h := h.2 hk10
      by_cases hk11 : g_i M a0 v1 = 8
      · refine r_tableAt x_120_15 hk11 (t := 106) (g_Rk rfl) (by decide +kernel) ?_
        replace h := h.1 hk11
        refine r_bipush x_120_106 (x := 6) rfl ?_
        exact r_retI x_120_108 rfl (g_Rk rfl) h
      replace h := h.2 hk11
      by_cases hk12 : g_i M a0 v1 = 9
      · refine r_tableAt x_120_15 hk12 (t := 106) (g_Rk rfl) (by decide +kernel) ?_
        replace h := h.1 hk12
        refine r_bipush x_120_106 (x := 6) rfl ?_
        exact r_retI x_120_108 rfl (g_Rk rfl) h
      replace h := h.2 hk12
      by_cases hk13 : g_i M a0 v1 = 10
      · refine r_tableAt x_120_15 hk13 (t := 96) (g_Rk rfl) (by decide +kernel) ?_
        replace h := h.1 hk13
        refine r_iconst x_120_96 ?_
        exact r_retI x_120_97 rfl (g_Rk rfl) h
      replace h := h.2 hk13
      by_cases hk14 : g_i M a0 v1 = 11
      · refine r_tableAt x_120_15 hk14 (t := 106) (g_Rk rfl) (by decide +kernel) ?_
        replace h := h.1 hk14
        refine r_bipush x_120_106 (x := 6) rfl ?_
        exact r_retI x_120_108 rfl (g_Rk rfl) h
      replace h := h.2 hk14
      by_cases hk15 : g_i M a0 v1 = 12
      · refine r_tableAt x_120_15 hk15 (t := 106) (g_Rk rfl) (by decide +kernel) ?_
        replace h := h.1 hk15
        refine r_bipush x_120_106 (x := 6) rfl ?_
        exact r_retI x_120_108 rfl (g_Rk rfl) h
      replace h := h.2 hk15
      by_cases hk16 : g_i M a0 v1 = 13
      · refine r_tableAt x_120_15 hk16 (t := 106) (g_Rk rfl) (by decide +kernel) ?_
        replace h := h.1 hk16
        refine r_bipush x_120_106 (x := 6) rfl ?_
        exact r_retI x_120_108 rfl (g_Rk rfl) h
      replace h := h.2 hk16
      by_cases hk17 : g_i M a0 v1 = 14
      · refine r_tableAt x_120_15 hk17 (t := 106) (g_Rk rfl) (by decide +kernel) ?_
        replace h := h.1 hk17
        refine r_bipush x_120_106 (x := 6) rfl ?_
        exact r_retI x_120_108 rfl (g_Rk rfl) h
      replace h := h.2 hk17
      by_cases hk18 : g_i M a0 v1 = 15
      · refine r_tableAt x_120_15 hk18 (t := 106) (g_Rk rfl) (by decide +kernel) ?_
        replace h := h.1 hk18
        refine r_bipush x_120_106 (x := 6) rfl ?_
        exact r_retI x_120_108 rfl (g_Rk rfl) h
      replace h := h.2 hk18
      by_cases hk19 : g_i M a0 v1 = 16
      · refine r_tableAt x_120_15 hk19 (t := 98) (g_Rk rfl) (by decide +kernel) ?_
        replace h := h.1 hk19
        refine r_iconst x_120_98 ?_
        exact r_retI x_120_99 rfl (g_Rk rfl) h
      replace h := h.2 hk19
      by_cases hk20 : g_i M a0 v1 = 17
      · refine r_tableAt x_120_15 hk20 (t := 106) (g_Rk rfl) (by decide +kernel) ?_
        replace h := h.1 hk20
        refine r_bipush x_120_106 (x := 6) rfl ?_
        exact r_retI x_120_108 rfl (g_Rk rfl) h
      replace h := h.2 hk20
      by_cases hk21 : g_i M a0 v1 = 18
      · refine r_tableAt x_120_15 hk21 (t := 98) (g_Rk rfl) (by decide +kernel) ?_
        replace h := h.1 hk21
        refine r_iconst x_120_98 ?_
        exact r_retI x_120_99 rfl (g_Rk rfl) h
      replace h := h.2 hk21
      refine r_tableD x_120_15 (hok.1 _ _) (t := 106) (lo := 2) (hi := 18) (by omega) (by decide +kernel) ?_
      refine r_bipush x_120_106 (x := 6) rfl ?_
      exact r_retI x_120_108 rfl (g_Rk rfl) h
    · replace h := h.2 hc
      refine r_iconst x_120_10 ?_
      exact r_retI x_120_11 rfl (g_Rk rfl) h
theorem m_X7_compare {d : Nat} {M : g_M} {Q : Int → g_M → Prop} {a0 : Nat} {v1 : Int} (hv1 : g_InR v1) {a2 : Nat} {v3 : Int} (hv3 : g_InR v3) {v4 : Int} (hv4 : g_InR v4) (h : g_ok M → g_Call d 120 [.ref a0, g_n v1] M (g_qI fun r4 M1 => g_ext M M1 → g_ok M1 → g_InR r4 → g_Call d 120 [.ref a2, g_n v3] M1 (g_qI fun r9 M6 => g_ext M1 M6 → g_ok M6 → g_InR r9 → ((r4 = r9 → ((r4 < 2 → Q 0 M6) ∧ (¬ r4 < 2 → g_Call d 110 [.ref a0, g_n v1] M6 (g_qI fun r14 M11 => g_ext M6 M11 → g_ok M11 → g_InR r14 → g_Call d 110 [.ref a2, g_n v3] M11 (g_qI fun r19 M16 => g_ext M11 M16 → g_ok M16 → g_InR r19 → ((r4 = 2 → g_Call d 109 [.ref a0, g_n r14] M16 (g_qI fun r24 M21 => g_ext M16 M21 → g_ok M21 → g_InR r24 → g_Call d 109 [.ref a2, g_n r19] M21 (g_qI fun r29 M26 => g_ext M21 M26 → g_ok M26 → g_InR r29 → ∃ n31, g_A M26 a0 0 n31 ∧ ((0 : Int) ≤ v1 ∧ (v1 : Int) < n31) ∧ ((g_i M26 a0 v1 = 16 → g_Run d 121 142 [(0, .ref a0), (1, g_n v1), (2, .ref a2), (3, g_n v3), (4, g_n v4), (5, g_n r4), (6, g_n r14), (7, g_n r19), (8, .long (Int64.ofInt r24)), (10, .long (Int64.ofInt r29))] [.long (Int64.ofInt r24)] M26 (g_qI Q)) ∧ (¬ g_i M26 a0 v1 = 16 → g_InR (r14 + 4) ∧ g_Call d 109 [.ref a0, g_n (r14 + 4)] M26 (g_qI fun r38 M35 => g_ext M26 M35 → g_ok M35 → g_InR r38 → g_Run d 121 142 [(0, .ref a0), (1, g_n v1), (2, .ref a2), (3, g_n v3), (4, g_n v4), (5, g_n r4), (6, g_n r14), (7, g_n r19), (8, .long (Int64.ofInt r24)), (10, .long (Int64.ofInt r29))] [.long (((Int64.ofInt r24) &&& 4294967295) ||| ((Int64.ofInt r38) <<< ((Int32.ofInt 32).toInt64 &&& 63)))] M35 (g_qI Q))))))) ∧ (¬ r4 = 2 → ((r4 = 3 → g_InR (r14 + 4) ∧ g_InR (r14 + 3) ∧ g_Call d 109 [.ref a0, g_n r14] M16 (g_qI fun r46 M43 => g_ext M16 M43 → g_ok M43 → g_InR r46 → g_InR ((r14 + 3) + r46) ∧ g_InR (r19 + 4) ∧ g_InR (r19 + 3) ∧ g_Call d 109 [.ref a2, g_n r19] M43 (g_qI fun r54 M51 => g_ext M43 M51 → g_ok M51 → g_InR r54 → g_InR ((r19 + 3) + r54) ∧ g_Call d 123 [.ref a0, g_n (r14 + 4), g_n ((r14 + 3) + r46), .ref a2, g_n (r19 + 4), g_n ((r19 + 3) + r54)] M51 (g_qI fun r60 M57 => g_ext M51 M57 → g_ok M57 → g_InR r60 → Q r60 M57)))) ∧ (¬ r4 = 3 → ((r4 = 4 → ((60 < v4 → Q 0 M16) ∧ (¬ 60 < v4 → g_InR (v4 + 1) ∧ g_Call d 122 [.ref a0, g_n v1, .ref a2, g_n v3, g_n (v4 + 1)] M16 (g_qI fun r67 M64 => g_ext M16 M64 → g_ok M64 → g_InR r67 → Q r67 M64)))) ∧ (¬ r4 = 4 → ((r4 = 5 → ((60 < v4 → Q 0 M16) ∧ (¬ 60 < v4 → g_InR (v4 + 1) ∧ g_Call d 122 [.ref a0, g_n v1, .ref a2, g_n v3, g_n (v4 + 1)] M16 (g_qI fun r74 M71 => g_ext M16 M71 → g_ok M71 → g_InR r74 → Q r74 M71)))) ∧ (¬ r4 = 5 → ((r4 = 6 → g_Call d 108 [.ref a0, g_n r14] M16 (g_qI fun r80 M77 => g_ext M16 M77 → g_ok M77 → g_InR r80 → g_Call d 108 [.ref a2, g_n r19] M77 (g_qI fun r85 M82 => g_ext M77 M82 → g_ok M82 → g_InR r85 → g_Call d 440 [g_n r80, g_n r85] M82 (g_qI fun r90 M87 => g_ext M82 M87 → g_ok M87 → g_InR r90 → Q r90 M87)))) ∧ (¬ r4 = 6 → ((60 < v4 → Q 0 M16) ∧ (¬ 60 < v4 → g_InR (v4 + 1) ∧ g_Call d 122 [.ref a0, g_n v1, .ref a2, g_n v3, g_n (v4 + 1)] M16 (g_qI fun r97 M94 => g_ext M16 M94 → g_ok M94 → g_InR r97 → Q r97 M94)))))))))))))))))) ∧ (¬ r4 = r9 → g_Call d 120 [.ref a2, g_n v3] M6 (g_qI fun r102 M99 => g_ext M6 M99 → g_ok M99 → g_InR r102 → ((r4 < r102 → Q ((-1)) M99) ∧ (¬ r4 < r102 → Q 1 M99)))))))) : g_Call (d + 1) 121 [.ref a0, g_n v1, .ref a2, g_n v3, g_n v4] M (g_qI Q) := by
  refine g_Call.ok fun hok0 => ?_
  replace h := h hok0
  refine r_body rfl (lv := [(0, .ref a0), (1, g_n v1), (2, .ref a2), (3, g_n v3), (4, g_n v4)]) rfl ?_
  refine g_Run.ok fun hok => ?_
  refine r_aload_n x_121_0 rfl ?_
  refine r_iload_n x_121_1 rfl ?_
  refine r_invS x_121_2 (z := 120) (ns := 0) (by decide +kernel) (as := [.ref a0, g_n v1]) (r := []) rfl rfl rfl ?_
  refine r_callI h fun r4 M1 hx2 hok3 hr5 h => ?_
  replace h := h hx2 hok3 hr5
  refine r_istore x_121_5 (by decide +kernel) rfl (lv1 := [(0, .ref a0), (1, g_n v1), (2, .ref a2), (3, g_n v3), (4, g_n v4), (5, g_n r4)]) rfl ?_
  refine r_iload x_121_7 rfl ?_
  refine r_aload_n x_121_9 rfl ?_
  refine r_iload_n x_121_10 rfl ?_
  refine r_invS x_121_11 (z := 120) (ns := 0) (by decide +kernel) (as := [.ref a2, g_n v3]) (r := [g_n r4]) rfl rfl rfl ?_
  refine r_callI h fun r9 M6 hx7 hok8 hr10 h => ?_
  replace h := h hx7 hok8 hr10
  refine r_ic_eq x_121_14 (t := 33) (by decide +kernel) hr5 hr10 (fun hc => ?_) (fun hc => ?_)
  · replace h := h.1 hc
    refine r_iload x_121_33 rfl ?_
    refine r_iconst x_121_35 ?_
    refine r_ic_ge x_121_36 (t := 41) (by decide +kernel) hr5 (g_Rk rfl) (fun hc => ?_) (fun hc => ?_)
    · replace h := h.2 hc
      refine r_aload_n x_121_41 rfl ?_
      refine r_iload_n x_121_42 rfl ?_
      refine r_invS x_121_43 (z := 110) (ns := 0) (by decide +kernel) (as := [.ref a0, g_n v1]) (r := []) rfl rfl rfl ?_
      refine r_callI h fun r14 M11 hx12 hok13 hr15 h => ?_
      replace h := h hx12 hok13 hr15
      refine r_istore x_121_46 (by decide +kernel) rfl (lv1 := [(0, .ref a0), (1, g_n v1), (2, .ref a2), (3, g_n v3), (4, g_n v4), (5, g_n r4), (6, g_n r14)]) rfl ?_
      refine r_aload_n x_121_48 rfl ?_
      refine r_iload_n x_121_49 rfl ?_
      refine r_invS x_121_50 (z := 110) (ns := 0) (by decide +kernel) (as := [.ref a2, g_n v3]) (r := []) rfl rfl rfl ?_
      refine r_callI h fun r19 M16 hx17 hok18 hr20 h => ?_
      replace h := h hx17 hok18 hr20
      refine r_istore x_121_53 (by decide +kernel) rfl (lv1 := [(0, .ref a0), (1, g_n v1), (2, .ref a2), (3, g_n v3), (4, g_n v4), (5, g_n r4), (6, g_n r14), (7, g_n r19)]) rfl ?_
      refine r_iload x_121_55 rfl ?_
      by_cases hk40 : r4 = 2
      · refine r_tableAt x_121_57 hk40 (t := 92) (g_Rk rfl) (by decide +kernel) ?_
        replace h := h.1 hk40
        refine r_aload_n x_121_92 rfl ?_
        refine r_iload x_121_93 rfl ?_
        refine r_invS x_121_95 (z := 109) (ns := 0) (by decide +kernel) (as := [.ref a0, g_n r14]) (r := []) rfl rfl rfl ?_
        refine r_callI h fun r24 M21 hx22 hok23 hr25 h => ?_
        replace h := h hx22 hok23 hr25
        refine r_i2l x_121_98 hr25 ?_
        refine r_lstore x_121_99 (by decide +kernel) rfl (lv1 := [(0, .ref a0), (1, g_n v1), (2, .ref a2), (3, g_n v3), (4, g_n v4), (5, g_n r4), (6, g_n r14), (7, g_n r19), (8, .long (Int64.ofInt r24))]) rfl ?_
        refine r_aload_n x_121_101 rfl ?_
        refine r_iload x_121_102 rfl ?_
        refine r_invS x_121_104 (z := 109) (ns := 0) (by decide +kernel) (as := [.ref a2, g_n r19]) (r := []) rfl rfl rfl ?_
        refine r_callI h fun r29 M26 hx27 hok28 hr30 h => ?_
        replace h := h hx27 hok28 hr30
        refine r_i2l x_121_107 hr30 ?_
        refine r_lstore x_121_108 (by decide +kernel) rfl (lv1 := [(0, .ref a0), (1, g_n v1), (2, .ref a2), (3, g_n v3), (4, g_n v4), (5, g_n r4), (6, g_n r14), (7, g_n r19), (8, .long (Int64.ofInt r24)), (10, .long (Int64.ofInt r29))]) rfl ?_
        refine r_aload_n x_121_110 rfl ?_
        refine r_iload_n x_121_111 rfl ?_
        obtain ⟨n31, hA32, h⟩ := h
        obtain ⟨h33, h⟩ := h
        refine r_bald x_121_112 (Or.inl rfl) hA32 hv1 h33.1 h33.2 ?_
        refine r_bipush x_121_113 (x := 16) rfl ?_
        refine r_ic_ne x_121_115 (t := 123) (by decide +kernel) (hok28.1 _ _) (g_Rk rfl) (fun hc => ?_) (fun hc => ?_)
        · replace h := h.2 hc
          refine r_lload x_121_123 rfl ?_
          refine r_ldc2 x_121_125 (X := 4294967295) rfl ?_
          refine r_land x_121_128 ?_
          refine r_aload_n x_121_129 rfl ?_
          refine r_iload x_121_130 rfl ?_
          refine r_iconst x_121_132 ?_
          refine r_iadd x_121_133 ?_
          obtain ⟨h34, h⟩ := h
          refine r_invS x_121_134 (z := 109) (ns := 0) (by decide +kernel) (as := [.ref a0, g_n (r14 + 4)]) (r := [.long ((Int64.ofInt r24) &&& 4294967295)]) rfl rfl rfl ?_
          refine r_callI h fun r38 M35 hx36 hok37 hr39 h => ?_
          replace h := h hx36 hok37 hr39
          replace hA32 := hA32.up hx36
          refine r_i2l x_121_137 hr39 ?_
          refine r_bipush x_121_138 (x := 32) rfl ?_
          refine r_lshl x_121_140 ?_
          refine r_lor x_121_141 ?_
          exact h
        · replace h := h.1 hc
          refine r_lload x_121_118 rfl ?_
          refine r_goto x_121_120 (t := 142) (by decide +kernel) ?_
          exact h
      replace h := h.2 hk40
      by_cases hk62 : r4 = 3
      · refine r_tableAt x_121_57 hk62 (t := 186) (g_Rk rfl) (by decide +kernel) ?_
        replace h := h.1 hk62
        refine r_aload_n x_121_186 rfl ?_
        refine r_iload x_121_187 rfl ?_
        refine r_iconst x_121_189 ?_
        refine r_iadd x_121_190 ?_
        obtain ⟨h41, h⟩ := h
        refine r_iload x_121_191 rfl ?_
        refine r_iconst x_121_193 ?_
        refine r_iadd x_121_194 ?_
        obtain ⟨h42, h⟩ := h
        refine r_aload_n x_121_195 rfl ?_
        refine r_iload x_121_196 rfl ?_
        refine r_invS x_121_198 (z := 109) (ns := 0) (by decide +kernel) (as := [.ref a0, g_n r14]) (r := [g_n (r14 + 3), g_n (r14 + 4), .ref a0]) rfl rfl rfl ?_
        refine r_callI h fun r46 M43 hx44 hok45 hr47 h => ?_
        replace h := h hx44 hok45 hr47
        refine r_iadd x_121_201 ?_
        obtain ⟨h48, h⟩ := h
        refine r_aload_n x_121_202 rfl ?_
        refine r_iload x_121_203 rfl ?_
        refine r_iconst x_121_205 ?_
        refine r_iadd x_121_206 ?_
        obtain ⟨h49, h⟩ := h
        refine r_iload x_121_207 rfl ?_
        refine r_iconst x_121_209 ?_
        refine r_iadd x_121_210 ?_
        obtain ⟨h50, h⟩ := h
        refine r_aload_n x_121_211 rfl ?_
        refine r_iload x_121_212 rfl ?_
        refine r_invS x_121_214 (z := 109) (ns := 0) (by decide +kernel) (as := [.ref a2, g_n r19]) (r := [g_n (r19 + 3), g_n (r19 + 4), .ref a2, g_n ((r14 + 3) + r46), g_n (r14 + 4), .ref a0]) rfl rfl rfl ?_
        refine r_callI h fun r54 M51 hx52 hok53 hr55 h => ?_
        replace h := h hx52 hok53 hr55
        refine r_iadd x_121_217 ?_
        obtain ⟨h56, h⟩ := h
        refine r_invS x_121_218 (z := 123) (ns := 0) (by decide +kernel) (as := [.ref a0, g_n (r14 + 4), g_n ((r14 + 3) + r46), .ref a2, g_n (r19 + 4), g_n ((r19 + 3) + r54)]) (r := []) rfl rfl rfl ?_
        refine r_callI h fun r60 M57 hx58 hok59 hr61 h => ?_
        replace h := h hx58 hok59 hr61
        exact r_retI x_121_221 rfl hr61 h
      replace h := h.2 hk62
      by_cases hk69 : r4 = 4
      · refine r_tableAt x_121_57 hk69 (t := 238) (g_Rk rfl) (by decide +kernel) ?_
        replace h := h.1 hk69
        refine r_iload x_121_238 rfl ?_
        refine r_bipush x_121_240 (x := 60) rfl ?_
        refine r_ic_le x_121_242 (t := 249) (by decide +kernel) hv4 (g_Rk rfl) (fun hc => ?_) (fun hc => ?_)
        · replace h := h.2 hc
          refine r_aload_n x_121_249 rfl ?_
          refine r_iload_n x_121_250 rfl ?_
          refine r_aload_n x_121_251 rfl ?_
          refine r_iload_n x_121_252 rfl ?_
          refine r_iload x_121_253 rfl ?_
          refine r_iconst x_121_255 ?_
          refine r_iadd x_121_256 ?_
          obtain ⟨h63, h⟩ := h
          refine r_invS x_121_257 (z := 122) (ns := 0) (by decide +kernel) (as := [.ref a0, g_n v1, .ref a2, g_n v3, g_n (v4 + 1)]) (r := []) rfl rfl rfl ?_
          refine r_callI h fun r67 M64 hx65 hok66 hr68 h => ?_
          replace h := h hx65 hok66 hr68
          exact r_retI x_121_260 rfl hr68 h
        · replace h := h.1 hc
          refine r_iconst x_121_245 ?_
          refine r_goto x_121_246 (t := 260) (by decide +kernel) ?_
          exact r_retI x_121_260 rfl (g_Rk rfl) h
      replace h := h.2 hk69
      by_cases hk76 : r4 = 5
      · refine r_tableAt x_121_57 hk76 (t := 238) (g_Rk rfl) (by decide +kernel) ?_
        replace h := h.1 hk76
        refine r_iload x_121_238 rfl ?_
        refine r_bipush x_121_240 (x := 60) rfl ?_
        refine r_ic_le x_121_242 (t := 249) (by decide +kernel) hv4 (g_Rk rfl) (fun hc => ?_) (fun hc => ?_)
        · replace h := h.2 hc
          refine r_aload_n x_121_249 rfl ?_
          refine r_iload_n x_121_250 rfl ?_
          refine r_aload_n x_121_251 rfl ?_
          refine r_iload_n x_121_252 rfl ?_
          refine r_iload x_121_253 rfl ?_
          refine r_iconst x_121_255 ?_
          refine r_iadd x_121_256 ?_
          obtain ⟨h70, h⟩ := h
          refine r_invS x_121_257 (z := 122) (ns := 0) (by decide +kernel) (as := [.ref a0, g_n v1, .ref a2, g_n v3, g_n (v4 + 1)]) (r := []) rfl rfl rfl ?_
          refine r_callI h fun r74 M71 hx72 hok73 hr75 h => ?_
          replace h := h hx72 hok73 hr75
          exact r_retI x_121_260 rfl hr75 h
        · replace h := h.1 hc
          refine r_iconst x_121_245 ?_
          refine r_goto x_121_246 (t := 260) (by decide +kernel) ?_
          exact r_retI x_121_260 rfl (g_Rk rfl) h
      replace h := h.2 hk76
      by_cases hk92 : r4 = 6
      · refine r_tableAt x_121_57 hk92 (t := 222) (g_Rk rfl) (by decide +kernel) ?_
        replace h := h.1 hk92
        refine r_aload_n x_121_222 rfl ?_
        refine r_iload x_121_223 rfl ?_
        refine r_invS x_121_225 (z := 108) (ns := 0) (by decide +kernel) (as := [.ref a0, g_n r14]) (r := []) rfl rfl rfl ?_
        refine r_callI h fun r80 M77 hx78 hok79 hr81 h => ?_
        replace h := h hx78 hok79 hr81
        refine r_aload_n x_121_228 rfl ?_
        refine r_iload x_121_229 rfl ?_
        refine r_invS x_121_231 (z := 108) (ns := 0) (by decide +kernel) (as := [.ref a2, g_n r19]) (r := [g_n r80]) rfl rfl rfl ?_
        refine r_callI h fun r85 M82 hx83 hok84 hr86 h => ?_
        replace h := h hx83 hok84 hr86
        refine r_invS x_121_234 (z := 440) (ns := 0) (by decide +kernel) (as := [g_n r80, g_n r85]) (r := []) rfl rfl rfl ?_
        refine r_callI h fun r90 M87 hx88 hok89 hr91 h => ?_
        replace h := h hx88 hok89 hr91
        exact r_retI x_121_237 rfl hr91 h
      replace h := h.2 hk92
      refine r_tableD x_121_57 hr5 (t := 238) (lo := 2) (hi := 6) (by omega) (by decide +kernel) ?_
      refine r_iload x_121_238 rfl ?_
      refine r_bipush x_121_240 (x := 60) rfl ?_
      refine r_ic_le x_121_242 (t := 249) (by decide +kernel) hv4 (g_Rk rfl) (fun hc => ?_) (fun hc => ?_)
      · replace h := h.2 hc
        refine r_aload_n x_121_249 rfl ?_
        refine r_iload_n x_121_250 rfl ?_
        refine r_aload_n x_121_251 rfl ?_
        refine r_iload_n x_121_252 rfl ?_
        refine r_iload x_121_253 rfl ?_
        refine r_iconst x_121_255 ?_
        refine r_iadd x_121_256 ?_
        obtain ⟨h93, h⟩ := h
        refine r_invS x_121_257 (z := 122) (ns := 0) (by decide +kernel) (as := [.ref a0, g_n v1, .ref a2, g_n v3, g_n (v4 + 1)]) (r := []) rfl rfl rfl ?_
        refine r_callI h fun r97 M94 hx95 hok96 hr98 h => ?_
        replace h := h hx95 hok96 hr98
        exact r_retI x_121_260 rfl hr98 h
      · replace h := h.1 hc
        refine r_iconst x_121_245 ?_
        refine r_goto x_121_246 (t := 260) (by decide +kernel) ?_
        exact r_retI x_121_260 rfl (g_Rk rfl) h
    · replace h := h.1 hc
      refine r_iconst x_121_39 ?_
      exact r_retI x_121_40 rfl (g_Rk rfl) h
  · replace h := h.2 hc
    refine r_iload x_121_17 rfl ?_
    refine r_aload_n x_121_19 rfl ?_
    refine r_iload_n x_121_20 rfl ?_
    refine r_invS x_121_21 (z := 120) (ns := 0) (by decide +kernel) (as := [.ref a2, g_n v3]) (r := [g_n r4]) rfl rfl rfl ?_
    refine r_callI h fun r102 M99 hx100 hok101 hr103 h => ?_
    replace h := h hx100 hok101 hr103
    refine r_ic_ge x_121_24 (t := 31) (by decide +kernel) hr5 hr103 (fun hc => ?_) (fun hc => ?_)
    · replace h := h.2 hc
      refine r_iconst x_121_31 ?_
      exact r_retI x_121_32 rfl (g_Rk rfl) h
    · replace h := h.1 hc
      refine r_iconst x_121_27 ?_
      refine r_goto x_121_28 (t := 32) (by decide +kernel) ?_
      exact r_retI x_121_32 rfl (g_Rk rfl) h
theorem s_X7_compare_142 {d : Nat} {M : g_M} {Q : Int → g_M → Prop} {a0 : Nat} {v1 : Int} (hv1 : g_InR v1) {a2 : Nat} {v3 : Int} (hv3 : g_InR v3) {v4 : Int} (hv4 : g_InR v4) {v5 : Int} (hv5 : g_InR v5) {v6 : Int} (hv6 : g_InR v6) {v7 : Int} (hv7 : g_InR v7) {V8 : Int64} {V10 : Int64} {W0 : Int64} (h : g_ok M → ∃ n1, g_A M a2 0 n1 ∧ ((0 : Int) ≤ v3 ∧ (v3 : Int) < n1) ∧ ((g_i M a2 v3 = 16 → g_Call d 441 [.long W0, .long V10] M (g_qI fun r18 M15 => g_ext M M15 → g_ok M15 → g_InR r18 → Q r18 M15)) ∧ (¬ g_i M a2 v3 = 16 → g_InR (v7 + 4) ∧ g_Call d 109 [.ref a2, g_n (v7 + 4)] M (g_qI fun r8 M5 => g_ext M M5 → g_ok M5 → g_InR r8 → g_Call d 441 [.long W0, .long ((V10 &&& 4294967295) ||| ((Int64.ofInt r8) <<< ((Int32.ofInt 32).toInt64 &&& 63)))] M5 (g_qI fun r13 M10 => g_ext M5 M10 → g_ok M10 → g_InR r13 → Q r13 M10))))) : g_Run d 121 142 [(0, .ref a0), (1, g_n v1), (2, .ref a2), (3, g_n v3), (4, g_n v4), (5, g_n v5), (6, g_n v6), (7, g_n v7), (8, .long V8), (10, .long V10)] [.long W0] M (g_qI Q) := by
  refine g_Run.ok fun hok => ?_
  replace h := h hok
  refine r_lstore x_121_142 (by decide +kernel) rfl (lv1 := [(0, .ref a0), (1, g_n v1), (2, .ref a2), (3, g_n v3), (4, g_n v4), (5, g_n v5), (6, g_n v6), (7, g_n v7), (8, .long W0), (10, .long V10)]) rfl ?_
  refine r_aload_n x_121_144 rfl ?_
  refine r_iload_n x_121_145 rfl ?_
  obtain ⟨n1, hA2, h⟩ := h
  obtain ⟨h3, h⟩ := h
  refine r_bald x_121_146 (Or.inl rfl) hA2 hv3 h3.1 h3.2 ?_
  refine r_bipush x_121_147 (x := 16) rfl ?_
  refine r_ic_ne x_121_149 (t := 157) (by decide +kernel) (hok.1 _ _) (g_Rk rfl) (fun hc => ?_) (fun hc => ?_)
  · replace h := h.2 hc
    refine r_lload x_121_157 rfl ?_
    refine r_ldc2 x_121_159 (X := 4294967295) rfl ?_
    refine r_land x_121_162 ?_
    refine r_aload_n x_121_163 rfl ?_
    refine r_iload x_121_164 rfl ?_
    refine r_iconst x_121_166 ?_
    refine r_iadd x_121_167 ?_
    obtain ⟨h4, h⟩ := h
    refine r_invS x_121_168 (z := 109) (ns := 0) (by decide +kernel) (as := [.ref a2, g_n (v7 + 4)]) (r := [.long (V10 &&& 4294967295)]) rfl rfl rfl ?_
    refine r_callI h fun r8 M5 hx6 hok7 hr9 h => ?_
    replace h := h hx6 hok7 hr9
    replace hA2 := hA2.up hx6
    refine r_i2l x_121_171 hr9 ?_
    refine r_bipush x_121_172 (x := 32) rfl ?_
    refine r_lshl x_121_174 ?_
    refine r_lor x_121_175 ?_
    refine r_lstore x_121_176 (by decide +kernel) rfl (lv1 := [(0, .ref a0), (1, g_n v1), (2, .ref a2), (3, g_n v3), (4, g_n v4), (5, g_n v5), (6, g_n v6), (7, g_n v7), (8, .long W0), (10, .long ((V10 &&& 4294967295) ||| ((Int64.ofInt r8) <<< ((Int32.ofInt 32).toInt64 &&& 63))))]) rfl ?_
    refine r_lload x_121_178 rfl ?_
    refine r_lload x_121_180 rfl ?_
    refine r_invS x_121_182 (z := 441) (ns := 0) (by decide +kernel) (as := [.long W0, .long ((V10 &&& 4294967295) ||| ((Int64.ofInt r8) <<< ((Int32.ofInt 32).toInt64 &&& 63)))]) (r := []) rfl rfl rfl ?_
    refine r_callI h fun r13 M10 hx11 hok12 hr14 h => ?_
    replace h := h hx11 hok12 hr14
    replace hA2 := hA2.up hx11
    exact r_retI x_121_185 rfl hr14 h
  · replace h := h.1 hc
    refine r_lload x_121_152 rfl ?_
    refine r_goto x_121_154 (t := 176) (by decide +kernel) ?_
    refine r_lstore x_121_176 (by decide +kernel) rfl (lv1 := [(0, .ref a0), (1, g_n v1), (2, .ref a2), (3, g_n v3), (4, g_n v4), (5, g_n v5), (6, g_n v6), (7, g_n v7), (8, .long W0), (10, .long V10)]) rfl ?_
    refine r_lload x_121_178 rfl ?_
    refine r_lload x_121_180 rfl ?_
    refine r_invS x_121_182 (z := 441) (ns := 0) (by decide +kernel) (as := [.long W0, .long V10]) (r := []) rfl rfl rfl ?_
    refine r_callI h fun r18 M15 hx16 hok17 hr19 h => ?_
    replace h := h hx16 hok17 hr19
    replace hA2 := hA2.up hx16
    exact r_retI x_121_185 rfl hr19 h
theorem m_X7_compareInside {d : Nat} {M : g_M} {Q : Int → g_M → Prop} {a0 : Nat} {v1 : Int} (hv1 : g_InR v1) {a2 : Nat} {v3 : Int} (hv3 : g_InR v3) {v4 : Int} (hv4 : g_InR v4) (h : g_ok M → ∃ n1, g_A M a0 0 n1 ∧ ((0 : Int) ≤ v1 ∧ (v1 : Int) < n1) ∧ ((g_i M a0 v1 = 4 → g_Run d 122 12 [(0, .ref a0), (1, g_n v1), (2, .ref a2), (3, g_n v3), (4, g_n v4)] [g_n 1] M (g_qI Q)) ∧ (¬ g_i M a0 v1 = 4 → g_Run d 122 12 [(0, .ref a0), (1, g_n v1), (2, .ref a2), (3, g_n v3), (4, g_n v4)] [g_n 0] M (g_qI Q)))) : g_Call (d + 1) 122 [.ref a0, g_n v1, .ref a2, g_n v3, g_n v4] M (g_qI Q) := by
  refine g_Call.ok fun hok0 => ?_
  replace h := h hok0
  refine r_body rfl (lv := [(0, .ref a0), (1, g_n v1), (2, .ref a2), (3, g_n v3), (4, g_n v4)]) rfl ?_
  refine g_Run.ok fun hok => ?_
  refine r_aload_n x_122_0 rfl ?_
  refine r_iload_n x_122_1 rfl ?_
  obtain ⟨n1, hA2, h⟩ := h
  obtain ⟨h3, h⟩ := h
  refine r_bald x_122_2 (Or.inl rfl) hA2 hv1 h3.1 h3.2 ?_
  refine r_iconst x_122_3 ?_
  refine r_ic_ne x_122_4 (t := 11) (by decide +kernel) (hok.1 _ _) (g_Rk rfl) (fun hc => ?_) (fun hc => ?_)
  · replace h := h.2 hc
    refine r_iconst x_122_11 ?_
    exact h
  · replace h := h.1 hc
    refine r_iconst x_122_7 ?_
    refine r_goto x_122_8 (t := 12) (by decide +kernel) ?_
    exact h
theorem s_X7_compareInside_12 {d : Nat} {M : g_M} {Q : Int → g_M → Prop} {a0 : Nat} {v1 : Int} (hv1 : g_InR v1) {a2 : Nat} {v3 : Int} (hv3 : g_InR v3) {v4 : Int} (hv4 : g_InR v4) {w0 : Int} (hw0 : g_InR w0) (h : g_ok M → g_Call d 110 [.ref a0, g_n v1] M (g_qI fun r4 M1 => g_ext M M1 → g_ok M1 → g_InR r4 → g_InR (r4 + 4) ∧ g_Call d 110 [.ref a2, g_n v3] M1 (g_qI fun r10 M7 => g_ext M1 M7 → g_ok M7 → g_InR r10 → g_InR (r10 + 4) ∧ g_Run d 122 35 [(0, .ref a0), (1, g_n v1), (2, .ref a2), (3, g_n v3), (4, g_n v4), (5, g_n w0), (6, g_n (r4 + 4)), (7, g_n (r10 + 4)), (8, g_n 0)] [] M7 (g_qI Q)))) : g_Run d 122 12 [(0, .ref a0), (1, g_n v1), (2, .ref a2), (3, g_n v3), (4, g_n v4)] [g_n w0] M (g_qI Q) := by
  refine g_Run.ok fun hok => ?_
  replace h := h hok
  refine r_istore x_122_12 (by decide +kernel) rfl (lv1 := [(0, .ref a0), (1, g_n v1), (2, .ref a2), (3, g_n v3), (4, g_n v4), (5, g_n w0)]) rfl ?_
  refine r_aload_n x_122_14 rfl ?_
  refine r_iload_n x_122_15 rfl ?_
  refine r_invS x_122_16 (z := 110) (ns := 0) (by decide +kernel) (as := [.ref a0, g_n v1]) (r := []) rfl rfl rfl ?_
  refine r_callI h fun r4 M1 hx2 hok3 hr5 h => ?_
  replace h := h hx2 hok3 hr5
  refine r_iconst x_122_19 ?_
  refine r_iadd x_122_20 ?_
  obtain ⟨h6, h⟩ := h
  refine r_istore x_122_21 (by decide +kernel) rfl (lv1 := [(0, .ref a0), (1, g_n v1), (2, .ref a2), (3, g_n v3), (4, g_n v4), (5, g_n w0), (6, g_n (r4 + 4))]) rfl ?_
  refine r_aload_n x_122_23 rfl ?_
  refine r_iload_n x_122_24 rfl ?_
  refine r_invS x_122_25 (z := 110) (ns := 0) (by decide +kernel) (as := [.ref a2, g_n v3]) (r := []) rfl rfl rfl ?_
  refine r_callI h fun r10 M7 hx8 hok9 hr11 h => ?_
  replace h := h hx8 hok9 hr11
  refine r_iconst x_122_28 ?_
  refine r_iadd x_122_29 ?_
  obtain ⟨h12, h⟩ := h
  refine r_istore x_122_30 (by decide +kernel) rfl (lv1 := [(0, .ref a0), (1, g_n v1), (2, .ref a2), (3, g_n v3), (4, g_n v4), (5, g_n w0), (6, g_n (r4 + 4)), (7, g_n (r10 + 4))]) rfl ?_
  refine r_iconst x_122_32 ?_
  refine r_istore x_122_33 (by decide +kernel) rfl (lv1 := [(0, .ref a0), (1, g_n v1), (2, .ref a2), (3, g_n v3), (4, g_n v4), (5, g_n w0), (6, g_n (r4 + 4)), (7, g_n (r10 + 4)), (8, g_n 0)]) rfl ?_
  exact h
theorem s_X7_compareInside_35 {d : Nat} {M : g_M} {Q : Int → g_M → Prop} {a0 : Nat} {v1 : Int} (hv1 : g_InR v1) {a2 : Nat} {v3 : Int} (hv3 : g_InR v3) {v4 : Int} (hv4 : g_InR v4) {v5 : Int} (hv5 : g_InR v5) {v6 : Int} (hv6 : g_InR v6) {v7 : Int} (hv7 : g_InR v7) {v8 : Int} (hv8 : g_InR v8) (h : g_ok M → ((v8 < 100000 → g_Call d 120 [.ref a0, g_n v6] M (g_qI fun r4 M1 => g_ext M M1 → g_ok M1 → g_InR r4 → g_Call d 120 [.ref a2, g_n v7] M1 (g_qI fun r9 M6 => g_ext M1 M6 → g_ok M6 → g_InR r9 → g_Call d 108 [.ref a0, g_n v6] M6 (g_qI fun r14 M11 => g_ext M6 M11 → g_ok M11 → g_InR r14 → ((r14 = 0 → g_Run d 122 76 [(0, .ref a0), (1, g_n v1), (2, .ref a2), (3, g_n v3), (4, g_n v4), (5, g_n v5), (6, g_n v6), (7, g_n v7), (8, g_n v8), (9, g_n r4), (10, g_n r9)] [] M11 (g_qI Q)) ∧ (¬ r14 = 0 → g_Call d 108 [.ref a2, g_n v7] M11 (g_qI fun r19 M16 => g_ext M11 M16 → g_ok M16 → g_InR r19 → ((r19 = 0 → g_Run d 122 76 [(0, .ref a0), (1, g_n v1), (2, .ref a2), (3, g_n v3), (4, g_n v4), (5, g_n v5), (6, g_n v6), (7, g_n v7), (8, g_n v8), (9, g_n r4), (10, g_n r9)] [] M16 (g_qI Q)) ∧ (¬ r19 = 0 → ((r4 = r9 → ((v5 = 0 → g_InR (v6 + 1) ∧ g_Call d 110 [.ref a0, g_n v6] M16 (g_qI fun r25 M22 => g_ext M16 M22 → g_ok M22 → g_InR r25 → g_InR (r25 - 1) ∧ g_InR (v7 + 1) ∧ g_Call d 110 [.ref a2, g_n v7] M22 (g_qI fun r32 M29 => g_ext M22 M29 → g_ok M29 → g_InR r32 → g_InR (r32 - 1) ∧ g_Call d 123 [.ref a0, g_n (v6 + 1), g_n (r25 - 1), .ref a2, g_n (v7 + 1), g_n (r32 - 1)] M29 (g_qI fun r38 M35 => g_ext M29 M35 → g_ok M35 → g_InR r38 → g_Run d 122 168 [(0, .ref a0), (1, g_n v1), (2, .ref a2), (3, g_n v3), (4, g_n v4), (5, g_n v5), (6, g_n v6), (7, g_n v7), (8, g_n v8), (9, g_n r4), (10, g_n r9)] [g_n r38] M35 (g_qI Q))))) ∧ (¬ v5 = 0 → g_Run d 122 168 [(0, .ref a0), (1, g_n v1), (2, .ref a2), (3, g_n v3), (4, g_n v4), (5, g_n v5), (6, g_n v6), (7, g_n v7), (8, g_n v8), (9, g_n r4), (10, g_n r9)] [g_n 0] M16 (g_qI Q)))) ∧ (¬ r4 = r9 → ((r4 < r9 → Q ((-1)) M16) ∧ (¬ r4 < r9 → Q 1 M16))))))))))))) ∧ (¬ v8 < 100000 → Q 0 M))) : g_Run d 122 35 [(0, .ref a0), (1, g_n v1), (2, .ref a2), (3, g_n v3), (4, g_n v4), (5, g_n v5), (6, g_n v6), (7, g_n v7), (8, g_n v8)] [] M (g_qI Q) := by
  refine g_Run.ok fun hok => ?_
  replace h := h hok
  refine r_iload x_122_35 rfl ?_
  refine r_ldc x_122_37 (v := g_n 100000) rfl ?_
  refine r_ic_ge x_122_39 (t := 218) (by decide +kernel) hv8 (g_Rk rfl) (fun hc => ?_) (fun hc => ?_)
  · replace h := h.2 hc
    refine r_iconst x_122_218 ?_
    exact r_retI x_122_219 rfl (g_Rk rfl) h
  · replace h := h.1 hc
    refine r_aload_n x_122_42 rfl ?_
    refine r_iload x_122_43 rfl ?_
    refine r_invS x_122_45 (z := 120) (ns := 0) (by decide +kernel) (as := [.ref a0, g_n v6]) (r := []) rfl rfl rfl ?_
    refine r_callI h fun r4 M1 hx2 hok3 hr5 h => ?_
    replace h := h hx2 hok3 hr5
    refine r_istore x_122_48 (by decide +kernel) rfl (lv1 := [(0, .ref a0), (1, g_n v1), (2, .ref a2), (3, g_n v3), (4, g_n v4), (5, g_n v5), (6, g_n v6), (7, g_n v7), (8, g_n v8), (9, g_n r4)]) rfl ?_
    refine r_aload_n x_122_50 rfl ?_
    refine r_iload x_122_51 rfl ?_
    refine r_invS x_122_53 (z := 120) (ns := 0) (by decide +kernel) (as := [.ref a2, g_n v7]) (r := []) rfl rfl rfl ?_
    refine r_callI h fun r9 M6 hx7 hok8 hr10 h => ?_
    replace h := h hx7 hok8 hr10
    refine r_istore x_122_56 (by decide +kernel) rfl (lv1 := [(0, .ref a0), (1, g_n v1), (2, .ref a2), (3, g_n v3), (4, g_n v4), (5, g_n v5), (6, g_n v6), (7, g_n v7), (8, g_n v8), (9, g_n r4), (10, g_n r9)]) rfl ?_
    refine r_aload_n x_122_58 rfl ?_
    refine r_iload x_122_59 rfl ?_
    refine r_invS x_122_61 (z := 108) (ns := 0) (by decide +kernel) (as := [.ref a0, g_n v6]) (r := []) rfl rfl rfl ?_
    refine r_callI h fun r14 M11 hx12 hok13 hr15 h => ?_
    replace h := h hx12 hok13 hr15
    refine r_if_eq x_122_64 (t := 76) (by decide +kernel) hr15 (fun hc => ?_) (fun hc => ?_)
    · replace h := h.1 hc
      exact h
    · replace h := h.2 hc
      refine r_aload_n x_122_67 rfl ?_
      refine r_iload x_122_68 rfl ?_
      refine r_invS x_122_70 (z := 108) (ns := 0) (by decide +kernel) (as := [.ref a2, g_n v7]) (r := []) rfl rfl rfl ?_
      refine r_callI h fun r19 M16 hx17 hok18 hr20 h => ?_
      replace h := h hx17 hok18 hr20
      refine r_if_ne x_122_73 (t := 110) (by decide +kernel) hr20 (fun hc => ?_) (fun hc => ?_)
      · replace h := h.2 hc
        refine r_iload x_122_110 rfl ?_
        refine r_iload x_122_112 rfl ?_
        refine r_ic_eq x_122_114 (t := 130) (by decide +kernel) hr5 hr10 (fun hc => ?_) (fun hc => ?_)
        · replace h := h.1 hc
          refine r_iload x_122_130 rfl ?_
          refine r_if_eq x_122_132 (t := 139) (by decide +kernel) hv5 (fun hc => ?_) (fun hc => ?_)
          · replace h := h.1 hc
            refine r_aload_n x_122_139 rfl ?_
            refine r_iload x_122_140 rfl ?_
            refine r_iconst x_122_142 ?_
            refine r_iadd x_122_143 ?_
            obtain ⟨h21, h⟩ := h
            refine r_aload_n x_122_144 rfl ?_
            refine r_iload x_122_145 rfl ?_
            refine r_invS x_122_147 (z := 110) (ns := 0) (by decide +kernel) (as := [.ref a0, g_n v6]) (r := [g_n (v6 + 1), .ref a0]) rfl rfl rfl ?_
            refine r_callI h fun r25 M22 hx23 hok24 hr26 h => ?_
            replace h := h hx23 hok24 hr26
            refine r_iconst x_122_150 ?_
            refine r_isub x_122_151 ?_
            obtain ⟨h27, h⟩ := h
            refine r_aload_n x_122_152 rfl ?_
            refine r_iload x_122_153 rfl ?_
            refine r_iconst x_122_155 ?_
            refine r_iadd x_122_156 ?_
            obtain ⟨h28, h⟩ := h
            refine r_aload_n x_122_157 rfl ?_
            refine r_iload x_122_158 rfl ?_
            refine r_invS x_122_160 (z := 110) (ns := 0) (by decide +kernel) (as := [.ref a2, g_n v7]) (r := [g_n (v7 + 1), .ref a2, g_n (r25 - 1), g_n (v6 + 1), .ref a0]) rfl rfl rfl ?_
            refine r_callI h fun r32 M29 hx30 hok31 hr33 h => ?_
            replace h := h hx30 hok31 hr33
            refine r_iconst x_122_163 ?_
            refine r_isub x_122_164 ?_
            obtain ⟨h34, h⟩ := h
            refine r_invS x_122_165 (z := 123) (ns := 0) (by decide +kernel) (as := [.ref a0, g_n (v6 + 1), g_n (r25 - 1), .ref a2, g_n (v7 + 1), g_n (r32 - 1)]) (r := []) rfl rfl rfl ?_
            refine r_callI h fun r38 M35 hx36 hok37 hr39 h => ?_
            replace h := h hx36 hok37 hr39
            exact h
          · replace h := h.2 hc
            refine r_iconst x_122_135 ?_
            refine r_goto x_122_136 (t := 168) (by decide +kernel) ?_
            exact h
        · replace h := h.2 hc
          refine r_iload x_122_117 rfl ?_
          refine r_iload x_122_119 rfl ?_
          refine r_ic_ge x_122_121 (t := 128) (by decide +kernel) hr5 hr10 (fun hc => ?_) (fun hc => ?_)
          · replace h := h.2 hc
            refine r_iconst x_122_128 ?_
            exact r_retI x_122_129 rfl (g_Rk rfl) h
          · replace h := h.1 hc
            refine r_iconst x_122_124 ?_
            refine r_goto x_122_125 (t := 129) (by decide +kernel) ?_
            exact r_retI x_122_129 rfl (g_Rk rfl) h
      · replace h := h.1 hc
        exact h
theorem s_X7_compareInside_76 {d : Nat} {M : g_M} {Q : Int → g_M → Prop} {a0 : Nat} {v1 : Int} (hv1 : g_InR v1) {a2 : Nat} {v3 : Int} (hv3 : g_InR v3) {v4 : Int} (hv4 : g_InR v4) {v5 : Int} (hv5 : g_InR v5) {v6 : Int} (hv6 : g_InR v6) {v7 : Int} (hv7 : g_InR v7) {v8 : Int} (hv8 : g_InR v8) {v9 : Int} (hv9 : g_InR v9) {v10 : Int} (hv10 : g_InR v10) (h : g_ok M → g_Call d 108 [.ref a0, g_n v6] M (g_qI fun r4 M1 => g_ext M M1 → g_ok M1 → g_InR r4 → g_Call d 108 [.ref a2, g_n v7] M1 (g_qI fun r9 M6 => g_ext M1 M6 → g_ok M6 → g_InR r9 → ((r4 = r9 → Q 0 M6) ∧ (¬ r4 = r9 → g_Call d 108 [.ref a0, g_n v6] M6 (g_qI fun r14 M11 => g_ext M6 M11 → g_ok M11 → g_InR r14 → ((r14 = 0 → Q ((-1)) M11) ∧ (¬ r14 = 0 → Q 1 M11)))))))) : g_Run d 122 76 [(0, .ref a0), (1, g_n v1), (2, .ref a2), (3, g_n v3), (4, g_n v4), (5, g_n v5), (6, g_n v6), (7, g_n v7), (8, g_n v8), (9, g_n v9), (10, g_n v10)] [] M (g_qI Q) := by
  refine g_Run.ok fun hok => ?_
  replace h := h hok
  refine r_aload_n x_122_76 rfl ?_
  refine r_iload x_122_77 rfl ?_
  refine r_invS x_122_79 (z := 108) (ns := 0) (by decide +kernel) (as := [.ref a0, g_n v6]) (r := []) rfl rfl rfl ?_
  refine r_callI h fun r4 M1 hx2 hok3 hr5 h => ?_
  replace h := h hx2 hok3 hr5
  refine r_aload_n x_122_82 rfl ?_
  refine r_iload x_122_83 rfl ?_
  refine r_invS x_122_85 (z := 108) (ns := 0) (by decide +kernel) (as := [.ref a2, g_n v7]) (r := [g_n r4]) rfl rfl rfl ?_
  refine r_callI h fun r9 M6 hx7 hok8 hr10 h => ?_
  replace h := h hx7 hok8 hr10
  refine r_ic_ne x_122_88 (t := 95) (by decide +kernel) hr5 hr10 (fun hc => ?_) (fun hc => ?_)
  · replace h := h.2 hc
    refine r_aload_n x_122_95 rfl ?_
    refine r_iload x_122_96 rfl ?_
    refine r_invS x_122_98 (z := 108) (ns := 0) (by decide +kernel) (as := [.ref a0, g_n v6]) (r := []) rfl rfl rfl ?_
    refine r_callI h fun r14 M11 hx12 hok13 hr15 h => ?_
    replace h := h hx12 hok13 hr15
    refine r_if_ne x_122_101 (t := 108) (by decide +kernel) hr15 (fun hc => ?_) (fun hc => ?_)
    · replace h := h.2 hc
      refine r_iconst x_122_108 ?_
      exact r_retI x_122_109 rfl (g_Rk rfl) h
    · replace h := h.1 hc
      refine r_iconst x_122_104 ?_
      refine r_goto x_122_105 (t := 109) (by decide +kernel) ?_
      exact r_retI x_122_109 rfl (g_Rk rfl) h
  · replace h := h.1 hc
    refine r_iconst x_122_91 ?_
    refine r_goto x_122_92 (t := 109) (by decide +kernel) ?_
    exact r_retI x_122_109 rfl (g_Rk rfl) h
theorem s_X7_compareInside_168 {d : Nat} {M : g_M} {Q : Int → g_M → Prop} {a0 : Nat} {v1 : Int} (hv1 : g_InR v1) {a2 : Nat} {v3 : Int} (hv3 : g_InR v3) {v4 : Int} (hv4 : g_InR v4) {v5 : Int} (hv5 : g_InR v5) {v6 : Int} (hv6 : g_InR v6) {v7 : Int} (hv7 : g_InR v7) {v8 : Int} (hv8 : g_InR v8) {v9 : Int} (hv9 : g_InR v9) {v10 : Int} (hv10 : g_InR v10) {w0 : Int} (hw0 : g_InR w0) (h : g_ok M → ((w0 = 0 → g_Call d 121 [.ref a0, g_n v6, .ref a2, g_n v7, g_n v4] M (g_qI fun r4 M1 => g_ext M M1 → g_ok M1 → g_InR r4 → g_Run d 122 188 [(0, .ref a0), (1, g_n v1), (2, .ref a2), (3, g_n v3), (4, g_n v4), (5, g_n v5), (6, g_n v6), (7, g_n v7), (8, g_n v8), (9, g_n v9), (10, g_n v10), (11, g_n r4)] [] M1 (g_qI Q))) ∧ (¬ w0 = 0 → g_Run d 122 188 [(0, .ref a0), (1, g_n v1), (2, .ref a2), (3, g_n v3), (4, g_n v4), (5, g_n v5), (6, g_n v6), (7, g_n v7), (8, g_n v8), (9, g_n v9), (10, g_n v10), (11, g_n w0)] [] M (g_qI Q)))) : g_Run d 122 168 [(0, .ref a0), (1, g_n v1), (2, .ref a2), (3, g_n v3), (4, g_n v4), (5, g_n v5), (6, g_n v6), (7, g_n v7), (8, g_n v8), (9, g_n v9), (10, g_n v10)] [g_n w0] M (g_qI Q) := by
  refine g_Run.ok fun hok => ?_
  replace h := h hok
  refine r_istore x_122_168 (by decide +kernel) rfl (lv1 := [(0, .ref a0), (1, g_n v1), (2, .ref a2), (3, g_n v3), (4, g_n v4), (5, g_n v5), (6, g_n v6), (7, g_n v7), (8, g_n v8), (9, g_n v9), (10, g_n v10), (11, g_n w0)]) rfl ?_
  refine r_iload x_122_170 rfl ?_
  refine r_if_ne x_122_172 (t := 188) (by decide +kernel) hw0 (fun hc => ?_) (fun hc => ?_)
  · replace h := h.2 hc
    exact h
  · replace h := h.1 hc
    refine r_aload_n x_122_175 rfl ?_
    refine r_iload x_122_176 rfl ?_
    refine r_aload_n x_122_178 rfl ?_
    refine r_iload x_122_179 rfl ?_
    refine r_iload x_122_181 rfl ?_
    refine r_invS x_122_183 (z := 121) (ns := 0) (by decide +kernel) (as := [.ref a0, g_n v6, .ref a2, g_n v7, g_n v4]) (r := []) rfl rfl rfl ?_
    refine r_callI h fun r4 M1 hx2 hok3 hr5 h => ?_
    replace h := h hx2 hok3 hr5
    refine r_istore x_122_186 (by decide +kernel) rfl (lv1 := [(0, .ref a0), (1, g_n v1), (2, .ref a2), (3, g_n v3), (4, g_n v4), (5, g_n v5), (6, g_n v6), (7, g_n v7), (8, g_n v8), (9, g_n v9), (10, g_n v10), (11, g_n r4)]) rfl ?_
    exact h
theorem s_X7_compareInside_188 {d : Nat} {M : g_M} {Q : Int → g_M → Prop} {a0 : Nat} {v1 : Int} (hv1 : g_InR v1) {a2 : Nat} {v3 : Int} (hv3 : g_InR v3) {v4 : Int} (hv4 : g_InR v4) {v5 : Int} (hv5 : g_InR v5) {v6 : Int} (hv6 : g_InR v6) {v7 : Int} (hv7 : g_InR v7) {v8 : Int} (hv8 : g_InR v8) {v9 : Int} (hv9 : g_InR v9) {v10 : Int} (hv10 : g_InR v10) {v11 : Int} (hv11 : g_InR v11) (h : g_ok M → ((v11 = 0 → g_Call d 111 [.ref a0, g_n v6] M (g_qI fun r4 M1 => g_ext M M1 → g_ok M1 → g_InR r4 → g_Call d 111 [.ref a2, g_n v7] M1 (g_qI fun r9 M6 => g_ext M1 M6 → g_ok M6 → g_InR r9 → g_InR (v8 + 1) ∧ g_Run d 122 35 [(0, .ref a0), (1, g_n v1), (2, .ref a2), (3, g_n v3), (4, g_n v4), (5, g_n v5), (6, g_n r4), (7, g_n r9), (8, g_n (v8 + 1))] [] M6 (g_qI Q)))) ∧ (¬ v11 = 0 → Q v11 M))) : g_Run d 122 188 [(0, .ref a0), (1, g_n v1), (2, .ref a2), (3, g_n v3), (4, g_n v4), (5, g_n v5), (6, g_n v6), (7, g_n v7), (8, g_n v8), (9, g_n v9), (10, g_n v10), (11, g_n v11)] [] M (g_qI Q) := by
  refine g_Run.ok fun hok => ?_
  replace h := h hok
  refine r_iload x_122_188 rfl ?_
  refine r_if_eq x_122_190 (t := 196) (by decide +kernel) hv11 (fun hc => ?_) (fun hc => ?_)
  · replace h := h.1 hc
    refine r_aload_n x_122_196 rfl ?_
    refine r_iload x_122_197 rfl ?_
    refine r_invS x_122_199 (z := 111) (ns := 0) (by decide +kernel) (as := [.ref a0, g_n v6]) (r := []) rfl rfl rfl ?_
    refine r_callI h fun r4 M1 hx2 hok3 hr5 h => ?_
    replace h := h hx2 hok3 hr5
    refine r_istore x_122_202 (by decide +kernel) rfl (lv1 := [(0, .ref a0), (1, g_n v1), (2, .ref a2), (3, g_n v3), (4, g_n v4), (5, g_n v5), (6, g_n r4), (7, g_n v7), (8, g_n v8), (9, g_n v9), (10, g_n v10), (11, g_n v11)]) rfl ?_
    refine r_aload_n x_122_204 rfl ?_
    refine r_iload x_122_205 rfl ?_
    refine r_invS x_122_207 (z := 111) (ns := 0) (by decide +kernel) (as := [.ref a2, g_n v7]) (r := []) rfl rfl rfl ?_
    refine r_callI h fun r9 M6 hx7 hok8 hr10 h => ?_
    replace h := h hx7 hok8 hr10
    refine r_istore x_122_210 (by decide +kernel) rfl (lv1 := [(0, .ref a0), (1, g_n v1), (2, .ref a2), (3, g_n v3), (4, g_n v4), (5, g_n v5), (6, g_n r4), (7, g_n r9), (8, g_n v8), (9, g_n v9), (10, g_n v10), (11, g_n v11)]) rfl ?_
    obtain ⟨h11, h⟩ := h
    refine r_iinc x_122_212 (by decide +kernel) rfl rfl (lv1 := [(0, .ref a0), (1, g_n v1), (2, .ref a2), (3, g_n v3), (4, g_n v4), (5, g_n v5), (6, g_n r4), (7, g_n r9), (8, g_n (v8 + 1)), (9, g_n v9), (10, g_n v10), (11, g_n v11)]) rfl ?_
    refine r_goto x_122_215 (t := 35) (by decide +kernel) ?_
    refine g_drop [0, 1, 2, 3, 4, 5, 6, 7, 8] (lv1 := [(0, .ref a0), (1, g_n v1), (2, .ref a2), (3, g_n v3), (4, g_n v4), (5, g_n v5), (6, g_n r4), (7, g_n r9), (8, g_n (v8 + 1))]) rfl ?_
    exact h
  · replace h := h.2 hc
    refine r_iload x_122_193 rfl ?_
    exact r_retI x_122_195 rfl hv11 h
theorem m_X7_compareRuns {d : Nat} {M : g_M} {Q : Int → g_M → Prop} {a0 : Nat} {v1 : Int} (hv1 : g_InR v1) {v2 : Int} (hv2 : g_InR v2) {a3 : Nat} {v4 : Int} (hv4 : g_InR v4) {v5 : Int} (hv5 : g_InR v5) (h : g_ok M → ((v1 < 0 → Q 0 M) ∧ (¬ v1 < 0 → ∃ n1, g_A M a0 0 n1 ∧ g_InR n1 ∧ ((n1 < v2 → Q 0 M) ∧ (¬ n1 < v2 → ((v4 < 0 → Q 0 M) ∧ (¬ v4 < 0 → ∃ n4, g_A M a3 0 n4 ∧ g_InR n4 ∧ ((n4 < v5 → Q 0 M) ∧ (¬ n4 < v5 → g_InR (v2 - v1) ∧ g_InR (v5 - v4) ∧ g_Run d 123 40 [(0, .ref a0), (1, g_n v1), (2, g_n v2), (3, .ref a3), (4, g_n v4), (5, g_n v5), (6, g_n (min (v2 - v1) (v5 - v4))), (7, g_n 0)] [] M (g_qI Q)))))))))) : g_Call (d + 1) 123 [.ref a0, g_n v1, g_n v2, .ref a3, g_n v4, g_n v5] M (g_qI Q) := by
  refine g_Call.ok fun hok0 => ?_
  replace h := h hok0
  refine r_body rfl (lv := [(0, .ref a0), (1, g_n v1), (2, g_n v2), (3, .ref a3), (4, g_n v4), (5, g_n v5)]) rfl ?_
  refine g_Run.ok fun hok => ?_
  refine r_iload_n x_123_0 rfl ?_
  refine r_if_lt x_123_1 (t := 22) (by decide +kernel) hv1 (fun hc => ?_) (fun hc => ?_)
  · replace h := h.1 hc
    refine r_iconst x_123_22 ?_
    exact r_retI x_123_23 rfl (g_Rk rfl) h
  · replace h := h.2 hc
    refine r_iload_n x_123_4 rfl ?_
    refine r_aload_n x_123_5 rfl ?_
    obtain ⟨n1, hA2, h⟩ := h
    refine r_alen x_123_6 hA2 ?_
    obtain ⟨h3, h⟩ := h
    refine r_ic_gt x_123_7 (t := 22) (by decide +kernel) hv2 h3 (fun hc => ?_) (fun hc => ?_)
    · replace h := h.1 hc
      refine r_iconst x_123_22 ?_
      exact r_retI x_123_23 rfl (g_Rk rfl) h
    · replace h := h.2 hc
      refine r_iload x_123_10 rfl ?_
      refine r_if_lt x_123_12 (t := 22) (by decide +kernel) hv4 (fun hc => ?_) (fun hc => ?_)
      · replace h := h.1 hc
        refine r_iconst x_123_22 ?_
        exact r_retI x_123_23 rfl (g_Rk rfl) h
      · replace h := h.2 hc
        refine r_iload x_123_15 rfl ?_
        refine r_aload_n x_123_17 rfl ?_
        obtain ⟨n4, hA5, h⟩ := h
        refine r_alen x_123_18 hA5 ?_
        obtain ⟨h6, h⟩ := h
        refine r_ic_le x_123_19 (t := 24) (by decide +kernel) hv5 h6 (fun hc => ?_) (fun hc => ?_)
        · replace h := h.2 hc
          refine r_iload_n x_123_24 rfl ?_
          refine r_iload_n x_123_25 rfl ?_
          refine r_isub x_123_26 ?_
          obtain ⟨h7, h⟩ := h
          refine r_iload x_123_27 rfl ?_
          refine r_iload x_123_29 rfl ?_
          refine r_isub x_123_31 ?_
          obtain ⟨h8, h⟩ := h
          refine r_min x_123_32 rfl rfl rfl rfl h7 h8 ?_
          refine r_istore x_123_35 (by decide +kernel) rfl (lv1 := [(0, .ref a0), (1, g_n v1), (2, g_n v2), (3, .ref a3), (4, g_n v4), (5, g_n v5), (6, g_n (min (v2 - v1) (v5 - v4)))]) rfl ?_
          refine r_iconst x_123_37 ?_
          refine r_istore x_123_38 (by decide +kernel) rfl (lv1 := [(0, .ref a0), (1, g_n v1), (2, g_n v2), (3, .ref a3), (4, g_n v4), (5, g_n v5), (6, g_n (min (v2 - v1) (v5 - v4))), (7, g_n 0)]) rfl ?_
          exact h
        · replace h := h.1 hc
          refine r_iconst x_123_22 ?_
          exact r_retI x_123_23 rfl (g_Rk rfl) h
theorem s_X7_compareRuns_40 {d : Nat} {M : g_M} {Q : Int → g_M → Prop} {a0 : Nat} {v1 : Int} (hv1 : g_InR v1) {v2 : Int} (hv2 : g_InR v2) {a3 : Nat} {v4 : Int} (hv4 : g_InR v4) {v5 : Int} (hv5 : g_InR v5) {v6 : Int} (hv6 : g_InR v6) {v7 : Int} (hv7 : g_InR v7) (h : g_ok M → ((v7 < v6 → g_InR (v1 + v7) ∧ ∃ n9, g_A M a0 0 n9 ∧ ((0 : Int) ≤ v1 + v7 ∧ (v1 + v7 : Int) < n9) ∧ g_InR (v4 + v7) ∧ ∃ n13, g_A M a3 0 n13 ∧ ((0 : Int) ≤ v4 + v7 ∧ (v4 + v7 : Int) < n13) ∧ ((g_and (g_i M a0 (v1 + v7)) 255 = g_and (g_i M a3 (v4 + v7)) 255 → g_InR (v7 + 1) ∧ g_Run d 123 40 [(0, .ref a0), (1, g_n v1), (2, g_n v2), (3, .ref a3), (4, g_n v4), (5, g_n v5), (6, g_n v6), (7, g_n (v7 + 1))] [] M (g_qI Q)) ∧ (¬ g_and (g_i M a0 (v1 + v7)) 255 = g_and (g_i M a3 (v4 + v7)) 255 → ((g_and (g_i M a0 (v1 + v7)) 255 < g_and (g_i M a3 (v4 + v7)) 255 → Q ((-1)) M) ∧ (¬ g_and (g_i M a0 (v1 + v7)) 255 < g_and (g_i M a3 (v4 + v7)) 255 → Q 1 M))))) ∧ (¬ v7 < v6 → g_InR (v2 - v1) ∧ g_InR (v5 - v4) ∧ g_Call d 440 [g_n (v2 - v1), g_n (v5 - v4)] M (g_qI fun r6 M3 => g_ext M M3 → g_ok M3 → g_InR r6 → Q r6 M3)))) : g_Run d 123 40 [(0, .ref a0), (1, g_n v1), (2, g_n v2), (3, .ref a3), (4, g_n v4), (5, g_n v5), (6, g_n v6), (7, g_n v7)] [] M (g_qI Q) := by
  refine g_Run.ok fun hok => ?_
  replace h := h hok
  refine r_iload x_123_40 rfl ?_
  refine r_iload x_123_42 rfl ?_
  refine r_ic_ge x_123_44 (t := 98) (by decide +kernel) hv7 hv6 (fun hc => ?_) (fun hc => ?_)
  · replace h := h.2 hc
    refine r_iload_n x_123_98 rfl ?_
    refine r_iload_n x_123_99 rfl ?_
    refine r_isub x_123_100 ?_
    obtain ⟨h1, h⟩ := h
    refine r_iload x_123_101 rfl ?_
    refine r_iload x_123_103 rfl ?_
    refine r_isub x_123_105 ?_
    obtain ⟨h2, h⟩ := h
    refine r_invS x_123_106 (z := 440) (ns := 0) (by decide +kernel) (as := [g_n (v2 - v1), g_n (v5 - v4)]) (r := []) rfl rfl rfl ?_
    refine r_callI h fun r6 M3 hx4 hok5 hr7 h => ?_
    replace h := h hx4 hok5 hr7
    exact r_retI x_123_109 rfl hr7 h
  · replace h := h.1 hc
    refine r_aload_n x_123_47 rfl ?_
    refine r_iload_n x_123_48 rfl ?_
    refine r_iload x_123_49 rfl ?_
    refine r_iadd x_123_51 ?_
    obtain ⟨h8, h⟩ := h
    obtain ⟨n9, hA10, h⟩ := h
    obtain ⟨h11, h⟩ := h
    refine r_bald x_123_52 (Or.inl rfl) hA10 h8 h11.1 h11.2 ?_
    refine r_sipush x_123_53 (x := 255) rfl ?_
    refine r_iand x_123_56 ?_
    refine r_istore x_123_57 (by decide +kernel) rfl (lv1 := [(0, .ref a0), (1, g_n v1), (2, g_n v2), (3, .ref a3), (4, g_n v4), (5, g_n v5), (6, g_n v6), (7, g_n v7), (8, g_n (g_and (g_i M a0 (v1 + v7)) 255))]) rfl ?_
    refine r_aload_n x_123_59 rfl ?_
    refine r_iload x_123_60 rfl ?_
    refine r_iload x_123_62 rfl ?_
    refine r_iadd x_123_64 ?_
    obtain ⟨h12, h⟩ := h
    obtain ⟨n13, hA14, h⟩ := h
    obtain ⟨h15, h⟩ := h
    refine r_bald x_123_65 (Or.inl rfl) hA14 h12 h15.1 h15.2 ?_
    refine r_sipush x_123_66 (x := 255) rfl ?_
    refine r_iand x_123_69 ?_
    refine r_istore x_123_70 (by decide +kernel) rfl (lv1 := [(0, .ref a0), (1, g_n v1), (2, g_n v2), (3, .ref a3), (4, g_n v4), (5, g_n v5), (6, g_n v6), (7, g_n v7), (8, g_n (g_and (g_i M a0 (v1 + v7)) 255)), (9, g_n (g_and (g_i M a3 (v4 + v7)) 255))]) rfl ?_
    refine r_iload x_123_72 rfl ?_
    refine r_iload x_123_74 rfl ?_
    refine r_ic_eq x_123_76 (t := 92) (by decide +kernel) (g_InR_toInt _) (g_InR_toInt _) (fun hc => ?_) (fun hc => ?_)
    · replace h := h.1 hc
      obtain ⟨h16, h⟩ := h
      refine r_iinc x_123_92 (by decide +kernel) rfl rfl (lv1 := [(0, .ref a0), (1, g_n v1), (2, g_n v2), (3, .ref a3), (4, g_n v4), (5, g_n v5), (6, g_n v6), (7, g_n (v7 + 1)), (8, g_n (g_and (g_i M a0 (v1 + v7)) 255)), (9, g_n (g_and (g_i M a3 (v4 + v7)) 255))]) rfl ?_
      refine r_goto x_123_95 (t := 40) (by decide +kernel) ?_
      refine g_drop [0, 1, 2, 3, 4, 5, 6, 7] (lv1 := [(0, .ref a0), (1, g_n v1), (2, g_n v2), (3, .ref a3), (4, g_n v4), (5, g_n v5), (6, g_n v6), (7, g_n (v7 + 1))]) rfl ?_
      exact h
    · replace h := h.2 hc
      refine r_iload x_123_79 rfl ?_
      refine r_iload x_123_81 rfl ?_
      refine r_ic_ge x_123_83 (t := 90) (by decide +kernel) (g_InR_toInt _) (g_InR_toInt _) (fun hc => ?_) (fun hc => ?_)
      · replace h := h.2 hc
        refine r_iconst x_123_90 ?_
        exact r_retI x_123_91 rfl (g_Rk rfl) h
      · replace h := h.1 hc
        refine r_iconst x_123_86 ?_
        refine r_goto x_123_87 (t := 91) (by decide +kernel) ?_
        exact r_retI x_123_91 rfl (g_Rk rfl) h
theorem m_X7_deepest {d : Nat} {M : g_M} {Q : Int → g_M → Prop} {a0 : Nat} {v1 : Int} (hv1 : g_InR v1) {v2 : Int} (hv2 : g_InR v2) (h : g_ok M → ((60 < v2 → Q v2 M) ∧ (¬ 60 < v2 → g_Call d 112 [.ref a0, g_n v1] M (g_qI fun r4 M1 => g_ext M M1 → g_ok M1 → g_InR r4 → g_Run d 124 20 [(0, .ref a0), (1, g_n v1), (2, g_n v2), (3, g_n v2), (4, g_n r4), (5, g_n 0)] [] M1 (g_qI Q))))) : g_Call (d + 1) 124 [.ref a0, g_n v1, g_n v2] M (g_qI Q) := by
  refine g_Call.ok fun hok0 => ?_
  replace h := h hok0
  refine r_body rfl (lv := [(0, .ref a0), (1, g_n v1), (2, g_n v2)]) rfl ?_
  refine g_Run.ok fun hok => ?_
  refine r_iload_n x_124_0 rfl ?_
  refine r_istore_n x_124_1 (by decide +kernel) rfl (lv1 := [(0, .ref a0), (1, g_n v1), (2, g_n v2), (3, g_n v2)]) rfl ?_
  refine r_iload_n x_124_2 rfl ?_
  refine r_bipush x_124_3 (x := 60) rfl ?_
  refine r_ic_le x_124_5 (t := 10) (by decide +kernel) hv2 (g_Rk rfl) (fun hc => ?_) (fun hc => ?_)
  · replace h := h.2 hc
    refine r_aload_n x_124_10 rfl ?_
    refine r_iload_n x_124_11 rfl ?_
    refine r_invS x_124_12 (z := 112) (ns := 0) (by decide +kernel) (as := [.ref a0, g_n v1]) (r := []) rfl rfl rfl ?_
    refine r_callI h fun r4 M1 hx2 hok3 hr5 h => ?_
    replace h := h hx2 hok3 hr5
    refine r_istore x_124_15 (by decide +kernel) rfl (lv1 := [(0, .ref a0), (1, g_n v1), (2, g_n v2), (3, g_n v2), (4, g_n r4)]) rfl ?_
    refine r_iconst x_124_17 ?_
    refine r_istore x_124_18 (by decide +kernel) rfl (lv1 := [(0, .ref a0), (1, g_n v1), (2, g_n v2), (3, g_n v2), (4, g_n r4), (5, g_n 0)]) rfl ?_
    exact h
  · replace h := h.1 hc
    refine r_iload_n x_124_8 rfl ?_
    exact r_retI x_124_9 rfl hv2 h
theorem s_X7_deepest_20 {d : Nat} {M : g_M} {Q : Int → g_M → Prop} {a0 : Nat} {v1 : Int} (hv1 : g_InR v1) {v2 : Int} (hv2 : g_InR v2) {v3 : Int} (hv3 : g_InR v3) {v4 : Int} (hv4 : g_InR v4) {v5 : Int} (hv5 : g_InR v5) (h : g_ok M → ((v5 < 100000 → g_Call d 108 [.ref a0, g_n v4] M (g_qI fun r4 M1 => g_ext M M1 → g_ok M1 → g_InR r4 → ((r4 = 0 → Q v3 M1) ∧ (¬ r4 = 0 → ∃ n6, g_A M1 a0 0 n6 ∧ ((0 : Int) ≤ v4 ∧ (v4 : Int) < n6) ∧ ((g_i M1 a0 v4 = 3 → g_Run d 124 52 [(0, .ref a0), (1, g_n v1), (2, g_n v2), (3, g_n v3), (4, g_n v4), (5, g_n v5)] [] M1 (g_qI Q)) ∧ (¬ g_i M1 a0 v4 = 3 → ((0 : Int) ≤ v4 ∧ (v4 : Int) < n6) ∧ ((g_i M1 a0 v4 = 4 → g_Run d 124 52 [(0, .ref a0), (1, g_n v1), (2, g_n v2), (3, g_n v3), (4, g_n v4), (5, g_n v5)] [] M1 (g_qI Q)) ∧ (¬ g_i M1 a0 v4 = 4 → g_Call d 111 [.ref a0, g_n v4] M1 (g_qI fun r13 M10 => g_ext M1 M10 → g_ok M10 → g_InR r13 → g_InR (v5 + 1) ∧ g_Run d 124 20 [(0, .ref a0), (1, g_n v1), (2, g_n v2), (3, g_n v3), (4, g_n r13), (5, g_n (v5 + 1))] [] M10 (g_qI Q)))))))))) ∧ (¬ v5 < 100000 → Q v3 M))) : g_Run d 124 20 [(0, .ref a0), (1, g_n v1), (2, g_n v2), (3, g_n v3), (4, g_n v4), (5, g_n v5)] [] M (g_qI Q) := by
  refine g_Run.ok fun hok => ?_
  replace h := h hok
  refine r_iload x_124_20 rfl ?_
  refine r_ldc x_124_22 (v := g_n 100000) rfl ?_
  refine r_ic_ge x_124_24 (t := 80) (by decide +kernel) hv5 (g_Rk rfl) (fun hc => ?_) (fun hc => ?_)
  · replace h := h.2 hc
    refine r_iload_n x_124_80 rfl ?_
    exact r_retI x_124_81 rfl hv3 h
  · replace h := h.1 hc
    refine r_aload_n x_124_27 rfl ?_
    refine r_iload x_124_28 rfl ?_
    refine r_invS x_124_30 (z := 108) (ns := 0) (by decide +kernel) (as := [.ref a0, g_n v4]) (r := []) rfl rfl rfl ?_
    refine r_callI h fun r4 M1 hx2 hok3 hr5 h => ?_
    replace h := h hx2 hok3 hr5
    refine r_if_eq x_124_33 (t := 80) (by decide +kernel) hr5 (fun hc => ?_) (fun hc => ?_)
    · replace h := h.1 hc
      refine r_iload_n x_124_80 rfl ?_
      exact r_retI x_124_81 rfl hv3 h
    · replace h := h.2 hc
      refine r_aload_n x_124_36 rfl ?_
      refine r_iload x_124_37 rfl ?_
      obtain ⟨n6, hA7, h⟩ := h
      obtain ⟨h8, h⟩ := h
      refine r_bald x_124_39 (Or.inl rfl) hA7 hv4 h8.1 h8.2 ?_
      refine r_iconst x_124_40 ?_
      refine r_ic_eq x_124_41 (t := 52) (by decide +kernel) (hok3.1 _ _) (g_Rk rfl) (fun hc => ?_) (fun hc => ?_)
      · replace h := h.1 hc
        exact h
      · replace h := h.2 hc
        refine r_aload_n x_124_44 rfl ?_
        refine r_iload x_124_45 rfl ?_
        obtain ⟨h9, h⟩ := h
        refine r_bald x_124_47 (Or.inl rfl) hA7 hv4 h9.1 h9.2 ?_
        refine r_iconst x_124_48 ?_
        refine r_ic_ne x_124_49 (t := 66) (by decide +kernel) (hok3.1 _ _) (g_Rk rfl) (fun hc => ?_) (fun hc => ?_)
        · replace h := h.2 hc
          refine r_aload_n x_124_66 rfl ?_
          refine r_iload x_124_67 rfl ?_
          refine r_invS x_124_69 (z := 111) (ns := 0) (by decide +kernel) (as := [.ref a0, g_n v4]) (r := []) rfl rfl rfl ?_
          refine r_callI h fun r13 M10 hx11 hok12 hr14 h => ?_
          replace h := h hx11 hok12 hr14
          replace hA7 := hA7.up hx11
          refine r_istore x_124_72 (by decide +kernel) rfl (lv1 := [(0, .ref a0), (1, g_n v1), (2, g_n v2), (3, g_n v3), (4, g_n r13), (5, g_n v5)]) rfl ?_
          obtain ⟨h15, h⟩ := h
          refine r_iinc x_124_74 (by decide +kernel) rfl rfl (lv1 := [(0, .ref a0), (1, g_n v1), (2, g_n v2), (3, g_n v3), (4, g_n r13), (5, g_n (v5 + 1))]) rfl ?_
          refine r_goto x_124_77 (t := 20) (by decide +kernel) ?_
          exact h
        · replace h := h.1 hc
          exact h
theorem s_X7_deepest_52 {d : Nat} {M : g_M} {Q : Int → g_M → Prop} {a0 : Nat} {v1 : Int} (hv1 : g_InR v1) {v2 : Int} (hv2 : g_InR v2) {v3 : Int} (hv3 : g_InR v3) {v4 : Int} (hv4 : g_InR v4) {v5 : Int} (hv5 : g_InR v5) (h : g_ok M → g_InR (v2 + 1) ∧ g_Call d 124 [.ref a0, g_n v4, g_n (v2 + 1)] M (g_qI fun r5 M2 => g_ext M M2 → g_ok M2 → g_InR r5 → g_Call d 111 [.ref a0, g_n v4] M2 (g_qI fun r10 M7 => g_ext M2 M7 → g_ok M7 → g_InR r10 → g_InR (v5 + 1) ∧ g_Run d 124 20 [(0, .ref a0), (1, g_n v1), (2, g_n v2), (3, g_n (max v3 r5)), (4, g_n r10), (5, g_n (v5 + 1))] [] M7 (g_qI Q)))) : g_Run d 124 52 [(0, .ref a0), (1, g_n v1), (2, g_n v2), (3, g_n v3), (4, g_n v4), (5, g_n v5)] [] M (g_qI Q) := by
  refine g_Run.ok fun hok => ?_
  replace h := h hok
  refine r_iload_n x_124_52 rfl ?_
  refine r_aload_n x_124_53 rfl ?_
  refine r_iload x_124_54 rfl ?_
  refine r_iload_n x_124_56 rfl ?_
  refine r_iconst x_124_57 ?_
  refine r_iadd x_124_58 ?_
  obtain ⟨h1, h⟩ := h
  refine r_invS x_124_59 (z := 124) (ns := 0) (by decide +kernel) (as := [.ref a0, g_n v4, g_n (v2 + 1)]) (r := [g_n v3]) rfl rfl rfl ?_
  refine r_callI h fun r5 M2 hx3 hok4 hr6 h => ?_
  replace h := h hx3 hok4 hr6
  refine r_max x_124_62 rfl rfl rfl rfl hv3 hr6 ?_
  refine r_istore_n x_124_65 (by decide +kernel) rfl (lv1 := [(0, .ref a0), (1, g_n v1), (2, g_n v2), (3, g_n (max v3 r5)), (4, g_n v4), (5, g_n v5)]) rfl ?_
  refine r_aload_n x_124_66 rfl ?_
  refine r_iload x_124_67 rfl ?_
  refine r_invS x_124_69 (z := 111) (ns := 0) (by decide +kernel) (as := [.ref a0, g_n v4]) (r := []) rfl rfl rfl ?_
  refine r_callI h fun r10 M7 hx8 hok9 hr11 h => ?_
  replace h := h hx8 hok9 hr11
  refine r_istore x_124_72 (by decide +kernel) rfl (lv1 := [(0, .ref a0), (1, g_n v1), (2, g_n v2), (3, g_n (max v3 r5)), (4, g_n r10), (5, g_n v5)]) rfl ?_
  obtain ⟨h12, h⟩ := h
  refine r_iinc x_124_74 (by decide +kernel) rfl rfl (lv1 := [(0, .ref a0), (1, g_n v1), (2, g_n v2), (3, g_n (max v3 r5)), (4, g_n r10), (5, g_n (v5 + 1))]) rfl ?_
  refine r_goto x_124_77 (t := 20) (by decide +kernel) ?_
  exact h
theorem m_X7_isDecimal {d : Nat} {M : g_M} {Q : Int → g_M → Prop} {a0 : Nat} {v1 : Int} (hv1 : g_InR v1) {v2 : Int} (hv2 : g_InR v2) {v3 : Int} (hv3 : g_InR v3) (h : g_ok M → g_InR (v2 - 1) ∧ g_Run d 125 8 [(0, .ref a0), (1, g_n v1), (2, g_n v2), (3, g_n v3), (4, g_n v3), (5, g_n (v2 - 1))] [] M (g_qI Q)) : g_Call (d + 1) 125 [.ref a0, g_n v1, g_n v2, g_n v3] M (g_qI Q) := by
  refine g_Call.ok fun hok0 => ?_
  replace h := h hok0
  refine r_body rfl (lv := [(0, .ref a0), (1, g_n v1), (2, g_n v2), (3, g_n v3)]) rfl ?_
  refine g_Run.ok fun hok => ?_
  refine r_iload_n x_125_0 rfl ?_
  refine r_istore x_125_1 (by decide +kernel) rfl (lv1 := [(0, .ref a0), (1, g_n v1), (2, g_n v2), (3, g_n v3), (4, g_n v3)]) rfl ?_
  refine r_iload_n x_125_3 rfl ?_
  refine r_iconst x_125_4 ?_
  refine r_isub x_125_5 ?_
  obtain ⟨h1, h⟩ := h
  refine r_istore x_125_6 (by decide +kernel) rfl (lv1 := [(0, .ref a0), (1, g_n v1), (2, g_n v2), (3, g_n v3), (4, g_n v3), (5, g_n (v2 - 1))]) rfl ?_
  exact h
theorem s_X7_isDecimal_8 {d : Nat} {M : g_M} {Q : Int → g_M → Prop} {a0 : Nat} {v1 : Int} (hv1 : g_InR v1) {v2 : Int} (hv2 : g_InR v2) {v3 : Int} (hv3 : g_InR v3) {v4 : Int} (hv4 : g_InR v4) {v5 : Int} (hv5 : g_InR v5) (h : g_ok M → ((v5 < v1 → Q 0 M) ∧ (¬ v5 < v1 → ((v5 < 0 → Q 0 M) ∧ (¬ v5 < 0 → ∃ n1, g_A M a0 0 n1 ∧ g_InR n1 ∧ ((v5 < n1 → ((0 : Int) ≤ v5 ∧ (v5 : Int) < n1) ∧ g_InR (48 + (v4.tmod 10)) ∧ ((g_i M a0 v5 = 48 + (v4.tmod 10) → ((v4.tdiv 10 = 0 → ((v5 = v1 → Q 1 M) ∧ (¬ v5 = v1 → Q 0 M))) ∧ (¬ v4.tdiv 10 = 0 → g_InR (v5 + (-1)) ∧ g_Run d 125 8 [(0, .ref a0), (1, g_n v1), (2, g_n v2), (3, g_n v3), (4, g_n (v4.tdiv 10)), (5, g_n (v5 + (-1)))] [] M (g_qI Q)))) ∧ (¬ g_i M a0 v5 = 48 + (v4.tmod 10) → Q 0 M))) ∧ (¬ v5 < n1 → Q 0 M))))))) : g_Run d 125 8 [(0, .ref a0), (1, g_n v1), (2, g_n v2), (3, g_n v3), (4, g_n v4), (5, g_n v5)] [] M (g_qI Q) := by
  refine g_Run.ok fun hok => ?_
  replace h := h hok
  refine r_iload x_125_8 rfl ?_
  refine r_iload_n x_125_10 rfl ?_
  refine r_ic_lt x_125_11 (t := 73) (by decide +kernel) hv5 hv1 (fun hc => ?_) (fun hc => ?_)
  · replace h := h.1 hc
    refine r_iconst x_125_73 ?_
    exact r_retZ x_125_74 rfl (Or.inl rfl) h
  · replace h := h.2 hc
    refine r_iload x_125_14 rfl ?_
    refine r_if_lt x_125_16 (t := 73) (by decide +kernel) hv5 (fun hc => ?_) (fun hc => ?_)
    · replace h := h.1 hc
      refine r_iconst x_125_73 ?_
      exact r_retZ x_125_74 rfl (Or.inl rfl) h
    · replace h := h.2 hc
      refine r_iload x_125_19 rfl ?_
      refine r_aload_n x_125_21 rfl ?_
      obtain ⟨n1, hA2, h⟩ := h
      refine r_alen x_125_22 hA2 ?_
      obtain ⟨h3, h⟩ := h
      refine r_ic_ge x_125_23 (t := 73) (by decide +kernel) hv5 h3 (fun hc => ?_) (fun hc => ?_)
      · replace h := h.2 hc
        refine r_iconst x_125_73 ?_
        exact r_retZ x_125_74 rfl (Or.inl rfl) h
      · replace h := h.1 hc
        refine r_aload_n x_125_26 rfl ?_
        refine r_iload x_125_27 rfl ?_
        obtain ⟨h4, h⟩ := h
        refine r_bald x_125_29 (Or.inl rfl) hA2 hv5 h4.1 h4.2 ?_
        refine r_bipush x_125_30 (x := 48) rfl ?_
        refine r_iload x_125_32 rfl ?_
        refine r_bipush x_125_34 (x := 10) rfl ?_
        refine r_irem x_125_36 hv4 (g_Rk rfl) (by decide) ?_
        refine r_iadd x_125_37 ?_
        obtain ⟨h5, h⟩ := h
        refine r_ic_eq x_125_38 (t := 43) (by decide +kernel) (hok.1 _ _) h5 (fun hc => ?_) (fun hc => ?_)
        · replace h := h.1 hc
          refine r_iload x_125_43 rfl ?_
          refine r_bipush x_125_45 (x := 10) rfl ?_
          refine r_idiv x_125_47 hv4 (g_Rk rfl) (by decide) ?_
          refine r_istore x_125_48 (by decide +kernel) rfl (lv1 := [(0, .ref a0), (1, g_n v1), (2, g_n v2), (3, g_n v3), (4, g_n (v4.tdiv 10)), (5, g_n v5)]) rfl ?_
          refine r_iload x_125_50 rfl ?_
          refine r_if_ne x_125_52 (t := 67) (by decide +kernel) (g_tdiv_R hv4 (by decide)) (fun hc => ?_) (fun hc => ?_)
          · replace h := h.2 hc
            obtain ⟨h6, h⟩ := h
            refine r_iinc x_125_67 (by decide +kernel) rfl rfl (lv1 := [(0, .ref a0), (1, g_n v1), (2, g_n v2), (3, g_n v3), (4, g_n (v4.tdiv 10)), (5, g_n (v5 + (-1)))]) rfl ?_
            refine r_goto x_125_70 (t := 8) (by decide +kernel) ?_
            exact h
          · replace h := h.1 hc
            refine r_iload x_125_55 rfl ?_
            refine r_iload_n x_125_57 rfl ?_
            refine r_ic_ne x_125_58 (t := 65) (by decide +kernel) hv5 hv1 (fun hc => ?_) (fun hc => ?_)
            · replace h := h.2 hc
              refine r_iconst x_125_65 ?_
              exact r_retZ x_125_66 rfl (Or.inl rfl) h
            · replace h := h.1 hc
              refine r_iconst x_125_61 ?_
              refine r_goto x_125_62 (t := 66) (by decide +kernel) ?_
              exact r_retZ x_125_66 rfl (Or.inr rfl) h
        · replace h := h.2 hc
          refine r_iconst x_125_41 ?_
          exact r_retZ x_125_42 rfl (Or.inl rfl) h
theorem m_X7_badCharacter {d : Nat} {M : g_M} {Q : Int → g_M → Prop} {a0 : Nat} {v1 : Int} (hv1 : g_InR v1) {v2 : Int} (hv2 : g_InR v2) (h : g_ok M → g_Run d 126 5 [(0, .ref a0), (1, g_n v1), (2, g_n v2), (3, g_n v1), (4, g_n 0)] [] M (g_qI Q)) : g_Call (d + 1) 126 [.ref a0, g_n v1, g_n v2] M (g_qI Q) := by
  refine g_Call.ok fun hok0 => ?_
  replace h := h hok0
  refine r_body rfl (lv := [(0, .ref a0), (1, g_n v1), (2, g_n v2)]) rfl ?_
  refine g_Run.ok fun hok => ?_
  refine r_iload_n x_126_0 rfl ?_
  refine r_istore_n x_126_1 (by decide +kernel) rfl (lv1 := [(0, .ref a0), (1, g_n v1), (2, g_n v2), (3, g_n v1)]) rfl ?_
  refine r_iconst x_126_2 ?_
  refine r_istore x_126_3 (by decide +kernel) rfl (lv1 := [(0, .ref a0), (1, g_n v1), (2, g_n v2), (3, g_n v1), (4, g_n 0)]) rfl ?_
  exact h
theorem s_X7_badCharacter_5 {d : Nat} {M : g_M} {Q : Int → g_M → Prop} {a0 : Nat} {v1 : Int} (hv1 : g_InR v1) {v2 : Int} (hv2 : g_InR v2) {v3 : Int} (hv3 : g_InR v3) {v4 : Int} (hv4 : g_InR v4) (h : g_ok M → ((v4 < 100000 → ((v3 < v2 → g_Call d 127 [.ref a0, g_n v3, g_n v2] M (g_qI fun r4 M1 => g_ext M M1 → g_ok M1 → g_InR r4 → ((r4 = 0 → Q v3 M1) ∧ (¬ r4 = 0 → g_InR (v3 + r4) ∧ g_InR (v4 + 1) ∧ g_Run d 126 5 [(0, .ref a0), (1, g_n v1), (2, g_n v2), (3, g_n (v3 + r4)), (4, g_n (v4 + 1))] [] M1 (g_qI Q))))) ∧ (¬ v3 < v2 → Q ((-1)) M))) ∧ (¬ v4 < 100000 → Q ((-1)) M))) : g_Run d 126 5 [(0, .ref a0), (1, g_n v1), (2, g_n v2), (3, g_n v3), (4, g_n v4)] [] M (g_qI Q) := by
  refine g_Run.ok fun hok => ?_
  replace h := h hok
  refine r_iload x_126_5 rfl ?_
  refine r_ldc x_126_7 (v := g_n 100000) rfl ?_
  refine r_ic_ge x_126_9 (t := 43) (by decide +kernel) hv4 (g_Rk rfl) (fun hc => ?_) (fun hc => ?_)
  · replace h := h.2 hc
    refine r_iconst x_126_43 ?_
    exact r_retI x_126_44 rfl (g_Rk rfl) h
  · replace h := h.1 hc
    refine r_iload_n x_126_12 rfl ?_
    refine r_iload_n x_126_13 rfl ?_
    refine r_ic_ge x_126_14 (t := 43) (by decide +kernel) hv3 hv2 (fun hc => ?_) (fun hc => ?_)
    · replace h := h.2 hc
      refine r_iconst x_126_43 ?_
      exact r_retI x_126_44 rfl (g_Rk rfl) h
    · replace h := h.1 hc
      refine r_aload_n x_126_17 rfl ?_
      refine r_iload_n x_126_18 rfl ?_
      refine r_iload_n x_126_19 rfl ?_
      refine r_invS x_126_20 (z := 127) (ns := 0) (by decide +kernel) (as := [.ref a0, g_n v3, g_n v2]) (r := []) rfl rfl rfl ?_
      refine r_callI h fun r4 M1 hx2 hok3 hr5 h => ?_
      replace h := h hx2 hok3 hr5
      refine r_istore x_126_23 (by decide +kernel) rfl (lv1 := [(0, .ref a0), (1, g_n v1), (2, g_n v2), (3, g_n v3), (4, g_n v4), (5, g_n r4)]) rfl ?_
      refine r_iload x_126_25 rfl ?_
      refine r_if_ne x_126_27 (t := 32) (by decide +kernel) hr5 (fun hc => ?_) (fun hc => ?_)
      · replace h := h.2 hc
        refine r_iload_n x_126_32 rfl ?_
        refine r_iload x_126_33 rfl ?_
        refine r_iadd x_126_35 ?_
        obtain ⟨h6, h⟩ := h
        refine r_istore_n x_126_36 (by decide +kernel) rfl (lv1 := [(0, .ref a0), (1, g_n v1), (2, g_n v2), (3, g_n (v3 + r4)), (4, g_n v4), (5, g_n r4)]) rfl ?_
        obtain ⟨h7, h⟩ := h
        refine r_iinc x_126_37 (by decide +kernel) rfl rfl (lv1 := [(0, .ref a0), (1, g_n v1), (2, g_n v2), (3, g_n (v3 + r4)), (4, g_n (v4 + 1)), (5, g_n r4)]) rfl ?_
        refine r_goto x_126_40 (t := 5) (by decide +kernel) ?_
        refine g_drop [0, 1, 2, 3, 4] (lv1 := [(0, .ref a0), (1, g_n v1), (2, g_n v2), (3, g_n (v3 + r4)), (4, g_n (v4 + 1))]) rfl ?_
        exact h
      · replace h := h.1 hc
        refine r_iload_n x_126_30 rfl ?_
        exact r_retI x_126_31 rfl hv3 h
theorem m_X7_characterLength {d : Nat} {M : g_M} {Q : Int → g_M → Prop} {a0 : Nat} {v1 : Int} (hv1 : g_InR v1) {v2 : Int} (hv2 : g_InR v2) (h : g_ok M → ((v1 < 0 → Q 0 M) ∧ (¬ v1 < 0 → ((v1 < v2 → ∃ n1, g_A M a0 0 n1 ∧ g_InR n1 ∧ ((n1 < v2 → Q 0 M) ∧ (¬ n1 < v2 → ((0 : Int) ≤ v1 ∧ (v1 : Int) < n1) ∧ ((g_and (g_i M a0 v1) 255 < 128 → Q 1 M) ∧ (¬ g_and (g_i M a0 v1) 255 < 128 → ((g_and (g_i M a0 v1) 255 < 224 → g_Run d 127 57 [(0, .ref a0), (1, g_n v1), (2, g_n v2), (3, g_n (g_and (g_i M a0 v1) 255))] [g_n 2] M (g_qI Q)) ∧ (¬ g_and (g_i M a0 v1) 255 < 224 → ((g_and (g_i M a0 v1) 255 < 240 → g_Run d 127 57 [(0, .ref a0), (1, g_n v1), (2, g_n v2), (3, g_n (g_and (g_i M a0 v1) 255))] [g_n 3] M (g_qI Q)) ∧ (¬ g_and (g_i M a0 v1) 255 < 240 → g_Run d 127 57 [(0, .ref a0), (1, g_n v1), (2, g_n v2), (3, g_n (g_and (g_i M a0 v1) 255))] [g_n 4] M (g_qI Q)))))))))) ∧ (¬ v1 < v2 → Q 0 M))))) : g_Call (d + 1) 127 [.ref a0, g_n v1, g_n v2] M (g_qI Q) := by
  refine g_Call.ok fun hok0 => ?_
  replace h := h hok0
  refine r_body rfl (lv := [(0, .ref a0), (1, g_n v1), (2, g_n v2)]) rfl ?_
  refine g_Run.ok fun hok => ?_
  refine r_iload_n x_127_0 rfl ?_
  refine r_if_lt x_127_1 (t := 15) (by decide +kernel) hv1 (fun hc => ?_) (fun hc => ?_)
  · replace h := h.1 hc
    refine r_iconst x_127_15 ?_
    exact r_retI x_127_16 rfl (g_Rk rfl) h
  · replace h := h.2 hc
    refine r_iload_n x_127_4 rfl ?_
    refine r_iload_n x_127_5 rfl ?_
    refine r_ic_ge x_127_6 (t := 15) (by decide +kernel) hv1 hv2 (fun hc => ?_) (fun hc => ?_)
    · replace h := h.2 hc
      refine r_iconst x_127_15 ?_
      exact r_retI x_127_16 rfl (g_Rk rfl) h
    · replace h := h.1 hc
      refine r_iload_n x_127_9 rfl ?_
      refine r_aload_n x_127_10 rfl ?_
      obtain ⟨n1, hA2, h⟩ := h
      refine r_alen x_127_11 hA2 ?_
      obtain ⟨h3, h⟩ := h
      refine r_ic_le x_127_12 (t := 17) (by decide +kernel) hv2 h3 (fun hc => ?_) (fun hc => ?_)
      · replace h := h.2 hc
        refine r_aload_n x_127_17 rfl ?_
        refine r_iload_n x_127_18 rfl ?_
        obtain ⟨h4, h⟩ := h
        refine r_bald x_127_19 (Or.inl rfl) hA2 hv1 h4.1 h4.2 ?_
        refine r_sipush x_127_20 (x := 255) rfl ?_
        refine r_iand x_127_23 ?_
        refine r_istore_n x_127_24 (by decide +kernel) rfl (lv1 := [(0, .ref a0), (1, g_n v1), (2, g_n v2), (3, g_n (g_and (g_i M a0 v1) 255))]) rfl ?_
        refine r_iload_n x_127_25 rfl ?_
        refine r_sipush x_127_26 (x := 128) rfl ?_
        refine r_ic_ge x_127_29 (t := 34) (by decide +kernel) (g_InR_toInt _) (g_Rk rfl) (fun hc => ?_) (fun hc => ?_)
        · replace h := h.2 hc
          refine r_iload_n x_127_34 rfl ?_
          refine r_sipush x_127_35 (x := 224) rfl ?_
          refine r_ic_ge x_127_38 (t := 45) (by decide +kernel) (g_InR_toInt _) (g_Rk rfl) (fun hc => ?_) (fun hc => ?_)
          · replace h := h.2 hc
            refine r_iload_n x_127_45 rfl ?_
            refine r_sipush x_127_46 (x := 240) rfl ?_
            refine r_ic_ge x_127_49 (t := 56) (by decide +kernel) (g_InR_toInt _) (g_Rk rfl) (fun hc => ?_) (fun hc => ?_)
            · replace h := h.2 hc
              refine r_iconst x_127_56 ?_
              exact h
            · replace h := h.1 hc
              refine r_iconst x_127_52 ?_
              refine r_goto x_127_53 (t := 57) (by decide +kernel) ?_
              exact h
          · replace h := h.1 hc
            refine r_iconst x_127_41 ?_
            refine r_goto x_127_42 (t := 57) (by decide +kernel) ?_
            exact h
        · replace h := h.1 hc
          refine r_iconst x_127_32 ?_
          exact r_retI x_127_33 rfl (g_Rk rfl) h
      · replace h := h.1 hc
        refine r_iconst x_127_15 ?_
        exact r_retI x_127_16 rfl (g_Rk rfl) h
theorem s_X7_characterLength_57 {d : Nat} {M : g_M} {Q : Int → g_M → Prop} {a0 : Nat} {v1 : Int} (hv1 : g_InR v1) {v2 : Int} (hv2 : g_InR v2) {v3 : Int} (hv3 : g_InR v3) {w0 : Int} (hw0 : g_InR w0) (h : g_ok M → ((v3 < 194 → Q 0 M) ∧ (¬ v3 < 194 → ((244 < v3 → Q 0 M) ∧ (¬ 244 < v3 → g_InR (v1 + w0) ∧ ((v2 < v1 + w0 → Q 0 M) ∧ (¬ v2 < v1 + w0 → g_Run d 127 86 [(0, .ref a0), (1, g_n v1), (2, g_n v2), (3, g_n v3), (4, g_n w0), (5, g_n 1)] [] M (g_qI Q)))))))) : g_Run d 127 57 [(0, .ref a0), (1, g_n v1), (2, g_n v2), (3, g_n v3)] [g_n w0] M (g_qI Q) := by
  refine g_Run.ok fun hok => ?_
  replace h := h hok
  refine r_istore x_127_57 (by decide +kernel) rfl (lv1 := [(0, .ref a0), (1, g_n v1), (2, g_n v2), (3, g_n v3), (4, g_n w0)]) rfl ?_
  refine r_iload_n x_127_59 rfl ?_
  refine r_sipush x_127_60 (x := 194) rfl ?_
  refine r_ic_lt x_127_63 (t := 81) (by decide +kernel) hv3 (g_Rk rfl) (fun hc => ?_) (fun hc => ?_)
  · replace h := h.1 hc
    refine r_iconst x_127_81 ?_
    exact r_retI x_127_82 rfl (g_Rk rfl) h
  · replace h := h.2 hc
    refine r_iload_n x_127_66 rfl ?_
    refine r_sipush x_127_67 (x := 244) rfl ?_
    refine r_ic_gt x_127_70 (t := 81) (by decide +kernel) hv3 (g_Rk rfl) (fun hc => ?_) (fun hc => ?_)
    · replace h := h.1 hc
      refine r_iconst x_127_81 ?_
      exact r_retI x_127_82 rfl (g_Rk rfl) h
    · replace h := h.2 hc
      refine r_iload_n x_127_73 rfl ?_
      refine r_iload x_127_74 rfl ?_
      refine r_iadd x_127_76 ?_
      obtain ⟨h1, h⟩ := h
      refine r_iload_n x_127_77 rfl ?_
      refine r_ic_le x_127_78 (t := 83) (by decide +kernel) h1 hv2 (fun hc => ?_) (fun hc => ?_)
      · replace h := h.2 hc
        refine r_iconst x_127_83 ?_
        refine r_istore x_127_84 (by decide +kernel) rfl (lv1 := [(0, .ref a0), (1, g_n v1), (2, g_n v2), (3, g_n v3), (4, g_n w0), (5, g_n 1)]) rfl ?_
        exact h
      · replace h := h.1 hc
        refine r_iconst x_127_81 ?_
        exact r_retI x_127_82 rfl (g_Rk rfl) h
theorem s_X7_characterLength_86 {d : Nat} {M : g_M} {Q : Int → g_M → Prop} {a0 : Nat} {v1 : Int} (hv1 : g_InR v1) {v2 : Int} (hv2 : g_InR v2) {v3 : Int} (hv3 : g_InR v3) {v4 : Int} (hv4 : g_InR v4) {v5 : Int} (hv5 : g_InR v5) (h : g_ok M → ((v5 < v4 → g_InR (v1 + v5) ∧ ∃ n6, g_A M a0 0 n6 ∧ ((0 : Int) ≤ v1 + v5 ∧ (v1 + v5 : Int) < n6) ∧ ((g_and (g_i M a0 (v1 + v5)) 192 = 128 → g_InR (v5 + 1) ∧ g_Run d 127 86 [(0, .ref a0), (1, g_n v1), (2, g_n v2), (3, g_n v3), (4, g_n v4), (5, g_n (v5 + 1))] [] M (g_qI Q)) ∧ (¬ g_and (g_i M a0 (v1 + v5)) 192 = 128 → Q 0 M))) ∧ (¬ v5 < v4 → g_InR (v1 + 1) ∧ ∃ n2, g_A M a0 0 n2 ∧ ((0 : Int) ≤ v1 + 1 ∧ (v1 + 1 : Int) < n2) ∧ ((v3 = 224 → ((g_and (g_i M a0 (v1 + 1)) 255 < 160 → Q 0 M) ∧ (¬ g_and (g_i M a0 (v1 + 1)) 255 < 160 → g_Run d 127 143 [(0, .ref a0), (1, g_n v1), (2, g_n v2), (3, g_n v3), (4, g_n v4), (5, g_n (g_and (g_i M a0 (v1 + 1)) 255))] [] M (g_qI Q)))) ∧ (¬ v3 = 224 → g_Run d 127 143 [(0, .ref a0), (1, g_n v1), (2, g_n v2), (3, g_n v3), (4, g_n v4), (5, g_n (g_and (g_i M a0 (v1 + 1)) 255))] [] M (g_qI Q)))))) : g_Run d 127 86 [(0, .ref a0), (1, g_n v1), (2, g_n v2), (3, g_n v3), (4, g_n v4), (5, g_n v5)] [] M (g_qI Q) := by
  refine g_Run.ok fun hok => ?_
  replace h := h hok
  refine r_iload x_127_86 rfl ?_
  refine r_iload x_127_88 rfl ?_
  refine r_ic_ge x_127_90 (t := 117) (by decide +kernel) hv5 hv4 (fun hc => ?_) (fun hc => ?_)
  · replace h := h.2 hc
    refine r_aload_n x_127_117 rfl ?_
    refine r_iload_n x_127_118 rfl ?_
    refine r_iconst x_127_119 ?_
    refine r_iadd x_127_120 ?_
    obtain ⟨h1, h⟩ := h
    obtain ⟨n2, hA3, h⟩ := h
    obtain ⟨h4, h⟩ := h
    refine r_bald x_127_121 (Or.inl rfl) hA3 h1 h4.1 h4.2 ?_
    refine r_sipush x_127_122 (x := 255) rfl ?_
    refine r_iand x_127_125 ?_
    refine r_istore x_127_126 (by decide +kernel) rfl (lv1 := [(0, .ref a0), (1, g_n v1), (2, g_n v2), (3, g_n v3), (4, g_n v4), (5, g_n (g_and (g_i M a0 (v1 + 1)) 255))]) rfl ?_
    refine r_iload_n x_127_128 rfl ?_
    refine r_sipush x_127_129 (x := 224) rfl ?_
    refine r_ic_ne x_127_132 (t := 143) (by decide +kernel) hv3 (g_Rk rfl) (fun hc => ?_) (fun hc => ?_)
    · replace h := h.2 hc
      exact h
    · replace h := h.1 hc
      refine r_iload x_127_135 rfl ?_
      refine r_sipush x_127_137 (x := 160) rfl ?_
      refine r_ic_lt x_127_140 (t := 188) (by decide +kernel) (g_InR_toInt _) (g_Rk rfl) (fun hc => ?_) (fun hc => ?_)
      · replace h := h.1 hc
        refine r_iconst x_127_188 ?_
        refine r_goto x_127_189 (t := 193) (by decide +kernel) ?_
        refine r_istore x_127_193 (by decide +kernel) rfl (lv1 := [(0, .ref a0), (1, g_n v1), (2, g_n v2), (3, g_n v3), (4, g_n v4), (5, g_n (g_and (g_i M a0 (v1 + 1)) 255)), (6, g_n 1)]) rfl ?_
        refine r_iload x_127_195 rfl ?_
        refine r_if_eq x_127_197 (t := 204) (by decide +kernel) (g_Rk rfl) (fun hc => ?_) (fun hc => ?_)
        · exfalso; omega
        · skip
          refine r_iconst x_127_200 ?_
          refine r_goto x_127_201 (t := 206) (by decide +kernel) ?_
          exact r_retI x_127_206 rfl (g_Rk rfl) h
      · replace h := h.2 hc
        exact h
  · replace h := h.1 hc
    refine r_aload_n x_127_93 rfl ?_
    refine r_iload_n x_127_94 rfl ?_
    refine r_iload x_127_95 rfl ?_
    refine r_iadd x_127_97 ?_
    obtain ⟨h5, h⟩ := h
    obtain ⟨n6, hA7, h⟩ := h
    obtain ⟨h8, h⟩ := h
    refine r_bald x_127_98 (Or.inl rfl) hA7 h5 h8.1 h8.2 ?_
    refine r_sipush x_127_99 (x := 192) rfl ?_
    refine r_iand x_127_102 ?_
    refine r_sipush x_127_103 (x := 128) rfl ?_
    refine r_ic_eq x_127_106 (t := 111) (by decide +kernel) (g_InR_toInt _) (g_Rk rfl) (fun hc => ?_) (fun hc => ?_)
    · replace h := h.1 hc
      obtain ⟨h9, h⟩ := h
      refine r_iinc x_127_111 (by decide +kernel) rfl rfl (lv1 := [(0, .ref a0), (1, g_n v1), (2, g_n v2), (3, g_n v3), (4, g_n v4), (5, g_n (v5 + 1))]) rfl ?_
      refine r_goto x_127_114 (t := 86) (by decide +kernel) ?_
      exact h
    · replace h := h.2 hc
      refine r_iconst x_127_109 ?_
      exact r_retI x_127_110 rfl (g_Rk rfl) h
theorem s_X7_characterLength_143 {d : Nat} {M : g_M} {Q : Int → g_M → Prop} {a0 : Nat} {v1 : Int} (hv1 : g_InR v1) {v2 : Int} (hv2 : g_InR v2) {v3 : Int} (hv3 : g_InR v3) {v4 : Int} (hv4 : g_InR v4) {v5 : Int} (hv5 : g_InR v5) (h : g_ok M → ((v3 = 237 → ((159 < v5 → Q 0 M) ∧ (¬ 159 < v5 → g_Run d 127 158 [(0, .ref a0), (1, g_n v1), (2, g_n v2), (3, g_n v3), (4, g_n v4), (5, g_n v5)] [] M (g_qI Q)))) ∧ (¬ v3 = 237 → g_Run d 127 158 [(0, .ref a0), (1, g_n v1), (2, g_n v2), (3, g_n v3), (4, g_n v4), (5, g_n v5)] [] M (g_qI Q)))) : g_Run d 127 143 [(0, .ref a0), (1, g_n v1), (2, g_n v2), (3, g_n v3), (4, g_n v4), (5, g_n v5)] [] M (g_qI Q) := by
  refine g_Run.ok fun hok => ?_
  replace h := h hok
  refine r_iload_n x_127_143 rfl ?_
  refine r_sipush x_127_144 (x := 237) rfl ?_
  refine r_ic_ne x_127_147 (t := 158) (by decide +kernel) hv3 (g_Rk rfl) (fun hc => ?_) (fun hc => ?_)
  · replace h := h.2 hc
    exact h
  · replace h := h.1 hc
    refine r_iload x_127_150 rfl ?_
    refine r_sipush x_127_152 (x := 159) rfl ?_
    refine r_ic_gt x_127_155 (t := 188) (by decide +kernel) hv5 (g_Rk rfl) (fun hc => ?_) (fun hc => ?_)
    · replace h := h.1 hc
      refine r_iconst x_127_188 ?_
      refine r_goto x_127_189 (t := 193) (by decide +kernel) ?_
      refine r_istore x_127_193 (by decide +kernel) rfl (lv1 := [(0, .ref a0), (1, g_n v1), (2, g_n v2), (3, g_n v3), (4, g_n v4), (5, g_n v5), (6, g_n 1)]) rfl ?_
      refine r_iload x_127_195 rfl ?_
      refine r_if_eq x_127_197 (t := 204) (by decide +kernel) (g_Rk rfl) (fun hc => ?_) (fun hc => ?_)
      · exfalso; omega
      · skip
        refine r_iconst x_127_200 ?_
        refine r_goto x_127_201 (t := 206) (by decide +kernel) ?_
        exact r_retI x_127_206 rfl (g_Rk rfl) h
    · replace h := h.2 hc
      exact h
theorem s_X7_characterLength_158 {d : Nat} {M : g_M} {Q : Int → g_M → Prop} {a0 : Nat} {v1 : Int} (hv1 : g_InR v1) {v2 : Int} (hv2 : g_InR v2) {v3 : Int} (hv3 : g_InR v3) {v4 : Int} (hv4 : g_InR v4) {v5 : Int} (hv5 : g_InR v5) (h : g_ok M → ((v3 = 240 → ((v5 < 144 → Q 0 M) ∧ (¬ v5 < 144 → g_Run d 127 173 [(0, .ref a0), (1, g_n v1), (2, g_n v2), (3, g_n v3), (4, g_n v4), (5, g_n v5)] [] M (g_qI Q)))) ∧ (¬ v3 = 240 → g_Run d 127 173 [(0, .ref a0), (1, g_n v1), (2, g_n v2), (3, g_n v3), (4, g_n v4), (5, g_n v5)] [] M (g_qI Q)))) : g_Run d 127 158 [(0, .ref a0), (1, g_n v1), (2, g_n v2), (3, g_n v3), (4, g_n v4), (5, g_n v5)] [] M (g_qI Q) := by
  refine g_Run.ok fun hok => ?_
  replace h := h hok
  refine r_iload_n x_127_158 rfl ?_
  refine r_sipush x_127_159 (x := 240) rfl ?_
  refine r_ic_ne x_127_162 (t := 173) (by decide +kernel) hv3 (g_Rk rfl) (fun hc => ?_) (fun hc => ?_)
  · replace h := h.2 hc
    exact h
  · replace h := h.1 hc
    refine r_iload x_127_165 rfl ?_
    refine r_sipush x_127_167 (x := 144) rfl ?_
    refine r_ic_lt x_127_170 (t := 188) (by decide +kernel) hv5 (g_Rk rfl) (fun hc => ?_) (fun hc => ?_)
    · replace h := h.1 hc
      refine r_iconst x_127_188 ?_
      refine r_goto x_127_189 (t := 193) (by decide +kernel) ?_
      refine r_istore x_127_193 (by decide +kernel) rfl (lv1 := [(0, .ref a0), (1, g_n v1), (2, g_n v2), (3, g_n v3), (4, g_n v4), (5, g_n v5), (6, g_n 1)]) rfl ?_
      refine r_iload x_127_195 rfl ?_
      refine r_if_eq x_127_197 (t := 204) (by decide +kernel) (g_Rk rfl) (fun hc => ?_) (fun hc => ?_)
      · exfalso; omega
      · skip
        refine r_iconst x_127_200 ?_
        refine r_goto x_127_201 (t := 206) (by decide +kernel) ?_
        exact r_retI x_127_206 rfl (g_Rk rfl) h
    · replace h := h.2 hc
      exact h
theorem s_X7_characterLength_173 {d : Nat} {M : g_M} {Q : Int → g_M → Prop} {a0 : Nat} {v1 : Int} (hv1 : g_InR v1) {v2 : Int} (hv2 : g_InR v2) {v3 : Int} (hv3 : g_InR v3) {v4 : Int} (hv4 : g_InR v4) {v5 : Int} (hv5 : g_InR v5) (h : g_ok M → ((v3 = 244 → ((143 < v5 → Q 0 M) ∧ (¬ 143 < v5 → Q v4 M))) ∧ (¬ v3 = 244 → Q v4 M))) : g_Run d 127 173 [(0, .ref a0), (1, g_n v1), (2, g_n v2), (3, g_n v3), (4, g_n v4), (5, g_n v5)] [] M (g_qI Q) := by
  refine g_Run.ok fun hok => ?_
  replace h := h hok
  refine r_iload_n x_127_173 rfl ?_
  refine r_sipush x_127_174 (x := 244) rfl ?_
  refine r_ic_ne x_127_177 (t := 192) (by decide +kernel) hv3 (g_Rk rfl) (fun hc => ?_) (fun hc => ?_)
  · replace h := h.2 hc
    refine r_iconst x_127_192 ?_
    refine r_istore x_127_193 (by decide +kernel) rfl (lv1 := [(0, .ref a0), (1, g_n v1), (2, g_n v2), (3, g_n v3), (4, g_n v4), (5, g_n v5), (6, g_n 0)]) rfl ?_
    refine r_iload x_127_195 rfl ?_
    refine r_if_eq x_127_197 (t := 204) (by decide +kernel) (g_Rk rfl) (fun hc => ?_) (fun hc => ?_)
    · skip
      refine r_iload x_127_204 rfl ?_
      exact r_retI x_127_206 rfl hv4 h
    · exfalso; omega
  · replace h := h.1 hc
    refine r_iload x_127_180 rfl ?_
    refine r_sipush x_127_182 (x := 143) rfl ?_
    refine r_ic_le x_127_185 (t := 192) (by decide +kernel) hv5 (g_Rk rfl) (fun hc => ?_) (fun hc => ?_)
    · replace h := h.2 hc
      refine r_iconst x_127_192 ?_
      refine r_istore x_127_193 (by decide +kernel) rfl (lv1 := [(0, .ref a0), (1, g_n v1), (2, g_n v2), (3, g_n v3), (4, g_n v4), (5, g_n v5), (6, g_n 0)]) rfl ?_
      refine r_iload x_127_195 rfl ?_
      refine r_if_eq x_127_197 (t := 204) (by decide +kernel) (g_Rk rfl) (fun hc => ?_) (fun hc => ?_)
      · skip
        refine r_iload x_127_204 rfl ?_
        exact r_retI x_127_206 rfl hv4 h
      · exfalso; omega
    · replace h := h.1 hc
      refine r_iconst x_127_188 ?_
      refine r_goto x_127_189 (t := 193) (by decide +kernel) ?_
      refine r_istore x_127_193 (by decide +kernel) rfl (lv1 := [(0, .ref a0), (1, g_n v1), (2, g_n v2), (3, g_n v3), (4, g_n v4), (5, g_n v5), (6, g_n 1)]) rfl ?_
      refine r_iload x_127_195 rfl ?_
      refine r_if_eq x_127_197 (t := 204) (by decide +kernel) (g_Rk rfl) (fun hc => ?_) (fun hc => ?_)
      · exfalso; omega
      · skip
        refine r_iconst x_127_200 ?_
        refine r_goto x_127_201 (t := 206) (by decide +kernel) ?_
        exact r_retI x_127_206 rfl (g_Rk rfl) h
