theorem x_382_0 : decode (q_code 382) 0 = .ok (.aload_n 0, 1) := by decide +kernel
theorem x_382_1 : decode (q_code 382) 1 = .ok (.getfield 79, 3) := by decide +kernel
theorem x_382_4 : decode (q_code 382) 4 = .ok (.aload_n 0, 1) := by decide +kernel
theorem x_382_5 : decode (q_code 382) 5 = .ok (.iload_n 1, 1) := by decide +kernel
theorem x_382_6 : decode (q_code 382) 6 = .ok (.iload_n 2, 1) := by decide +kernel
theorem x_382_7 : decode (q_code 382) 7 = .ok (.iload_n 3, 1) := by decide +kernel
theorem x_382_8 : decode (q_code 382) 8 = .ok (.invokevirtual 755, 3) := by decide +kernel
theorem x_382_11 : decode (q_code 382) 11 = .ok (.iaload, 1) := by decide +kernel
theorem x_382_12 : decode (q_code 382) 12 = .ok (.istore 4, 2) := by decide +kernel
theorem x_382_14 : decode (q_code 382) 14 = .ok (.aload_n 0, 1) := by decide +kernel
theorem x_382_15 : decode (q_code 382) 15 = .ok (.getfield 79, 3) := by decide +kernel
theorem x_382_18 : decode (q_code 382) 18 = .ok (.aload_n 0, 1) := by decide +kernel
theorem x_382_19 : decode (q_code 382) 19 = .ok (.iload_n 1, 1) := by decide +kernel
theorem x_382_20 : decode (q_code 382) 20 = .ok (.iload_n 2, 1) := by decide +kernel
theorem x_382_21 : decode (q_code 382) 21 = .ok (.iload_n 3, 1) := by decide +kernel
theorem x_382_22 : decode (q_code 382) 22 = .ok (.iconst 1, 1) := by decide +kernel
theorem x_382_23 : decode (q_code 382) 23 = .ok (.iadd, 1) := by decide +kernel
theorem x_382_24 : decode (q_code 382) 24 = .ok (.invokevirtual 755, 3) := by decide +kernel
theorem x_382_27 : decode (q_code 382) 27 = .ok (.iaload, 1) := by decide +kernel
theorem x_382_28 : decode (q_code 382) 28 = .ok (.istore 5, 2) := by decide +kernel
theorem x_382_30 : decode (q_code 382) 30 = .ok (.aload_n 0, 1) := by decide +kernel
theorem x_382_31 : decode (q_code 382) 31 = .ok (.iload_n 1, 1) := by decide +kernel
theorem x_382_32 : decode (q_code 382) 32 = .ok (.iload 5, 2) := by decide +kernel
theorem x_382_34 : decode (q_code 382) 34 = .ok (.invokevirtual 746, 3) := by decide +kernel
theorem x_382_37 : decode (q_code 382) 37 = .ok (.istore 6, 2) := by decide +kernel
theorem x_382_39 : decode (q_code 382) 39 = .ok (.iconst 0, 1) := by decide +kernel
theorem x_382_40 : decode (q_code 382) 40 = .ok (.istore 7, 2) := by decide +kernel
theorem x_382_42 : decode (q_code 382) 42 = .ok (.iload 7, 2) := by decide +kernel
theorem x_382_44 : decode (q_code 382) 44 = .ok (.iload 6, 2) := by decide +kernel
theorem x_382_46 : decode (q_code 382) 46 = .ok (.if_icmp .ge 73, 3) := by decide +kernel
theorem x_382_49 : decode (q_code 382) 49 = .ok (.aload_n 0, 1) := by decide +kernel
theorem x_382_50 : decode (q_code 382) 50 = .ok (.iload_n 1, 1) := by decide +kernel
theorem x_382_51 : decode (q_code 382) 51 = .ok (.iload 4, 2) := by decide +kernel
theorem x_382_53 : decode (q_code 382) 53 = .ok (.aload_n 0, 1) := by decide +kernel
theorem x_382_54 : decode (q_code 382) 54 = .ok (.iload_n 1, 1) := by decide +kernel
theorem x_382_55 : decode (q_code 382) 55 = .ok (.iload 4, 2) := by decide +kernel
theorem x_382_57 : decode (q_code 382) 57 = .ok (.invokevirtual 746, 3) := by decide +kernel
theorem x_382_60 : decode (q_code 382) 60 = .ok (.aload_n 0, 1) := by decide +kernel
theorem x_382_61 : decode (q_code 382) 61 = .ok (.getfield 79, 3) := by decide +kernel
theorem x_382_64 : decode (q_code 382) 64 = .ok (.aload_n 0, 1) := by decide +kernel
theorem x_382_65 : decode (q_code 382) 65 = .ok (.iload_n 1, 1) := by decide +kernel
theorem x_382_66 : decode (q_code 382) 66 = .ok (.iload 5, 2) := by decide +kernel
theorem x_382_68 : decode (q_code 382) 68 = .ok (.iload 7, 2) := by decide +kernel
theorem x_382_70 : decode (q_code 382) 70 = .ok (.invokevirtual 755, 3) := by decide +kernel
theorem x_382_73 : decode (q_code 382) 73 = .ok (.iaload, 1) := by decide +kernel
theorem x_382_74 : decode (q_code 382) 74 = .ok (.iload 7, 2) := by decide +kernel
theorem x_382_76 : decode (q_code 382) 76 = .ok (.ifCond .ne 20, 3) := by decide +kernel
theorem x_382_79 : decode (q_code 382) 79 = .ok (.aload_n 0, 1) := by decide +kernel
theorem x_382_80 : decode (q_code 382) 80 = .ok (.getfield 82, 3) := by decide +kernel
theorem x_382_83 : decode (q_code 382) 83 = .ok (.aload_n 0, 1) := by decide +kernel
theorem x_382_84 : decode (q_code 382) 84 = .ok (.iload_n 1, 1) := by decide +kernel
theorem x_382_85 : decode (q_code 382) 85 = .ok (.iload_n 2, 1) := by decide +kernel
theorem x_382_86 : decode (q_code 382) 86 = .ok (.iload_n 3, 1) := by decide +kernel
theorem x_382_87 : decode (q_code 382) 87 = .ok (.iconst 1, 1) := by decide +kernel
theorem x_382_88 : decode (q_code 382) 88 = .ok (.iadd, 1) := by decide +kernel
theorem x_382_89 : decode (q_code 382) 89 = .ok (.invokevirtual 755, 3) := by decide +kernel
theorem x_382_92 : decode (q_code 382) 92 = .ok (.iaload, 1) := by decide +kernel
theorem x_382_93 : decode (q_code 382) 93 = .ok (.goto 17, 3) := by decide +kernel
theorem x_382_96 : decode (q_code 382) 96 = .ok (.aload_n 0, 1) := by decide +kernel
theorem x_382_97 : decode (q_code 382) 97 = .ok (.getfield 82, 3) := by decide +kernel
theorem x_382_100 : decode (q_code 382) 100 = .ok (.aload_n 0, 1) := by decide +kernel
theorem x_382_101 : decode (q_code 382) 101 = .ok (.iload_n 1, 1) := by decide +kernel
theorem x_382_102 : decode (q_code 382) 102 = .ok (.iload 5, 2) := by decide +kernel
theorem x_382_104 : decode (q_code 382) 104 = .ok (.iload 7, 2) := by decide +kernel
theorem x_382_106 : decode (q_code 382) 106 = .ok (.invokevirtual 755, 3) := by decide +kernel
theorem x_382_109 : decode (q_code 382) 109 = .ok (.iaload, 1) := by decide +kernel
theorem x_382_110 : decode (q_code 382) 110 = .ok (.invokevirtual 766, 3) := by decide +kernel
theorem x_382_113 : decode (q_code 382) 113 = .ok (.iinc 7 1, 3) := by decide +kernel
theorem x_382_116 : decode (q_code 382) 116 = .ok (.goto (-74), 3) := by decide +kernel
theorem x_382_119 : decode (q_code 382) 119 = .ok (.aload_n 0, 1) := by decide +kernel
theorem x_382_120 : decode (q_code 382) 120 = .ok (.getfield 69, 3) := by decide +kernel
theorem x_382_123 : decode (q_code 382) 123 = .ok (.iload_n 1, 1) := by decide +kernel
theorem x_382_124 : decode (q_code 382) 124 = .ok (.sipush 600, 3) := by decide +kernel
theorem x_382_127 : decode (q_code 382) 127 = .ok (.imul, 1) := by decide +kernel
theorem x_382_128 : decode (q_code 382) 128 = .ok (.iload 5, 2) := by decide +kernel
theorem x_382_130 : decode (q_code 382) 130 = .ok (.iadd, 1) := by decide +kernel
theorem x_382_131 : decode (q_code 382) 131 = .ok (.iconst 0, 1) := by decide +kernel
theorem x_382_132 : decode (q_code 382) 132 = .ok (.bastore, 1) := by decide +kernel
theorem x_382_133 : decode (q_code 382) 133 = .ok (.aload_n 0, 1) := by decide +kernel
theorem x_382_134 : decode (q_code 382) 134 = .ok (.iload_n 1, 1) := by decide +kernel
theorem x_382_135 : decode (q_code 382) 135 = .ok (.iload_n 2, 1) := by decide +kernel
theorem x_382_136 : decode (q_code 382) 136 = .ok (.iload_n 3, 1) := by decide +kernel
theorem x_382_137 : decode (q_code 382) 137 = .ok (.iconst 1, 1) := by decide +kernel
theorem x_382_138 : decode (q_code 382) 138 = .ok (.iadd, 1) := by decide +kernel
theorem x_382_139 : decode (q_code 382) 139 = .ok (.invokevirtual 784, 3) := by decide +kernel
theorem x_382_142 : decode (q_code 382) 142 = .ok (.return_, 1) := by decide +kernel
theorem x_383_0 : decode (q_code 383) 0 = .ok (.aload_n 0, 1) := by decide +kernel
theorem x_383_1 : decode (q_code 383) 1 = .ok (.iload_n 1, 1) := by decide +kernel
theorem x_383_2 : decode (q_code 383) 2 = .ok (.iload_n 2, 1) := by decide +kernel
theorem x_383_3 : decode (q_code 383) 3 = .ok (.iload_n 3, 1) := by decide +kernel
theorem x_383_4 : decode (q_code 383) 4 = .ok (.iload 4, 2) := by decide +kernel
theorem x_383_6 : decode (q_code 383) 6 = .ok (.invokevirtual 781, 3) := by decide +kernel
theorem x_383_9 : decode (q_code 383) 9 = .ok (.istore 5, 2) := by decide +kernel
theorem x_383_11 : decode (q_code 383) 11 = .ok (.aload_n 0, 1) := by decide +kernel
theorem x_383_12 : decode (q_code 383) 12 = .ok (.iload_n 1, 1) := by decide +kernel
theorem x_383_13 : decode (q_code 383) 13 = .ok (.aload_n 0, 1) := by decide +kernel
theorem x_383_14 : decode (q_code 383) 14 = .ok (.getfield 85, 3) := by decide +kernel
theorem x_383_17 : decode (q_code 383) 17 = .ok (.iload_n 1, 1) := by decide +kernel
theorem x_383_18 : decode (q_code 383) 18 = .ok (.iaload, 1) := by decide +kernel
theorem x_383_19 : decode (q_code 383) 19 = .ok (.iload 5, 2) := by decide +kernel
theorem x_383_21 : decode (q_code 383) 21 = .ok (.invokevirtual 787, 3) := by decide +kernel
theorem x_383_24 : decode (q_code 383) 24 = .ok (.aload_n 0, 1) := by decide +kernel
theorem x_383_25 : decode (q_code 383) 25 = .ok (.getfield 59, 3) := by decide +kernel
theorem x_383_28 : decode (q_code 383) 28 = .ok (.iload_n 1, 1) := by decide +kernel
theorem x_383_29 : decode (q_code 383) 29 = .ok (.sipush 1500, 3) := by decide +kernel
theorem x_383_32 : decode (q_code 383) 32 = .ok (.imul, 1) := by decide +kernel
theorem x_383_33 : decode (q_code 383) 33 = .ok (.iload 5, 2) := by decide +kernel
theorem x_383_35 : decode (q_code 383) 35 = .ok (.iadd, 1) := by decide +kernel
theorem x_383_36 : decode (q_code 383) 36 = .ok (.iconst 0, 1) := by decide +kernel
theorem x_383_37 : decode (q_code 383) 37 = .ok (.bastore, 1) := by decide +kernel
theorem x_383_38 : decode (q_code 383) 38 = .ok (.aload_n 0, 1) := by decide +kernel
theorem x_383_39 : decode (q_code 383) 39 = .ok (.getfield 85, 3) := by decide +kernel
theorem x_383_42 : decode (q_code 383) 42 = .ok (.iload_n 1, 1) := by decide +kernel
theorem x_383_43 : decode (q_code 383) 43 = .ok (.iaload, 1) := by decide +kernel
theorem x_383_44 : decode (q_code 383) 44 = .ok (.istore 6, 2) := by decide +kernel
theorem x_383_46 : decode (q_code 383) 46 = .ok (.aload_n 0, 1) := by decide +kernel
theorem x_383_47 : decode (q_code 383) 47 = .ok (.iload_n 1, 1) := by decide +kernel
theorem x_383_48 : decode (q_code 383) 48 = .ok (.iload 6, 2) := by decide +kernel
theorem x_383_50 : decode (q_code 383) 50 = .ok (.invokevirtual 760, 3) := by decide +kernel
theorem x_383_53 : decode (q_code 383) 53 = .ok (.ifCond .ne 47, 3) := by decide +kernel
theorem x_383_56 : decode (q_code 383) 56 = .ok (.aload_n 0, 1) := by decide +kernel
theorem x_383_57 : decode (q_code 383) 57 = .ok (.iload_n 1, 1) := by decide +kernel
theorem x_383_58 : decode (q_code 383) 58 = .ok (.iload 6, 2) := by decide +kernel
theorem x_383_60 : decode (q_code 383) 60 = .ok (.invokevirtual 746, 3) := by decide +kernel
theorem x_383_63 : decode (q_code 383) 63 = .ok (.iconst 1, 1) := by decide +kernel
theorem x_383_64 : decode (q_code 383) 64 = .ok (.if_icmp .ne 36, 3) := by decide +kernel
theorem x_383_67 : decode (q_code 383) 67 = .ok (.aload_n 0, 1) := by decide +kernel
theorem x_383_68 : decode (q_code 383) 68 = .ok (.getfield 85, 3) := by decide +kernel
theorem x_383_71 : decode (q_code 383) 71 = .ok (.iload_n 1, 1) := by decide +kernel
theorem x_383_72 : decode (q_code 383) 72 = .ok (.aload_n 0, 1) := by decide +kernel
theorem x_383_73 : decode (q_code 383) 73 = .ok (.getfield 79, 3) := by decide +kernel
theorem x_383_76 : decode (q_code 383) 76 = .ok (.aload_n 0, 1) := by decide +kernel
theorem x_383_77 : decode (q_code 383) 77 = .ok (.iload_n 1, 1) := by decide +kernel
theorem x_383_78 : decode (q_code 383) 78 = .ok (.iload 6, 2) := by decide +kernel
theorem x_383_80 : decode (q_code 383) 80 = .ok (.iconst 0, 1) := by decide +kernel
theorem x_383_81 : decode (q_code 383) 81 = .ok (.invokevirtual 755, 3) := by decide +kernel
theorem x_383_84 : decode (q_code 383) 84 = .ok (.iaload, 1) := by decide +kernel
theorem x_383_85 : decode (q_code 383) 85 = .ok (.iastore, 1) := by decide +kernel
theorem x_383_86 : decode (q_code 383) 86 = .ok (.aload_n 0, 1) := by decide +kernel
theorem x_383_87 : decode (q_code 383) 87 = .ok (.getfield 69, 3) := by decide +kernel
theorem x_383_90 : decode (q_code 383) 90 = .ok (.iload_n 1, 1) := by decide +kernel
theorem x_383_91 : decode (q_code 383) 91 = .ok (.sipush 600, 3) := by decide +kernel
theorem x_383_94 : decode (q_code 383) 94 = .ok (.imul, 1) := by decide +kernel
theorem x_383_95 : decode (q_code 383) 95 = .ok (.iload 6, 2) := by decide +kernel
theorem x_383_97 : decode (q_code 383) 97 = .ok (.iadd, 1) := by decide +kernel
theorem x_383_98 : decode (q_code 383) 98 = .ok (.iconst 0, 1) := by decide +kernel
theorem x_383_99 : decode (q_code 383) 99 = .ok (.bastore, 1) := by decide +kernel
theorem x_383_100 : decode (q_code 383) 100 = .ok (.aload_n 0, 1) := by decide +kernel
theorem x_383_101 : decode (q_code 383) 101 = .ok (.getfield 88, 3) := by decide +kernel
theorem x_383_104 : decode (q_code 383) 104 = .ok (.iload_n 1, 1) := by decide +kernel
theorem x_383_105 : decode (q_code 383) 105 = .ok (.dup2, 1) := by decide +kernel
theorem x_383_106 : decode (q_code 383) 106 = .ok (.iaload, 1) := by decide +kernel
theorem x_383_107 : decode (q_code 383) 107 = .ok (.iconst 1, 1) := by decide +kernel
theorem x_383_108 : decode (q_code 383) 108 = .ok (.isub, 1) := by decide +kernel
theorem x_383_109 : decode (q_code 383) 109 = .ok (.iastore, 1) := by decide +kernel
theorem x_383_110 : decode (q_code 383) 110 = .ok (.return_, 1) := by decide +kernel
theorem x_384_0 : decode (q_code 384) 0 = .ok (.aload_n 0, 1) := by decide +kernel
theorem x_384_1 : decode (q_code 384) 1 = .ok (.getfield 297, 3) := by decide +kernel
theorem x_384_4 : decode (q_code 384) 4 = .ok (.istore 5, 2) := by decide +kernel
theorem x_384_6 : decode (q_code 384) 6 = .ok (.aload_n 0, 1) := by decide +kernel
theorem x_384_7 : decode (q_code 384) 7 = .ok (.iload_n 1, 1) := by decide +kernel
theorem x_384_8 : decode (q_code 384) 8 = .ok (.iload_n 2, 1) := by decide +kernel
theorem x_384_9 : decode (q_code 384) 9 = .ok (.invokevirtual 736, 3) := by decide +kernel
theorem x_384_12 : decode (q_code 384) 12 = .ok (.pop, 1) := by decide +kernel
theorem x_384_13 : decode (q_code 384) 13 = .ok (.aload_n 0, 1) := by decide +kernel
theorem x_384_14 : decode (q_code 384) 14 = .ok (.getfield 730, 3) := by decide +kernel
theorem x_384_17 : decode (q_code 384) 17 = .ok (.istore 6, 2) := by decide +kernel
theorem x_384_19 : decode (q_code 384) 19 = .ok (.aload_n 0, 1) := by decide +kernel
theorem x_384_20 : decode (q_code 384) 20 = .ok (.getfield 730, 3) := by decide +kernel
theorem x_384_23 : decode (q_code 384) 23 = .ok (.aload_n 0, 1) := by decide +kernel
theorem x_384_24 : decode (q_code 384) 24 = .ok (.getfield 724, 3) := by decide +kernel
theorem x_384_27 : decode (q_code 384) 27 = .ok (.iadd, 1) := by decide +kernel
theorem x_384_28 : decode (q_code 384) 28 = .ok (.istore 7, 2) := by decide +kernel
theorem x_384_30 : decode (q_code 384) 30 = .ok (.aload_n 0, 1) := by decide +kernel
theorem x_384_31 : decode (q_code 384) 31 = .ok (.getfield 727, 3) := by decide +kernel
theorem x_384_34 : decode (q_code 384) 34 = .ok (.istore 8, 2) := by decide +kernel
theorem x_384_36 : decode (q_code 384) 36 = .ok (.aload_n 0, 1) := by decide +kernel
theorem x_384_37 : decode (q_code 384) 37 = .ok (.getfield 733, 3) := by decide +kernel
theorem x_384_40 : decode (q_code 384) 40 = .ok (.istore 9, 2) := by decide +kernel
theorem x_384_42 : decode (q_code 384) 42 = .ok (.aload_n 0, 1) := by decide +kernel
theorem x_384_43 : decode (q_code 384) 43 = .ok (.iload 6, 2) := by decide +kernel
theorem x_384_45 : decode (q_code 384) 45 = .ok (.iload 7, 2) := by decide +kernel
theorem x_384_47 : decode (q_code 384) 47 = .ok (.aload_n 0, 1) := by decide +kernel
theorem x_384_48 : decode (q_code 384) 48 = .ok (.getfield 53, 3) := by decide +kernel
theorem x_384_51 : decode (q_code 384) 51 = .ok (.iconst 2, 1) := by decide +kernel
theorem x_384_52 : decode (q_code 384) 52 = .ok (.iload_n 1, 1) := by decide +kernel
theorem x_384_53 : decode (q_code 384) 53 = .ok (.imul, 1) := by decide +kernel
theorem x_384_54 : decode (q_code 384) 54 = .ok (.baload, 1) := by decide +kernel
theorem x_384_55 : decode (q_code 384) 55 = .ok (.invokevirtual 799, 3) := by decide +kernel
theorem x_384_58 : decode (q_code 384) 58 = .ok (.aload_n 0, 1) := by decide +kernel
theorem x_384_59 : decode (q_code 384) 59 = .ok (.iload 8, 2) := by decide +kernel
theorem x_384_61 : decode (q_code 384) 61 = .ok (.iload 9, 2) := by decide +kernel
theorem x_384_63 : decode (q_code 384) 63 = .ok (.aload_n 0, 1) := by decide +kernel
theorem x_384_64 : decode (q_code 384) 64 = .ok (.getfield 53, 3) := by decide +kernel
theorem x_384_67 : decode (q_code 384) 67 = .ok (.iconst 2, 1) := by decide +kernel
theorem x_384_68 : decode (q_code 384) 68 = .ok (.iload_n 1, 1) := by decide +kernel
theorem x_384_69 : decode (q_code 384) 69 = .ok (.imul, 1) := by decide +kernel
theorem x_384_70 : decode (q_code 384) 70 = .ok (.iconst 1, 1) := by decide +kernel
theorem x_384_71 : decode (q_code 384) 71 = .ok (.iadd, 1) := by decide +kernel
theorem x_384_72 : decode (q_code 384) 72 = .ok (.baload, 1) := by decide +kernel
theorem x_384_73 : decode (q_code 384) 73 = .ok (.invokevirtual 799, 3) := by decide +kernel
theorem x_384_76 : decode (q_code 384) 76 = .ok (.iload 6, 2) := by decide +kernel
theorem x_384_78 : decode (q_code 384) 78 = .ok (.istore 10, 2) := by decide +kernel
theorem x_384_80 : decode (q_code 384) 80 = .ok (.iload 10, 2) := by decide +kernel
theorem x_384_82 : decode (q_code 384) 82 = .ok (.iload 7, 2) := by decide +kernel
theorem x_384_84 : decode (q_code 384) 84 = .ok (.if_icmp .ge 74, 3) := by decide +kernel
theorem x_384_87 : decode (q_code 384) 87 = .ok (.iload 8, 2) := by decide +kernel
theorem x_384_89 : decode (q_code 384) 89 = .ok (.istore 11, 2) := by decide +kernel
theorem x_384_91 : decode (q_code 384) 91 = .ok (.iload 11, 2) := by decide +kernel
theorem x_384_93 : decode (q_code 384) 93 = .ok (.iload 9, 2) := by decide +kernel
theorem x_384_95 : decode (q_code 384) 95 = .ok (.if_icmp .ge 57, 3) := by decide +kernel
theorem x_384_98 : decode (q_code 384) 98 = .ok (.iload 4, 2) := by decide +kernel
theorem x_384_100 : decode (q_code 384) 100 = .ok (.ifCond .eq 26, 3) := by decide +kernel
theorem x_384_103 : decode (q_code 384) 103 = .ok (.aload_n 0, 1) := by decide +kernel
theorem x_384_104 : decode (q_code 384) 104 = .ok (.iload_n 1, 1) := by decide +kernel
theorem x_384_105 : decode (q_code 384) 105 = .ok (.aload_n 0, 1) := by decide +kernel
theorem x_384_106 : decode (q_code 384) 106 = .ok (.getfield 19, 3) := by decide +kernel
theorem x_384_109 : decode (q_code 384) 109 = .ok (.iload 10, 2) := by decide +kernel
theorem x_384_111 : decode (q_code 384) 111 = .ok (.iaload, 1) := by decide +kernel
theorem x_384_112 : decode (q_code 384) 112 = .ok (.aload_n 0, 1) := by decide +kernel
theorem x_384_113 : decode (q_code 384) 113 = .ok (.getfield 19, 3) := by decide +kernel
theorem x_384_116 : decode (q_code 384) 116 = .ok (.iload 11, 2) := by decide +kernel
theorem x_384_118 : decode (q_code 384) 118 = .ok (.iaload, 1) := by decide +kernel
theorem x_384_119 : decode (q_code 384) 119 = .ok (.iload_n 3, 1) := by decide +kernel
theorem x_384_120 : decode (q_code 384) 120 = .ok (.invokevirtual 802, 3) := by decide +kernel
theorem x_384_123 : decode (q_code 384) 123 = .ok (.goto 23, 3) := by decide +kernel
theorem x_384_126 : decode (q_code 384) 126 = .ok (.aload_n 0, 1) := by decide +kernel
theorem x_384_127 : decode (q_code 384) 127 = .ok (.iload_n 1, 1) := by decide +kernel
theorem x_384_128 : decode (q_code 384) 128 = .ok (.aload_n 0, 1) := by decide +kernel
theorem x_384_129 : decode (q_code 384) 129 = .ok (.getfield 19, 3) := by decide +kernel
theorem x_384_132 : decode (q_code 384) 132 = .ok (.iload 10, 2) := by decide +kernel
theorem x_384_134 : decode (q_code 384) 134 = .ok (.iaload, 1) := by decide +kernel
theorem x_384_135 : decode (q_code 384) 135 = .ok (.aload_n 0, 1) := by decide +kernel
theorem x_384_136 : decode (q_code 384) 136 = .ok (.getfield 19, 3) := by decide +kernel
theorem x_384_139 : decode (q_code 384) 139 = .ok (.iload 11, 2) := by decide +kernel
theorem x_384_141 : decode (q_code 384) 141 = .ok (.iaload, 1) := by decide +kernel
theorem x_384_142 : decode (q_code 384) 142 = .ok (.iload_n 3, 1) := by decide +kernel
theorem x_384_143 : decode (q_code 384) 143 = .ok (.invokevirtual 806, 3) := by decide +kernel
theorem x_384_146 : decode (q_code 384) 146 = .ok (.iinc 11 1, 3) := by decide +kernel
theorem x_384_149 : decode (q_code 384) 149 = .ok (.goto (-58), 3) := by decide +kernel
theorem x_384_152 : decode (q_code 384) 152 = .ok (.iinc 10 1, 3) := by decide +kernel
theorem x_384_155 : decode (q_code 384) 155 = .ok (.goto (-75), 3) := by decide +kernel
theorem x_384_158 : decode (q_code 384) 158 = .ok (.aload_n 0, 1) := by decide +kernel
theorem x_384_159 : decode (q_code 384) 159 = .ok (.iload 5, 2) := by decide +kernel
theorem x_384_161 : decode (q_code 384) 161 = .ok (.putfield 297, 3) := by decide +kernel
theorem x_384_164 : decode (q_code 384) 164 = .ok (.return_, 1) := by decide +kernel
theorem x_385_0 : decode (q_code 385) 0 = .ok (.iload_n 1, 1) := by decide +kernel
theorem x_385_1 : decode (q_code 385) 1 = .ok (.iconst 1, 1) := by decide +kernel
theorem x_385_2 : decode (q_code 385) 2 = .ok (.iadd, 1) := by decide +kernel
theorem x_385_3 : decode (q_code 385) 3 = .ok (.istore 4, 2) := by decide +kernel
theorem x_385_5 : decode (q_code 385) 5 = .ok (.iload 4, 2) := by decide +kernel
theorem x_385_7 : decode (q_code 385) 7 = .ok (.iload_n 2, 1) := by decide +kernel
theorem x_385_8 : decode (q_code 385) 8 = .ok (.if_icmp .ge 102, 3) := by decide +kernel
theorem x_385_11 : decode (q_code 385) 11 = .ok (.aload_n 0, 1) := by decide +kernel
theorem x_385_12 : decode (q_code 385) 12 = .ok (.getfield 19, 3) := by decide +kernel
theorem x_385_15 : decode (q_code 385) 15 = .ok (.iload 4, 2) := by decide +kernel
theorem x_385_17 : decode (q_code 385) 17 = .ok (.iaload, 1) := by decide +kernel
theorem x_385_18 : decode (q_code 385) 18 = .ok (.istore 5, 2) := by decide +kernel
theorem x_385_20 : decode (q_code 385) 20 = .ok (.iload 4, 2) := by decide +kernel
theorem x_385_22 : decode (q_code 385) 22 = .ok (.istore 6, 2) := by decide +kernel
theorem x_385_24 : decode (q_code 385) 24 = .ok (.iload 6, 2) := by decide +kernel
theorem x_385_26 : decode (q_code 385) 26 = .ok (.iload_n 1, 1) := by decide +kernel
theorem x_385_27 : decode (q_code 385) 27 = .ok (.if_icmp .le 68, 3) := by decide +kernel
theorem x_385_30 : decode (q_code 385) 30 = .ok (.iload_n 3, 1) := by decide +kernel
theorem x_385_31 : decode (q_code 385) 31 = .ok (.ifCond .eq 24, 3) := by decide +kernel
theorem x_385_34 : decode (q_code 385) 34 = .ok (.aload_n 0, 1) := by decide +kernel
theorem x_385_35 : decode (q_code 385) 35 = .ok (.aload_n 0, 1) := by decide +kernel
theorem x_385_36 : decode (q_code 385) 36 = .ok (.getfield 19, 3) := by decide +kernel
theorem x_385_39 : decode (q_code 385) 39 = .ok (.iload 6, 2) := by decide +kernel
theorem x_385_41 : decode (q_code 385) 41 = .ok (.iconst 1, 1) := by decide +kernel
theorem x_385_42 : decode (q_code 385) 42 = .ok (.isub, 1) := by decide +kernel
theorem x_385_43 : decode (q_code 385) 43 = .ok (.iaload, 1) := by decide +kernel
theorem x_385_44 : decode (q_code 385) 44 = .ok (.iload 5, 2) := by decide +kernel
theorem x_385_46 : decode (q_code 385) 46 = .ok (.invokevirtual 284, 3) := by decide +kernel
theorem x_385_49 : decode (q_code 385) 49 = .ok (.ifCond .ge 46, 3) := by decide +kernel
theorem x_385_52 : decode (q_code 385) 52 = .ok (.goto 21, 3) := by decide +kernel
theorem x_385_55 : decode (q_code 385) 55 = .ok (.aload_n 0, 1) := by decide +kernel
theorem x_385_56 : decode (q_code 385) 56 = .ok (.aload_n 0, 1) := by decide +kernel
theorem x_385_57 : decode (q_code 385) 57 = .ok (.getfield 19, 3) := by decide +kernel
theorem x_385_60 : decode (q_code 385) 60 = .ok (.iload 6, 2) := by decide +kernel
theorem x_385_62 : decode (q_code 385) 62 = .ok (.iconst 1, 1) := by decide +kernel
theorem x_385_63 : decode (q_code 385) 63 = .ok (.isub, 1) := by decide +kernel
theorem x_385_64 : decode (q_code 385) 64 = .ok (.iaload, 1) := by decide +kernel
theorem x_385_65 : decode (q_code 385) 65 = .ok (.iload 5, 2) := by decide +kernel
theorem x_385_67 : decode (q_code 385) 67 = .ok (.invokevirtual 284, 3) := by decide +kernel
theorem x_385_70 : decode (q_code 385) 70 = .ok (.ifCond .le 25, 3) := by decide +kernel
theorem x_385_73 : decode (q_code 385) 73 = .ok (.aload_n 0, 1) := by decide +kernel
theorem x_385_74 : decode (q_code 385) 74 = .ok (.getfield 19, 3) := by decide +kernel
theorem x_385_77 : decode (q_code 385) 77 = .ok (.iload 6, 2) := by decide +kernel
theorem x_385_79 : decode (q_code 385) 79 = .ok (.aload_n 0, 1) := by decide +kernel
theorem x_385_80 : decode (q_code 385) 80 = .ok (.getfield 19, 3) := by decide +kernel
theorem x_385_83 : decode (q_code 385) 83 = .ok (.iload 6, 2) := by decide +kernel
theorem x_385_85 : decode (q_code 385) 85 = .ok (.iconst 1, 1) := by decide +kernel
theorem x_385_86 : decode (q_code 385) 86 = .ok (.isub, 1) := by decide +kernel
theorem x_385_87 : decode (q_code 385) 87 = .ok (.iaload, 1) := by decide +kernel
theorem x_385_88 : decode (q_code 385) 88 = .ok (.iastore, 1) := by decide +kernel
theorem x_385_89 : decode (q_code 385) 89 = .ok (.iinc 6 (-1), 3) := by decide +kernel
theorem x_385_92 : decode (q_code 385) 92 = .ok (.goto (-68), 3) := by decide +kernel
theorem x_385_95 : decode (q_code 385) 95 = .ok (.aload_n 0, 1) := by decide +kernel
theorem x_385_96 : decode (q_code 385) 96 = .ok (.getfield 19, 3) := by decide +kernel
theorem x_385_99 : decode (q_code 385) 99 = .ok (.iload 6, 2) := by decide +kernel
theorem x_385_101 : decode (q_code 385) 101 = .ok (.iload 5, 2) := by decide +kernel
theorem x_385_103 : decode (q_code 385) 103 = .ok (.iastore, 1) := by decide +kernel
theorem x_385_104 : decode (q_code 385) 104 = .ok (.iinc 4 1, 3) := by decide +kernel
theorem x_385_107 : decode (q_code 385) 107 = .ok (.goto (-102), 3) := by decide +kernel
theorem x_385_110 : decode (q_code 385) 110 = .ok (.return_, 1) := by decide +kernel
theorem x_386_0 : decode (q_code 386) 0 = .ok (.aload_n 0, 1) := by decide +kernel
theorem x_386_1 : decode (q_code 386) 1 = .ok (.getfield 85, 3) := by decide +kernel
theorem x_386_4 : decode (q_code 386) 4 = .ok (.iload_n 1, 1) := by decide +kernel
theorem x_386_5 : decode (q_code 386) 5 = .ok (.iaload, 1) := by decide +kernel
theorem x_386_6 : decode (q_code 386) 6 = .ok (.istore_n 2, 1) := by decide +kernel
theorem x_386_7 : decode (q_code 386) 7 = .ok (.iconst 1, 1) := by decide +kernel
theorem x_386_8 : decode (q_code 386) 8 = .ok (.istore_n 3, 1) := by decide +kernel
theorem x_386_9 : decode (q_code 386) 9 = .ok (.aload_n 0, 1) := by decide +kernel
theorem x_386_10 : decode (q_code 386) 10 = .ok (.iload_n 1, 1) := by decide +kernel
theorem x_386_11 : decode (q_code 386) 11 = .ok (.iload_n 2, 1) := by decide +kernel
theorem x_386_12 : decode (q_code 386) 12 = .ok (.invokevirtual 760, 3) := by decide +kernel
theorem x_386_15 : decode (q_code 386) 15 = .ok (.ifCond .ne 22, 3) := by decide +kernel
theorem x_386_18 : decode (q_code 386) 18 = .ok (.aload_n 0, 1) := by decide +kernel
theorem x_386_19 : decode (q_code 386) 19 = .ok (.getfield 79, 3) := by decide +kernel
theorem x_386_22 : decode (q_code 386) 22 = .ok (.aload_n 0, 1) := by decide +kernel
theorem x_386_23 : decode (q_code 386) 23 = .ok (.iload_n 1, 1) := by decide +kernel
theorem x_386_24 : decode (q_code 386) 24 = .ok (.iload_n 2, 1) := by decide +kernel
theorem x_386_25 : decode (q_code 386) 25 = .ok (.iconst 0, 1) := by decide +kernel
theorem x_386_26 : decode (q_code 386) 26 = .ok (.invokevirtual 755, 3) := by decide +kernel
theorem x_386_29 : decode (q_code 386) 29 = .ok (.iaload, 1) := by decide +kernel
theorem x_386_30 : decode (q_code 386) 30 = .ok (.istore_n 2, 1) := by decide +kernel
theorem x_386_31 : decode (q_code 386) 31 = .ok (.iinc 3 1, 3) := by decide +kernel
theorem x_386_34 : decode (q_code 386) 34 = .ok (.goto (-25), 3) := by decide +kernel
theorem x_386_37 : decode (q_code 386) 37 = .ok (.iload_n 3, 1) := by decide +kernel
theorem x_386_38 : decode (q_code 386) 38 = .ok (.ireturn, 1) := by decide +kernel
theorem x_387_0 : decode (q_code 387) 0 = .ok (.iconst 0, 1) := by decide +kernel
theorem x_387_1 : decode (q_code 387) 1 = .ok (.istore_n 3, 1) := by decide +kernel
theorem x_387_2 : decode (q_code 387) 2 = .ok (.iconst 0, 1) := by decide +kernel
theorem x_387_3 : decode (q_code 387) 3 = .ok (.istore 4, 2) := by decide +kernel
theorem x_387_5 : decode (q_code 387) 5 = .ok (.iload 4, 2) := by decide +kernel
theorem x_387_7 : decode (q_code 387) 7 = .ok (.sipush 600, 3) := by decide +kernel
theorem x_387_10 : decode (q_code 387) 10 = .ok (.if_icmp .ge 47, 3) := by decide +kernel
theorem x_387_13 : decode (q_code 387) 13 = .ok (.iload_n 3, 1) := by decide +kernel
theorem x_387_14 : decode (q_code 387) 14 = .ok (.aload_n 0, 1) := by decide +kernel
theorem x_387_15 : decode (q_code 387) 15 = .ok (.getfield 69, 3) := by decide +kernel
theorem x_387_18 : decode (q_code 387) 18 = .ok (.iload_n 1, 1) := by decide +kernel
theorem x_387_19 : decode (q_code 387) 19 = .ok (.sipush 600, 3) := by decide +kernel
theorem x_387_22 : decode (q_code 387) 22 = .ok (.imul, 1) := by decide +kernel
theorem x_387_23 : decode (q_code 387) 23 = .ok (.iload 4, 2) := by decide +kernel
theorem x_387_25 : decode (q_code 387) 25 = .ok (.iadd, 1) := by decide +kernel
theorem x_387_26 : decode (q_code 387) 26 = .ok (.baload, 1) := by decide +kernel
theorem x_387_27 : decode (q_code 387) 27 = .ok (.ifCond .eq 21, 3) := by decide +kernel
theorem x_387_30 : decode (q_code 387) 30 = .ok (.iload_n 2, 1) := by decide +kernel
theorem x_387_31 : decode (q_code 387) 31 = .ok (.ifCond .eq 13, 3) := by decide +kernel
theorem x_387_34 : decode (q_code 387) 34 = .ok (.aload_n 0, 1) := by decide +kernel
theorem x_387_35 : decode (q_code 387) 35 = .ok (.iload_n 1, 1) := by decide +kernel
theorem x_387_36 : decode (q_code 387) 36 = .ok (.iload 4, 2) := by decide +kernel
theorem x_387_38 : decode (q_code 387) 38 = .ok (.invokevirtual 760, 3) := by decide +kernel
theorem x_387_41 : decode (q_code 387) 41 = .ok (.ifCond .eq 7, 3) := by decide +kernel
theorem x_387_44 : decode (q_code 387) 44 = .ok (.iconst 1, 1) := by decide +kernel
theorem x_387_45 : decode (q_code 387) 45 = .ok (.goto 4, 3) := by decide +kernel
theorem x_387_48 : decode (q_code 387) 48 = .ok (.iconst 0, 1) := by decide +kernel
theorem x_387_49 : decode (q_code 387) 49 = .ok (.iadd, 1) := by decide +kernel
theorem x_387_50 : decode (q_code 387) 50 = .ok (.istore_n 3, 1) := by decide +kernel
theorem x_387_51 : decode (q_code 387) 51 = .ok (.iinc 4 1, 3) := by decide +kernel
theorem x_387_54 : decode (q_code 387) 54 = .ok (.goto (-49), 3) := by decide +kernel
theorem x_387_57 : decode (q_code 387) 57 = .ok (.iload_n 3, 1) := by decide +kernel
theorem x_387_58 : decode (q_code 387) 58 = .ok (.ireturn, 1) := by decide +kernel
theorem x_388_0 : decode (q_code 388) 0 = .ok (.bipush (-100), 2) := by decide +kernel
theorem x_388_2 : decode (q_code 388) 2 = .ok (.iload_n 0, 1) := by decide +kernel
theorem x_388_3 : decode (q_code 388) 3 = .ok (.isub, 1) := by decide +kernel
theorem x_388_4 : decode (q_code 388) 4 = .ok (.ireturn, 1) := by decide +kernel
theorem x_389_0 : decode (q_code 389) 0 = .ok (.sipush (-200), 3) := by decide +kernel
theorem x_389_3 : decode (q_code 389) 3 = .ok (.iload_n 0, 1) := by decide +kernel
theorem x_389_4 : decode (q_code 389) 4 = .ok (.isub, 1) := by decide +kernel
theorem x_389_5 : decode (q_code 389) 5 = .ok (.ireturn, 1) := by decide +kernel
theorem x_390_0 : decode (q_code 390) 0 = .ok (.iload_n 1, 1) := by decide +kernel
theorem x_390_1 : decode (q_code 390) 1 = .ok (.ifCond .lt 11, 3) := by decide +kernel
theorem x_390_4 : decode (q_code 390) 4 = .ok (.aload_n 0, 1) := by decide +kernel
theorem x_390_5 : decode (q_code 390) 5 = .ok (.iload_n 1, 1) := by decide +kernel
theorem x_390_6 : decode (q_code 390) 6 = .ok (.invokevirtual 270, 3) := by decide +kernel
theorem x_390_9 : decode (q_code 390) 9 = .ok (.goto 22, 3) := by decide +kernel
theorem x_390_12 : decode (q_code 390) 12 = .ok (.iload_n 1, 1) := by decide +kernel
theorem x_390_13 : decode (q_code 390) 13 = .ok (.sipush (-200), 3) := by decide +kernel
theorem x_390_16 : decode (q_code 390) 16 = .ok (.if_icmp .le 10, 3) := by decide +kernel
theorem x_390_19 : decode (q_code 390) 19 = .ok (.bipush (-100), 2) := by decide +kernel
theorem x_390_21 : decode (q_code 390) 21 = .ok (.iload_n 1, 1) := by decide +kernel
theorem x_390_22 : decode (q_code 390) 22 = .ok (.isub, 1) := by decide +kernel
theorem x_390_23 : decode (q_code 390) 23 = .ok (.goto 8, 3) := by decide +kernel
theorem x_390_26 : decode (q_code 390) 26 = .ok (.sipush (-200), 3) := by decide +kernel
theorem x_390_29 : decode (q_code 390) 29 = .ok (.iload_n 1, 1) := by decide +kernel
theorem x_390_30 : decode (q_code 390) 30 = .ok (.isub, 1) := by decide +kernel
theorem x_390_31 : decode (q_code 390) 31 = .ok (.ireturn, 1) := by decide +kernel
theorem x_391_0 : decode (q_code 391) 0 = .ok (.aload_n 0, 1) := by decide +kernel
theorem x_391_1 : decode (q_code 391) 1 = .ok (.iload_n 1, 1) := by decide +kernel
theorem x_391_2 : decode (q_code 391) 2 = .ok (.invokevirtual 809, 3) := by decide +kernel
theorem x_391_5 : decode (q_code 391) 5 = .ok (.aload_n 0, 1) := by decide +kernel
theorem x_391_6 : decode (q_code 391) 6 = .ok (.iload_n 2, 1) := by decide +kernel
theorem x_391_7 : decode (q_code 391) 7 = .ok (.invokevirtual 809, 3) := by decide +kernel
theorem x_391_10 : decode (q_code 391) 10 = .ok (.isub, 1) := by decide +kernel
theorem x_391_11 : decode (q_code 391) 11 = .ok (.istore_n 3, 1) := by decide +kernel
theorem x_391_12 : decode (q_code 391) 12 = .ok (.iload_n 3, 1) := by decide +kernel
theorem x_391_13 : decode (q_code 391) 13 = .ok (.ifCond .eq 5, 3) := by decide +kernel
theorem x_391_16 : decode (q_code 391) 16 = .ok (.iload_n 3, 1) := by decide +kernel
theorem x_391_17 : decode (q_code 391) 17 = .ok (.ireturn, 1) := by decide +kernel
theorem x_391_18 : decode (q_code 391) 18 = .ok (.iload_n 1, 1) := by decide +kernel
theorem x_391_19 : decode (q_code 391) 19 = .ok (.ifCond .lt 7, 3) := by decide +kernel
theorem x_391_22 : decode (q_code 391) 22 = .ok (.iconst 1, 1) := by decide +kernel
theorem x_391_23 : decode (q_code 391) 23 = .ok (.goto 15, 3) := by decide +kernel
theorem x_391_26 : decode (q_code 391) 26 = .ok (.iload_n 1, 1) := by decide +kernel
theorem x_391_27 : decode (q_code 391) 27 = .ok (.sipush (-200), 3) := by decide +kernel
theorem x_391_30 : decode (q_code 391) 30 = .ok (.if_icmp .le 7, 3) := by decide +kernel
theorem x_391_33 : decode (q_code 391) 33 = .ok (.iconst 0, 1) := by decide +kernel
theorem x_391_34 : decode (q_code 391) 34 = .ok (.goto 4, 3) := by decide +kernel
theorem x_391_37 : decode (q_code 391) 37 = .ok (.iconst 2, 1) := by decide +kernel
theorem x_391_38 : decode (q_code 391) 38 = .ok (.istore 4, 2) := by decide +kernel
theorem x_391_40 : decode (q_code 391) 40 = .ok (.iload_n 2, 1) := by decide +kernel
theorem x_391_41 : decode (q_code 391) 41 = .ok (.ifCond .lt 7, 3) := by decide +kernel
theorem x_391_44 : decode (q_code 391) 44 = .ok (.iconst 1, 1) := by decide +kernel
theorem x_391_45 : decode (q_code 391) 45 = .ok (.goto 15, 3) := by decide +kernel
theorem x_391_48 : decode (q_code 391) 48 = .ok (.iload_n 2, 1) := by decide +kernel
theorem x_391_49 : decode (q_code 391) 49 = .ok (.sipush (-200), 3) := by decide +kernel
theorem x_391_52 : decode (q_code 391) 52 = .ok (.if_icmp .le 7, 3) := by decide +kernel
theorem x_391_55 : decode (q_code 391) 55 = .ok (.iconst 0, 1) := by decide +kernel
theorem x_391_56 : decode (q_code 391) 56 = .ok (.goto 4, 3) := by decide +kernel
theorem x_391_59 : decode (q_code 391) 59 = .ok (.iconst 2, 1) := by decide +kernel
theorem x_391_60 : decode (q_code 391) 60 = .ok (.istore 5, 2) := by decide +kernel
theorem x_391_62 : decode (q_code 391) 62 = .ok (.iload 4, 2) := by decide +kernel
theorem x_391_64 : decode (q_code 391) 64 = .ok (.iload 5, 2) := by decide +kernel
theorem x_391_66 : decode (q_code 391) 66 = .ok (.if_icmp .ne 9, 3) := by decide +kernel
theorem x_391_69 : decode (q_code 391) 69 = .ok (.iload 4, 2) := by decide +kernel
theorem x_391_71 : decode (q_code 391) 71 = .ok (.iconst 1, 1) := by decide +kernel
theorem x_391_72 : decode (q_code 391) 72 = .ok (.if_icmp .eq 11, 3) := by decide +kernel
theorem x_391_75 : decode (q_code 391) 75 = .ok (.iload 4, 2) := by decide +kernel
theorem x_391_77 : decode (q_code 391) 77 = .ok (.iload 5, 2) := by decide +kernel
theorem x_391_79 : decode (q_code 391) 79 = .ok (.isub, 1) := by decide +kernel
theorem x_391_80 : decode (q_code 391) 80 = .ok (.goto 9, 3) := by decide +kernel
theorem x_391_83 : decode (q_code 391) 83 = .ok (.aload_n 0, 1) := by decide +kernel
theorem x_391_84 : decode (q_code 391) 84 = .ok (.iload_n 1, 1) := by decide +kernel
theorem x_391_85 : decode (q_code 391) 85 = .ok (.iload_n 2, 1) := by decide +kernel
theorem x_391_86 : decode (q_code 391) 86 = .ok (.invokevirtual 284, 3) := by decide +kernel
theorem x_391_89 : decode (q_code 391) 89 = .ok (.ireturn, 1) := by decide +kernel
theorem x_392_0 : decode (q_code 392) 0 = .ok (.aload_n 0, 1) := by decide +kernel
theorem x_392_1 : decode (q_code 392) 1 = .ok (.getfield 91, 3) := by decide +kernel
theorem x_392_4 : decode (q_code 392) 4 = .ok (.aload_n 0, 1) := by decide +kernel
theorem x_392_5 : decode (q_code 392) 5 = .ok (.getfield 812, 3) := by decide +kernel
theorem x_392_8 : decode (q_code 392) 8 = .ok (.iload_n 1, 1) := by decide +kernel
theorem x_392_9 : decode (q_code 392) 9 = .ok (.iastore, 1) := by decide +kernel
theorem x_392_10 : decode (q_code 392) 10 = .ok (.aload_n 0, 1) := by decide +kernel
theorem x_392_11 : decode (q_code 392) 11 = .ok (.getfield 97, 3) := by decide +kernel
theorem x_392_14 : decode (q_code 392) 14 = .ok (.aload_n 0, 1) := by decide +kernel
theorem x_392_15 : decode (q_code 392) 15 = .ok (.getfield 812, 3) := by decide +kernel
theorem x_392_18 : decode (q_code 392) 18 = .ok (.iload_n 2, 1) := by decide +kernel
theorem x_392_19 : decode (q_code 392) 19 = .ok (.bastore, 1) := by decide +kernel
theorem x_392_20 : decode (q_code 392) 20 = .ok (.aload_n 0, 1) := by decide +kernel
theorem x_392_21 : decode (q_code 392) 21 = .ok (.getfield 94, 3) := by decide +kernel
theorem x_392_24 : decode (q_code 392) 24 = .ok (.aload_n 0, 1) := by decide +kernel
theorem x_392_25 : decode (q_code 392) 25 = .ok (.getfield 812, 3) := by decide +kernel
theorem x_392_28 : decode (q_code 392) 28 = .ok (.iload_n 3, 1) := by decide +kernel
theorem x_392_29 : decode (q_code 392) 29 = .ok (.iastore, 1) := by decide +kernel
theorem x_392_30 : decode (q_code 392) 30 = .ok (.aload_n 0, 1) := by decide +kernel
theorem x_392_31 : decode (q_code 392) 31 = .ok (.getfield 100, 3) := by decide +kernel
theorem x_392_34 : decode (q_code 392) 34 = .ok (.aload_n 0, 1) := by decide +kernel
theorem x_392_35 : decode (q_code 392) 35 = .ok (.getfield 812, 3) := by decide +kernel
theorem x_392_38 : decode (q_code 392) 38 = .ok (.iload 4, 2) := by decide +kernel
theorem x_392_40 : decode (q_code 392) 40 = .ok (.bastore, 1) := by decide +kernel
theorem x_392_41 : decode (q_code 392) 41 = .ok (.aload_n 0, 1) := by decide +kernel
theorem x_392_42 : decode (q_code 392) 42 = .ok (.dup, 1) := by decide +kernel
theorem x_392_43 : decode (q_code 392) 43 = .ok (.getfield 812, 3) := by decide +kernel
theorem x_392_46 : decode (q_code 392) 46 = .ok (.iconst 1, 1) := by decide +kernel
theorem x_392_47 : decode (q_code 392) 47 = .ok (.iadd, 1) := by decide +kernel
theorem x_392_48 : decode (q_code 392) 48 = .ok (.putfield 812, 3) := by decide +kernel
theorem x_392_51 : decode (q_code 392) 51 = .ok (.return_, 1) := by decide +kernel
theorem x_393_0 : decode (q_code 393) 0 = .ok (.iload_n 1, 1) := by decide +kernel
theorem x_393_1 : decode (q_code 393) 1 = .ok (.istore_n 3, 1) := by decide +kernel
theorem x_393_2 : decode (q_code 393) 2 = .ok (.iload_n 3, 1) := by decide +kernel
theorem x_393_3 : decode (q_code 393) 3 = .ok (.aload_n 0, 1) := by decide +kernel
theorem x_393_4 : decode (q_code 393) 4 = .ok (.getfield 812, 3) := by decide +kernel
theorem x_393_7 : decode (q_code 393) 7 = .ok (.if_icmp .ge 24, 3) := by decide +kernel
theorem x_393_10 : decode (q_code 393) 10 = .ok (.aload_n 0, 1) := by decide +kernel
theorem x_393_11 : decode (q_code 393) 11 = .ok (.aload_n 0, 1) := by decide +kernel
theorem x_393_12 : decode (q_code 393) 12 = .ok (.getfield 91, 3) := by decide +kernel
theorem x_393_15 : decode (q_code 393) 15 = .ok (.iload_n 3, 1) := by decide +kernel
theorem x_393_16 : decode (q_code 393) 16 = .ok (.iaload, 1) := by decide +kernel
theorem x_393_17 : decode (q_code 393) 17 = .ok (.iload_n 2, 1) := by decide +kernel
theorem x_393_18 : decode (q_code 393) 18 = .ok (.invokevirtual 423, 3) := by decide +kernel
theorem x_393_21 : decode (q_code 393) 21 = .ok (.ifCond .eq 4, 3) := by decide +kernel
theorem x_393_24 : decode (q_code 393) 24 = .ok (.return_, 1) := by decide +kernel
theorem x_393_25 : decode (q_code 393) 25 = .ok (.iinc 3 1, 3) := by decide +kernel
theorem x_393_28 : decode (q_code 393) 28 = .ok (.goto (-26), 3) := by decide +kernel
theorem x_393_31 : decode (q_code 393) 31 = .ok (.aload_n 0, 1) := by decide +kernel
theorem x_393_32 : decode (q_code 393) 32 = .ok (.iload_n 2, 1) := by decide +kernel
theorem x_393_33 : decode (q_code 393) 33 = .ok (.iconst 1, 1) := by decide +kernel
theorem x_393_34 : decode (q_code 393) 34 = .ok (.iload_n 2, 1) := by decide +kernel
theorem x_393_35 : decode (q_code 393) 35 = .ok (.iconst 1, 1) := by decide +kernel
theorem x_393_36 : decode (q_code 393) 36 = .ok (.invokevirtual 815, 3) := by decide +kernel
theorem x_393_39 : decode (q_code 393) 39 = .ok (.return_, 1) := by decide +kernel
theorem x_394_0 : decode (q_code 394) 0 = .ok (.aload_n 0, 1) := by decide +kernel
theorem x_394_1 : decode (q_code 394) 1 = .ok (.getfield 812, 3) := by decide +kernel
theorem x_394_4 : decode (q_code 394) 4 = .ok (.istore_n 3, 1) := by decide +kernel
theorem x_394_5 : decode (q_code 394) 5 = .ok (.iload_n 2, 1) := by decide +kernel
theorem x_394_6 : decode (q_code 394) 6 = .ok (.ifCond .ne 14, 3) := by decide +kernel
theorem x_394_9 : decode (q_code 394) 9 = .ok (.aload_n 0, 1) := by decide +kernel
theorem x_394_10 : decode (q_code 394) 10 = .ok (.iload_n 1, 1) := by decide +kernel
theorem x_394_11 : decode (q_code 394) 11 = .ok (.ldc_w 363, 3) := by decide +kernel
theorem x_394_14 : decode (q_code 394) 14 = .ok (.invokevirtual 325, 3) := by decide +kernel
theorem x_394_17 : decode (q_code 394) 17 = .ok (.ifCond .eq 7, 3) := by decide +kernel
theorem x_394_20 : decode (q_code 394) 20 = .ok (.iconst 1, 1) := by decide +kernel
theorem x_394_21 : decode (q_code 394) 21 = .ok (.goto 4, 3) := by decide +kernel
theorem x_394_24 : decode (q_code 394) 24 = .ok (.iconst 0, 1) := by decide +kernel
theorem x_394_25 : decode (q_code 394) 25 = .ok (.istore 4, 2) := by decide +kernel
theorem x_394_27 : decode (q_code 394) 27 = .ok (.iload 4, 2) := by decide +kernel
theorem x_394_29 : decode (q_code 394) 29 = .ok (.ifCond .ne 106, 3) := by decide +kernel
theorem x_394_32 : decode (q_code 394) 32 = .ok (.aload_n 0, 1) := by decide +kernel
theorem x_394_33 : decode (q_code 394) 33 = .ok (.iload_n 1, 1) := by decide +kernel
theorem x_394_34 : decode (q_code 394) 34 = .ok (.ldc_w 367, 3) := by decide +kernel
theorem x_394_37 : decode (q_code 394) 37 = .ok (.invokevirtual 325, 3) := by decide +kernel
theorem x_394_40 : decode (q_code 394) 40 = .ok (.ifCond .eq 95, 3) := by decide +kernel
theorem x_394_43 : decode (q_code 394) 43 = .ok (.aload_n 0, 1) := by decide +kernel
theorem x_394_44 : decode (q_code 394) 44 = .ok (.iload_n 1, 1) := by decide +kernel
theorem x_394_45 : decode (q_code 394) 45 = .ok (.invokevirtual 163, 3) := by decide +kernel
theorem x_394_48 : decode (q_code 394) 48 = .ok (.invokestatic 174, 3) := by decide +kernel
theorem x_394_51 : decode (q_code 394) 51 = .ok (.istore 5, 2) := by decide +kernel
theorem x_394_53 : decode (q_code 394) 53 = .ok (.iload 5, 2) := by decide +kernel
theorem x_394_55 : decode (q_code 394) 55 = .ok (.aload_n 0, 1) := by decide +kernel
theorem x_394_56 : decode (q_code 394) 56 = .ok (.aload_n 0, 1) := by decide +kernel
theorem x_394_57 : decode (q_code 394) 57 = .ok (.iload_n 1, 1) := by decide +kernel
theorem x_394_58 : decode (q_code 394) 58 = .ok (.invokevirtual 163, 3) := by decide +kernel
theorem x_394_61 : decode (q_code 394) 61 = .ok (.invokevirtual 177, 3) := by decide +kernel
theorem x_394_64 : decode (q_code 394) 64 = .ok (.if_icmp .ge 27, 3) := by decide +kernel
theorem x_394_67 : decode (q_code 394) 67 = .ok (.aload_n 0, 1) := by decide +kernel
theorem x_394_68 : decode (q_code 394) 68 = .ok (.getfield 10, 3) := by decide +kernel
theorem x_394_71 : decode (q_code 394) 71 = .ok (.iload 5, 2) := by decide +kernel
theorem x_394_73 : decode (q_code 394) 73 = .ok (.baload, 1) := by decide +kernel
theorem x_394_74 : decode (q_code 394) 74 = .ok (.iconst 4, 1) := by decide +kernel
theorem x_394_75 : decode (q_code 394) 75 = .ok (.if_icmp .ne 5, 3) := by decide +kernel
theorem x_394_78 : decode (q_code 394) 78 = .ok (.iconst 0, 1) := by decide +kernel
theorem x_394_79 : decode (q_code 394) 79 = .ok (.ireturn, 1) := by decide +kernel
theorem x_394_80 : decode (q_code 394) 80 = .ok (.aload_n 0, 1) := by decide +kernel
theorem x_394_81 : decode (q_code 394) 81 = .ok (.iload 5, 2) := by decide +kernel
theorem x_394_83 : decode (q_code 394) 83 = .ok (.invokevirtual 180, 3) := by decide +kernel
theorem x_394_86 : decode (q_code 394) 86 = .ok (.istore 5, 2) := by decide +kernel
theorem x_394_88 : decode (q_code 394) 88 = .ok (.goto (-35), 3) := by decide +kernel
theorem x_394_91 : decode (q_code 394) 91 = .ok (.aload_n 0, 1) := by decide +kernel
theorem x_394_92 : decode (q_code 394) 92 = .ok (.iload_n 1, 1) := by decide +kernel
theorem x_394_93 : decode (q_code 394) 93 = .ok (.invokevirtual 163, 3) := by decide +kernel
theorem x_394_96 : decode (q_code 394) 96 = .ok (.invokestatic 174, 3) := by decide +kernel
theorem x_394_99 : decode (q_code 394) 99 = .ok (.istore 5, 2) := by decide +kernel
theorem x_394_101 : decode (q_code 394) 101 = .ok (.iload 5, 2) := by decide +kernel
theorem x_394_103 : decode (q_code 394) 103 = .ok (.aload_n 0, 1) := by decide +kernel
theorem x_394_104 : decode (q_code 394) 104 = .ok (.aload_n 0, 1) := by decide +kernel
theorem x_394_105 : decode (q_code 394) 105 = .ok (.iload_n 1, 1) := by decide +kernel
theorem x_394_106 : decode (q_code 394) 106 = .ok (.invokevirtual 163, 3) := by decide +kernel
theorem x_394_109 : decode (q_code 394) 109 = .ok (.invokevirtual 177, 3) := by decide +kernel
theorem x_394_112 : decode (q_code 394) 112 = .ok (.if_icmp .ge 21, 3) := by decide +kernel
theorem x_394_115 : decode (q_code 394) 115 = .ok (.aload_n 0, 1) := by decide +kernel
theorem x_394_116 : decode (q_code 394) 116 = .ok (.iload_n 3, 1) := by decide +kernel
theorem x_394_117 : decode (q_code 394) 117 = .ok (.iload 5, 2) := by decide +kernel
theorem x_394_119 : decode (q_code 394) 119 = .ok (.invokevirtual 819, 3) := by decide +kernel
theorem x_394_122 : decode (q_code 394) 122 = .ok (.aload_n 0, 1) := by decide +kernel
theorem x_394_123 : decode (q_code 394) 123 = .ok (.iload 5, 2) := by decide +kernel
theorem x_394_125 : decode (q_code 394) 125 = .ok (.invokevirtual 180, 3) := by decide +kernel
theorem x_394_128 : decode (q_code 394) 128 = .ok (.istore 5, 2) := by decide +kernel
theorem x_394_130 : decode (q_code 394) 130 = .ok (.goto (-29), 3) := by decide +kernel
theorem x_394_133 : decode (q_code 394) 133 = .ok (.iconst 1, 1) := by decide +kernel
theorem x_394_134 : decode (q_code 394) 134 = .ok (.ireturn, 1) := by decide +kernel
theorem x_394_135 : decode (q_code 394) 135 = .ok (.aload_n 0, 1) := by decide +kernel
theorem x_394_136 : decode (q_code 394) 136 = .ok (.iload_n 1, 1) := by decide +kernel
theorem x_394_137 : decode (q_code 394) 137 = .ok (.ldc_w 371, 3) := by decide +kernel
theorem x_394_140 : decode (q_code 394) 140 = .ok (.invokevirtual 325, 3) := by decide +kernel
theorem x_394_143 : decode (q_code 394) 143 = .ok (.ifCond .ne 14, 3) := by decide +kernel
theorem x_394_146 : decode (q_code 394) 146 = .ok (.aload_n 0, 1) := by decide +kernel
theorem x_394_147 : decode (q_code 394) 147 = .ok (.iload_n 1, 1) := by decide +kernel
theorem x_394_148 : decode (q_code 394) 148 = .ok (.ldc_w 373, 3) := by decide +kernel
theorem x_394_151 : decode (q_code 394) 151 = .ok (.invokevirtual 325, 3) := by decide +kernel
theorem x_394_154 : decode (q_code 394) 154 = .ok (.ifCond .eq 7, 3) := by decide +kernel
theorem x_394_157 : decode (q_code 394) 157 = .ok (.iconst 1, 1) := by decide +kernel
theorem x_394_158 : decode (q_code 394) 158 = .ok (.goto 4, 3) := by decide +kernel
theorem x_394_161 : decode (q_code 394) 161 = .ok (.iconst 0, 1) := by decide +kernel
theorem x_394_162 : decode (q_code 394) 162 = .ok (.istore 5, 2) := by decide +kernel
theorem x_394_164 : decode (q_code 394) 164 = .ok (.aload_n 0, 1) := by decide +kernel
theorem x_394_165 : decode (q_code 394) 165 = .ok (.iload_n 1, 1) := by decide +kernel
theorem x_394_166 : decode (q_code 394) 166 = .ok (.ldc_w 375, 3) := by decide +kernel
theorem x_394_169 : decode (q_code 394) 169 = .ok (.invokevirtual 325, 3) := by decide +kernel
theorem x_394_172 : decode (q_code 394) 172 = .ok (.ifCond .ne 14, 3) := by decide +kernel
theorem x_394_175 : decode (q_code 394) 175 = .ok (.aload_n 0, 1) := by decide +kernel
theorem x_394_176 : decode (q_code 394) 176 = .ok (.iload_n 1, 1) := by decide +kernel
theorem x_394_177 : decode (q_code 394) 177 = .ok (.ldc_w 377, 3) := by decide +kernel
theorem x_394_180 : decode (q_code 394) 180 = .ok (.invokevirtual 325, 3) := by decide +kernel
theorem x_394_183 : decode (q_code 394) 183 = .ok (.ifCond .eq 7, 3) := by decide +kernel
theorem x_394_186 : decode (q_code 394) 186 = .ok (.iconst 1, 1) := by decide +kernel
theorem x_394_187 : decode (q_code 394) 187 = .ok (.goto 4, 3) := by decide +kernel
theorem x_394_190 : decode (q_code 394) 190 = .ok (.iconst 0, 1) := by decide +kernel
theorem x_394_191 : decode (q_code 394) 191 = .ok (.istore 6, 2) := by decide +kernel
theorem x_394_193 : decode (q_code 394) 193 = .ok (.iload 4, 2) := by decide +kernel
theorem x_394_195 : decode (q_code 394) 195 = .ok (.ifCond .ne 13, 3) := by decide +kernel
theorem x_394_198 : decode (q_code 394) 198 = .ok (.iload 5, 2) := by decide +kernel
theorem x_394_200 : decode (q_code 394) 200 = .ok (.ifCond .ne 8, 3) := by decide +kernel
theorem x_394_203 : decode (q_code 394) 203 = .ok (.iload 6, 2) := by decide +kernel
theorem x_394_205 : decode (q_code 394) 205 = .ok (.ifCond .eq 13, 3) := by decide +kernel
theorem x_394_208 : decode (q_code 394) 208 = .ok (.aload_n 0, 1) := by decide +kernel
theorem x_394_209 : decode (q_code 394) 209 = .ok (.getfield 10, 3) := by decide +kernel
theorem x_394_212 : decode (q_code 394) 212 = .ok (.iload_n 1, 1) := by decide +kernel
theorem x_394_213 : decode (q_code 394) 213 = .ok (.baload, 1) := by decide +kernel
theorem x_394_214 : decode (q_code 394) 214 = .ok (.iconst 4, 1) := by decide +kernel
theorem x_394_215 : decode (q_code 394) 215 = .ok (.if_icmp .ne 5, 3) := by decide +kernel
theorem x_394_218 : decode (q_code 394) 218 = .ok (.iconst 0, 1) := by decide +kernel
theorem x_394_219 : decode (q_code 394) 219 = .ok (.ireturn, 1) := by decide +kernel
theorem x_394_220 : decode (q_code 394) 220 = .ok (.aload_n 0, 1) := by decide +kernel
theorem x_394_221 : decode (q_code 394) 221 = .ok (.iload_n 1, 1) := by decide +kernel
theorem x_394_222 : decode (q_code 394) 222 = .ok (.ldc_w 373, 3) := by decide +kernel
theorem x_394_225 : decode (q_code 394) 225 = .ok (.invokevirtual 325, 3) := by decide +kernel
theorem x_394_228 : decode (q_code 394) 228 = .ok (.ifCond .ne 14, 3) := by decide +kernel
theorem x_394_231 : decode (q_code 394) 231 = .ok (.aload_n 0, 1) := by decide +kernel
theorem x_394_232 : decode (q_code 394) 232 = .ok (.iload_n 1, 1) := by decide +kernel
theorem x_394_233 : decode (q_code 394) 233 = .ok (.ldc_w 377, 3) := by decide +kernel
theorem x_394_236 : decode (q_code 394) 236 = .ok (.invokevirtual 325, 3) := by decide +kernel
theorem x_394_239 : decode (q_code 394) 239 = .ok (.ifCond .eq 7, 3) := by decide +kernel
theorem x_394_242 : decode (q_code 394) 242 = .ok (.iconst 1, 1) := by decide +kernel
theorem x_394_243 : decode (q_code 394) 243 = .ok (.goto 4, 3) := by decide +kernel
theorem x_394_246 : decode (q_code 394) 246 = .ok (.iconst 0, 1) := by decide +kernel
theorem x_394_247 : decode (q_code 394) 247 = .ok (.istore 7, 2) := by decide +kernel
theorem x_394_249 : decode (q_code 394) 249 = .ok (.aload_n 0, 1) := by decide +kernel
theorem x_394_250 : decode (q_code 394) 250 = .ok (.iload_n 1, 1) := by decide +kernel
theorem x_394_251 : decode (q_code 394) 251 = .ok (.invokevirtual 270, 3) := by decide +kernel
theorem x_394_254 : decode (q_code 394) 254 = .ok (.istore 8, 2) := by decide +kernel
theorem x_394_256 : decode (q_code 394) 256 = .ok (.iload 4, 2) := by decide +kernel
theorem x_394_258 : decode (q_code 394) 258 = .ok (.ifCond .ne 14, 3) := by decide +kernel
theorem x_394_261 : decode (q_code 394) 261 = .ok (.iload 8, 2) := by decide +kernel
theorem x_394_263 : decode (q_code 394) 263 = .ok (.iconst 1, 1) := by decide +kernel
theorem x_394_264 : decode (q_code 394) 264 = .ok (.if_icmp .ne 17, 3) := by decide +kernel
theorem x_394_267 : decode (q_code 394) 267 = .ok (.iload 7, 2) := by decide +kernel
theorem x_394_269 : decode (q_code 394) 269 = .ok (.ifCond .eq 12, 3) := by decide +kernel
theorem x_394_272 : decode (q_code 394) 272 = .ok (.aload_n 0, 1) := by decide +kernel
theorem x_394_273 : decode (q_code 394) 273 = .ok (.iload_n 3, 1) := by decide +kernel
theorem x_394_274 : decode (q_code 394) 274 = .ok (.iload_n 1, 1) := by decide +kernel
theorem x_394_275 : decode (q_code 394) 275 = .ok (.invokevirtual 819, 3) := by decide +kernel
theorem x_394_278 : decode (q_code 394) 278 = .ok (.goto 49, 3) := by decide +kernel
theorem x_394_281 : decode (q_code 394) 281 = .ok (.iload 8, 2) := by decide +kernel
theorem x_394_283 : decode (q_code 394) 283 = .ok (.iconst 1, 1) := by decide +kernel
theorem x_394_284 : decode (q_code 394) 284 = .ok (.if_icmp .le 24, 3) := by decide +kernel
theorem x_394_287 : decode (q_code 394) 287 = .ok (.iload 5, 2) := by decide +kernel
theorem x_394_289 : decode (q_code 394) 289 = .ok (.ifCond .eq 19, 3) := by decide +kernel
theorem x_394_292 : decode (q_code 394) 292 = .ok (.aload_n 0, 1) := by decide +kernel
theorem x_394_293 : decode (q_code 394) 293 = .ok (.iload 8, 2) := by decide +kernel
theorem x_394_295 : decode (q_code 394) 295 = .ok (.invokestatic 822, 3) := by decide +kernel
theorem x_394_298 : decode (q_code 394) 298 = .ok (.iconst 0, 1) := by decide +kernel
theorem x_394_299 : decode (q_code 394) 299 = .ok (.iload_n 1, 1) := by decide +kernel
theorem x_394_300 : decode (q_code 394) 300 = .ok (.iload 7, 2) := by decide +kernel
theorem x_394_302 : decode (q_code 394) 302 = .ok (.invokevirtual 815, 3) := by decide +kernel
theorem x_394_305 : decode (q_code 394) 305 = .ok (.goto 22, 3) := by decide +kernel
theorem x_394_308 : decode (q_code 394) 308 = .ok (.iload 8, 2) := by decide +kernel
theorem x_394_310 : decode (q_code 394) 310 = .ok (.iconst 1, 1) := by decide +kernel
theorem x_394_311 : decode (q_code 394) 311 = .ok (.if_icmp .le 16, 3) := by decide +kernel
theorem x_394_314 : decode (q_code 394) 314 = .ok (.aload_n 0, 1) := by decide +kernel
theorem x_394_315 : decode (q_code 394) 315 = .ok (.iload_n 1, 1) := by decide +kernel
theorem x_394_316 : decode (q_code 394) 316 = .ok (.iload 7, 2) := by decide +kernel
theorem x_394_318 : decode (q_code 394) 318 = .ok (.iload 8, 2) := by decide +kernel
theorem x_394_320 : decode (q_code 394) 320 = .ok (.invokestatic 825, 3) := by decide +kernel
theorem x_394_323 : decode (q_code 394) 323 = .ok (.iconst 0, 1) := by decide +kernel
theorem x_394_324 : decode (q_code 394) 324 = .ok (.invokevirtual 815, 3) := by decide +kernel
theorem x_394_327 : decode (q_code 394) 327 = .ok (.iconst 1, 1) := by decide +kernel
theorem x_394_328 : decode (q_code 394) 328 = .ok (.ireturn, 1) := by decide +kernel
theorem x_395_0 : decode (q_code 395) 0 = .ok (.iload_n 2, 1) := by decide +kernel
theorem x_395_1 : decode (q_code 395) 1 = .ok (.ifCond .ne 14, 3) := by decide +kernel
theorem x_395_4 : decode (q_code 395) 4 = .ok (.aload_n 0, 1) := by decide +kernel
theorem x_395_5 : decode (q_code 395) 5 = .ok (.iload_n 1, 1) := by decide +kernel
theorem x_395_6 : decode (q_code 395) 6 = .ok (.ldc_w 383, 3) := by decide +kernel
theorem x_395_9 : decode (q_code 395) 9 = .ok (.invokevirtual 325, 3) := by decide +kernel
theorem x_395_12 : decode (q_code 395) 12 = .ok (.ifCond .ne 10, 3) := by decide +kernel
theorem x_395_15 : decode (q_code 395) 15 = .ok (.aload_n 0, 1) := by decide +kernel
theorem x_395_16 : decode (q_code 395) 16 = .ok (.iload_n 1, 1) := by decide +kernel
theorem x_395_17 : decode (q_code 395) 17 = .ok (.iload_n 2, 1) := by decide +kernel
theorem x_395_18 : decode (q_code 395) 18 = .ok (.invokevirtual 828, 3) := by decide +kernel
theorem x_395_21 : decode (q_code 395) 21 = .ok (.ireturn, 1) := by decide +kernel
theorem x_395_22 : decode (q_code 395) 22 = .ok (.aload_n 0, 1) := by decide +kernel
theorem x_395_23 : decode (q_code 395) 23 = .ok (.iload_n 1, 1) := by decide +kernel
theorem x_395_24 : decode (q_code 395) 24 = .ok (.invokevirtual 396, 3) := by decide +kernel
theorem x_395_27 : decode (q_code 395) 27 = .ok (.ifCond .ne 5, 3) := by decide +kernel
theorem x_395_30 : decode (q_code 395) 30 = .ok (.iconst 0, 1) := by decide +kernel
theorem x_395_31 : decode (q_code 395) 31 = .ok (.ireturn, 1) := by decide +kernel
theorem x_395_32 : decode (q_code 395) 32 = .ok (.aload_n 0, 1) := by decide +kernel
theorem x_395_33 : decode (q_code 395) 33 = .ok (.getfield 812, 3) := by decide +kernel
theorem x_395_36 : decode (q_code 395) 36 = .ok (.istore_n 3, 1) := by decide +kernel
theorem x_395_37 : decode (q_code 395) 37 = .ok (.iconst 0, 1) := by decide +kernel
theorem x_395_38 : decode (q_code 395) 38 = .ok (.istore 4, 2) := by decide +kernel
theorem x_395_40 : decode (q_code 395) 40 = .ok (.aload_n 0, 1) := by decide +kernel
theorem x_395_41 : decode (q_code 395) 41 = .ok (.iload_n 1, 1) := by decide +kernel
theorem x_395_42 : decode (q_code 395) 42 = .ok (.invokevirtual 163, 3) := by decide +kernel
theorem x_395_45 : decode (q_code 395) 45 = .ok (.invokestatic 174, 3) := by decide +kernel
theorem x_395_48 : decode (q_code 395) 48 = .ok (.istore 5, 2) := by decide +kernel
theorem x_395_50 : decode (q_code 395) 50 = .ok (.iload 5, 2) := by decide +kernel
theorem x_395_52 : decode (q_code 395) 52 = .ok (.aload_n 0, 1) := by decide +kernel
theorem x_395_53 : decode (q_code 395) 53 = .ok (.aload_n 0, 1) := by decide +kernel
theorem x_395_54 : decode (q_code 395) 54 = .ok (.iload_n 1, 1) := by decide +kernel
theorem x_395_55 : decode (q_code 395) 55 = .ok (.invokevirtual 163, 3) := by decide +kernel
theorem x_395_58 : decode (q_code 395) 58 = .ok (.invokevirtual 177, 3) := by decide +kernel
theorem x_395_61 : decode (q_code 395) 61 = .ok (.if_icmp .ge 48, 3) := by decide +kernel
theorem x_395_64 : decode (q_code 395) 64 = .ok (.aload_n 0, 1) := by decide +kernel
theorem x_395_65 : decode (q_code 395) 65 = .ok (.getfield 812, 3) := by decide +kernel
theorem x_395_68 : decode (q_code 395) 68 = .ok (.istore 6, 2) := by decide +kernel
theorem x_395_70 : decode (q_code 395) 70 = .ok (.aload_n 0, 1) := by decide +kernel
theorem x_395_71 : decode (q_code 395) 71 = .ok (.iload 5, 2) := by decide +kernel
theorem x_395_73 : decode (q_code 395) 73 = .ok (.iconst 0, 1) := by decide +kernel
theorem x_395_74 : decode (q_code 395) 74 = .ok (.invokevirtual 828, 3) := by decide +kernel
theorem x_395_77 : decode (q_code 395) 77 = .ok (.ifCond .ne 6, 3) := by decide +kernel
theorem x_395_80 : decode (q_code 395) 80 = .ok (.goto 18, 3) := by decide +kernel
theorem x_395_83 : decode (q_code 395) 83 = .ok (.iload 4, 2) := by decide +kernel
theorem x_395_85 : decode (q_code 395) 85 = .ok (.ifCond .eq 10, 3) := by decide +kernel
theorem x_395_88 : decode (q_code 395) 88 = .ok (.aload_n 0, 1) := by decide +kernel
theorem x_395_89 : decode (q_code 395) 89 = .ok (.iload_n 3, 1) := by decide +kernel
theorem x_395_90 : decode (q_code 395) 90 = .ok (.iload 6, 2) := by decide +kernel
theorem x_395_92 : decode (q_code 395) 92 = .ok (.invokevirtual 832, 3) := by decide +kernel
theorem x_395_95 : decode (q_code 395) 95 = .ok (.iconst 1, 1) := by decide +kernel
theorem x_395_96 : decode (q_code 395) 96 = .ok (.istore 4, 2) := by decide +kernel
theorem x_395_98 : decode (q_code 395) 98 = .ok (.aload_n 0, 1) := by decide +kernel
theorem x_395_99 : decode (q_code 395) 99 = .ok (.iload 5, 2) := by decide +kernel
theorem x_395_101 : decode (q_code 395) 101 = .ok (.invokevirtual 180, 3) := by decide +kernel
theorem x_395_104 : decode (q_code 395) 104 = .ok (.istore 5, 2) := by decide +kernel
theorem x_395_106 : decode (q_code 395) 106 = .ok (.goto (-56), 3) := by decide +kernel
theorem x_395_109 : decode (q_code 395) 109 = .ok (.iload 4, 2) := by decide +kernel
theorem x_395_111 : decode (q_code 395) 111 = .ok (.ifCond .eq 17, 3) := by decide +kernel
theorem x_395_114 : decode (q_code 395) 114 = .ok (.aload_n 0, 1) := by decide +kernel
theorem x_395_115 : decode (q_code 395) 115 = .ok (.iconst 5, 1) := by decide +kernel
theorem x_395_116 : decode (q_code 395) 116 = .ok (.invokestatic 822, 3) := by decide +kernel
theorem x_395_119 : decode (q_code 395) 119 = .ok (.iconst 0, 1) := by decide +kernel
theorem x_395_120 : decode (q_code 395) 120 = .ok (.iconst 5, 1) := by decide +kernel
theorem x_395_121 : decode (q_code 395) 121 = .ok (.invokestatic 825, 3) := by decide +kernel
theorem x_395_124 : decode (q_code 395) 124 = .ok (.iconst 0, 1) := by decide +kernel
theorem x_395_125 : decode (q_code 395) 125 = .ok (.invokevirtual 815, 3) := by decide +kernel
theorem x_395_128 : decode (q_code 395) 128 = .ok (.iload 4, 2) := by decide +kernel
theorem x_395_130 : decode (q_code 395) 130 = .ok (.ireturn, 1) := by decide +kernel
theorem x_396_0 : decode (q_code 396) 0 = .ok (.aload_n 0, 1) := by decide +kernel
theorem x_396_1 : decode (q_code 396) 1 = .ok (.getfield 812, 3) := by decide +kernel
theorem x_396_4 : decode (q_code 396) 4 = .ok (.istore_n 3, 1) := by decide +kernel
theorem x_396_5 : decode (q_code 396) 5 = .ok (.iload_n 1, 1) := by decide +kernel
theorem x_396_6 : decode (q_code 396) 6 = .ok (.istore 4, 2) := by decide +kernel
theorem x_396_8 : decode (q_code 396) 8 = .ok (.iload 4, 2) := by decide +kernel
theorem x_396_10 : decode (q_code 396) 10 = .ok (.iload_n 2, 1) := by decide +kernel
theorem x_396_11 : decode (q_code 396) 11 = .ok (.if_icmp .ge 268, 3) := by decide +kernel
theorem x_396_14 : decode (q_code 396) 14 = .ok (.iload_n 2, 1) := by decide +kernel
theorem x_396_15 : decode (q_code 396) 15 = .ok (.istore 5, 2) := by decide +kernel
theorem x_396_17 : decode (q_code 396) 17 = .ok (.iload 5, 2) := by decide +kernel
theorem x_396_19 : decode (q_code 396) 19 = .ok (.iload_n 3, 1) := by decide +kernel
theorem x_396_20 : decode (q_code 396) 20 = .ok (.if_icmp .ge 253, 3) := by decide +kernel
theorem x_396_23 : decode (q_code 396) 23 = .ok (.aload_n 0, 1) := by decide +kernel
theorem x_396_24 : decode (q_code 396) 24 = .ok (.aload_n 0, 1) := by decide +kernel
theorem x_396_25 : decode (q_code 396) 25 = .ok (.getfield 91, 3) := by decide +kernel
theorem x_396_28 : decode (q_code 396) 28 = .ok (.iload 4, 2) := by decide +kernel
theorem x_396_30 : decode (q_code 396) 30 = .ok (.iaload, 1) := by decide +kernel
theorem x_396_31 : decode (q_code 396) 31 = .ok (.aload_n 0, 1) := by decide +kernel
theorem x_396_32 : decode (q_code 396) 32 = .ok (.getfield 91, 3) := by decide +kernel
theorem x_396_35 : decode (q_code 396) 35 = .ok (.iload 5, 2) := by decide +kernel
theorem x_396_37 : decode (q_code 396) 37 = .ok (.iaload, 1) := by decide +kernel
theorem x_396_38 : decode (q_code 396) 38 = .ok (.invokevirtual 835, 3) := by decide +kernel
theorem x_396_41 : decode (q_code 396) 41 = .ok (.istore 6, 2) := by decide +kernel
theorem x_396_43 : decode (q_code 396) 43 = .ok (.aload_n 0, 1) := by decide +kernel
theorem x_396_44 : decode (q_code 396) 44 = .ok (.aload_n 0, 1) := by decide +kernel
theorem x_396_45 : decode (q_code 396) 45 = .ok (.getfield 94, 3) := by decide +kernel
theorem x_396_48 : decode (q_code 396) 48 = .ok (.iload 4, 2) := by decide +kernel
theorem x_396_50 : decode (q_code 396) 50 = .ok (.iaload, 1) := by decide +kernel
theorem x_396_51 : decode (q_code 396) 51 = .ok (.aload_n 0, 1) := by decide +kernel
theorem x_396_52 : decode (q_code 396) 52 = .ok (.getfield 94, 3) := by decide +kernel
theorem x_396_55 : decode (q_code 396) 55 = .ok (.iload 5, 2) := by decide +kernel
theorem x_396_57 : decode (q_code 396) 57 = .ok (.iaload, 1) := by decide +kernel
theorem x_396_58 : decode (q_code 396) 58 = .ok (.invokevirtual 835, 3) := by decide +kernel
theorem x_396_61 : decode (q_code 396) 61 = .ok (.istore 7, 2) := by decide +kernel
theorem x_396_63 : decode (q_code 396) 63 = .ok (.iload 6, 2) := by decide +kernel
theorem x_396_65 : decode (q_code 396) 65 = .ok (.ifCond .lt 13, 3) := by decide +kernel
theorem x_396_68 : decode (q_code 396) 68 = .ok (.aload_n 0, 1) := by decide +kernel
theorem x_396_69 : decode (q_code 396) 69 = .ok (.getfield 91, 3) := by decide +kernel
theorem x_396_72 : decode (q_code 396) 72 = .ok (.iload 4, 2) := by decide +kernel
theorem x_396_74 : decode (q_code 396) 74 = .ok (.iaload, 1) := by decide +kernel
theorem x_396_75 : decode (q_code 396) 75 = .ok (.goto 10, 3) := by decide +kernel
theorem x_396_78 : decode (q_code 396) 78 = .ok (.aload_n 0, 1) := by decide +kernel
theorem x_396_79 : decode (q_code 396) 79 = .ok (.getfield 91, 3) := by decide +kernel
theorem x_396_82 : decode (q_code 396) 82 = .ok (.iload 5, 2) := by decide +kernel
theorem x_396_84 : decode (q_code 396) 84 = .ok (.iaload, 1) := by decide +kernel
theorem x_396_85 : decode (q_code 396) 85 = .ok (.istore 8, 2) := by decide +kernel
theorem x_396_87 : decode (q_code 396) 87 = .ok (.iload 7, 2) := by decide +kernel
theorem x_396_89 : decode (q_code 396) 89 = .ok (.ifCond .gt 13, 3) := by decide +kernel
theorem x_396_92 : decode (q_code 396) 92 = .ok (.aload_n 0, 1) := by decide +kernel
theorem x_396_93 : decode (q_code 396) 93 = .ok (.getfield 94, 3) := by decide +kernel
theorem x_396_96 : decode (q_code 396) 96 = .ok (.iload 4, 2) := by decide +kernel
theorem x_396_98 : decode (q_code 396) 98 = .ok (.iaload, 1) := by decide +kernel
theorem x_396_99 : decode (q_code 396) 99 = .ok (.goto 10, 3) := by decide +kernel
theorem x_396_102 : decode (q_code 396) 102 = .ok (.aload_n 0, 1) := by decide +kernel
theorem x_396_103 : decode (q_code 396) 103 = .ok (.getfield 94, 3) := by decide +kernel
theorem x_396_106 : decode (q_code 396) 106 = .ok (.iload 5, 2) := by decide +kernel
theorem x_396_108 : decode (q_code 396) 108 = .ok (.iaload, 1) := by decide +kernel
theorem x_396_109 : decode (q_code 396) 109 = .ok (.istore 9, 2) := by decide +kernel
theorem x_396_111 : decode (q_code 396) 111 = .ok (.iload 6, 2) := by decide +kernel
theorem x_396_113 : decode (q_code 396) 113 = .ok (.ifCond .le 13, 3) := by decide +kernel
theorem x_396_116 : decode (q_code 396) 116 = .ok (.aload_n 0, 1) := by decide +kernel
theorem x_396_117 : decode (q_code 396) 117 = .ok (.getfield 97, 3) := by decide +kernel
theorem x_396_120 : decode (q_code 396) 120 = .ok (.iload 4, 2) := by decide +kernel
theorem x_396_122 : decode (q_code 396) 122 = .ok (.baload, 1) := by decide +kernel
theorem x_396_123 : decode (q_code 396) 123 = .ok (.goto 43, 3) := by decide +kernel
theorem x_396_126 : decode (q_code 396) 126 = .ok (.iload 6, 2) := by decide +kernel
theorem x_396_128 : decode (q_code 396) 128 = .ok (.ifCond .ge 13, 3) := by decide +kernel
theorem x_396_131 : decode (q_code 396) 131 = .ok (.aload_n 0, 1) := by decide +kernel
theorem x_396_132 : decode (q_code 396) 132 = .ok (.getfield 97, 3) := by decide +kernel
theorem x_396_135 : decode (q_code 396) 135 = .ok (.iload 5, 2) := by decide +kernel
theorem x_396_137 : decode (q_code 396) 137 = .ok (.baload, 1) := by decide +kernel
theorem x_396_138 : decode (q_code 396) 138 = .ok (.goto 28, 3) := by decide +kernel
theorem x_396_141 : decode (q_code 396) 141 = .ok (.aload_n 0, 1) := by decide +kernel
theorem x_396_142 : decode (q_code 396) 142 = .ok (.getfield 97, 3) := by decide +kernel
theorem x_396_145 : decode (q_code 396) 145 = .ok (.iload 4, 2) := by decide +kernel
theorem x_396_147 : decode (q_code 396) 147 = .ok (.baload, 1) := by decide +kernel
theorem x_396_148 : decode (q_code 396) 148 = .ok (.ifCond .eq 17, 3) := by decide +kernel
theorem x_396_151 : decode (q_code 396) 151 = .ok (.aload_n 0, 1) := by decide +kernel
theorem x_396_152 : decode (q_code 396) 152 = .ok (.getfield 97, 3) := by decide +kernel
theorem x_396_155 : decode (q_code 396) 155 = .ok (.iload 5, 2) := by decide +kernel
theorem x_396_157 : decode (q_code 396) 157 = .ok (.baload, 1) := by decide +kernel
theorem x_396_158 : decode (q_code 396) 158 = .ok (.ifCond .eq 7, 3) := by decide +kernel
theorem x_396_161 : decode (q_code 396) 161 = .ok (.iconst 1, 1) := by decide +kernel
theorem x_396_162 : decode (q_code 396) 162 = .ok (.goto 4, 3) := by decide +kernel
theorem x_396_165 : decode (q_code 396) 165 = .ok (.iconst 0, 1) := by decide +kernel
theorem x_396_166 : decode (q_code 396) 166 = .ok (.istore 10, 2) := by decide +kernel
theorem x_396_168 : decode (q_code 396) 168 = .ok (.iload 7, 2) := by decide +kernel
theorem x_396_170 : decode (q_code 396) 170 = .ok (.ifCond .ge 13, 3) := by decide +kernel
theorem x_396_173 : decode (q_code 396) 173 = .ok (.aload_n 0, 1) := by decide +kernel
theorem x_396_174 : decode (q_code 396) 174 = .ok (.getfield 100, 3) := by decide +kernel
theorem x_396_177 : decode (q_code 396) 177 = .ok (.iload 4, 2) := by decide +kernel
theorem x_396_179 : decode (q_code 396) 179 = .ok (.baload, 1) := by decide +kernel
theorem x_396_180 : decode (q_code 396) 180 = .ok (.goto 43, 3) := by decide +kernel
theorem x_396_183 : decode (q_code 396) 183 = .ok (.iload 7, 2) := by decide +kernel
theorem x_396_185 : decode (q_code 396) 185 = .ok (.ifCond .le 13, 3) := by decide +kernel
theorem x_396_188 : decode (q_code 396) 188 = .ok (.aload_n 0, 1) := by decide +kernel
theorem x_396_189 : decode (q_code 396) 189 = .ok (.getfield 100, 3) := by decide +kernel
theorem x_396_192 : decode (q_code 396) 192 = .ok (.iload 5, 2) := by decide +kernel
theorem x_396_194 : decode (q_code 396) 194 = .ok (.baload, 1) := by decide +kernel
theorem x_396_195 : decode (q_code 396) 195 = .ok (.goto 28, 3) := by decide +kernel
theorem x_396_198 : decode (q_code 396) 198 = .ok (.aload_n 0, 1) := by decide +kernel
theorem x_396_199 : decode (q_code 396) 199 = .ok (.getfield 100, 3) := by decide +kernel
theorem x_396_202 : decode (q_code 396) 202 = .ok (.iload 4, 2) := by decide +kernel
theorem x_396_204 : decode (q_code 396) 204 = .ok (.baload, 1) := by decide +kernel
theorem x_396_205 : decode (q_code 396) 205 = .ok (.ifCond .eq 17, 3) := by decide +kernel
theorem x_396_208 : decode (q_code 396) 208 = .ok (.aload_n 0, 1) := by decide +kernel
theorem x_396_209 : decode (q_code 396) 209 = .ok (.getfield 100, 3) := by decide +kernel
theorem x_396_212 : decode (q_code 396) 212 = .ok (.iload 5, 2) := by decide +kernel
theorem x_396_214 : decode (q_code 396) 214 = .ok (.baload, 1) := by decide +kernel
theorem x_396_215 : decode (q_code 396) 215 = .ok (.ifCond .eq 7, 3) := by decide +kernel
theorem x_396_218 : decode (q_code 396) 218 = .ok (.iconst 1, 1) := by decide +kernel
theorem x_396_219 : decode (q_code 396) 219 = .ok (.goto 4, 3) := by decide +kernel
theorem x_396_222 : decode (q_code 396) 222 = .ok (.iconst 0, 1) := by decide +kernel
theorem x_396_223 : decode (q_code 396) 223 = .ok (.istore 11, 2) := by decide +kernel
theorem x_396_225 : decode (q_code 396) 225 = .ok (.aload_n 0, 1) := by decide +kernel
theorem x_396_226 : decode (q_code 396) 226 = .ok (.iload 8, 2) := by decide +kernel
theorem x_396_228 : decode (q_code 396) 228 = .ok (.iload 9, 2) := by decide +kernel
theorem x_396_230 : decode (q_code 396) 230 = .ok (.invokevirtual 835, 3) := by decide +kernel
theorem x_396_233 : decode (q_code 396) 233 = .ok (.istore 12, 2) := by decide +kernel
theorem x_396_235 : decode (q_code 396) 235 = .ok (.iload 12, 2) := by decide +kernel
theorem x_396_237 : decode (q_code 396) 237 = .ok (.ifCond .lt 18, 3) := by decide +kernel
theorem x_396_240 : decode (q_code 396) 240 = .ok (.iload 12, 2) := by decide +kernel
theorem x_396_242 : decode (q_code 396) 242 = .ok (.ifCond .ne 25, 3) := by decide +kernel
theorem x_396_245 : decode (q_code 396) 245 = .ok (.iload 10, 2) := by decide +kernel
theorem x_396_247 : decode (q_code 396) 247 = .ok (.ifCond .eq 20, 3) := by decide +kernel
theorem x_396_250 : decode (q_code 396) 250 = .ok (.iload 11, 2) := by decide +kernel
theorem x_396_252 : decode (q_code 396) 252 = .ok (.ifCond .eq 15, 3) := by decide +kernel
theorem x_396_255 : decode (q_code 396) 255 = .ok (.aload_n 0, 1) := by decide +kernel
theorem x_396_256 : decode (q_code 396) 256 = .ok (.iload 8, 2) := by decide +kernel
theorem x_396_258 : decode (q_code 396) 258 = .ok (.iload 10, 2) := by decide +kernel
theorem x_396_260 : decode (q_code 396) 260 = .ok (.iload 9, 2) := by decide +kernel
theorem x_396_262 : decode (q_code 396) 262 = .ok (.iload 11, 2) := by decide +kernel
theorem x_396_264 : decode (q_code 396) 264 = .ok (.invokevirtual 815, 3) := by decide +kernel
theorem x_396_267 : decode (q_code 396) 267 = .ok (.iinc 5 1, 3) := by decide +kernel
theorem x_396_270 : decode (q_code 396) 270 = .ok (.goto (-253), 3) := by decide +kernel
theorem x_396_273 : decode (q_code 396) 273 = .ok (.iinc 4 1, 3) := by decide +kernel
theorem x_396_276 : decode (q_code 396) 276 = .ok (.goto (-268), 3) := by decide +kernel
theorem x_396_279 : decode (q_code 396) 279 = .ok (.aload_n 0, 1) := by decide +kernel
theorem x_396_280 : decode (q_code 396) 280 = .ok (.getfield 812, 3) := by decide +kernel
theorem x_396_283 : decode (q_code 396) 283 = .ok (.iload_n 3, 1) := by decide +kernel
theorem x_396_284 : decode (q_code 396) 284 = .ok (.isub, 1) := by decide +kernel
theorem x_396_285 : decode (q_code 396) 285 = .ok (.istore 4, 2) := by decide +kernel
theorem x_396_287 : decode (q_code 396) 287 = .ok (.iconst 0, 1) := by decide +kernel
theorem x_396_288 : decode (q_code 396) 288 = .ok (.istore 5, 2) := by decide +kernel
theorem x_396_290 : decode (q_code 396) 290 = .ok (.iload 5, 2) := by decide +kernel
theorem x_396_292 : decode (q_code 396) 292 = .ok (.iload 4, 2) := by decide +kernel
theorem x_396_294 : decode (q_code 396) 294 = .ok (.if_icmp .ge 81, 3) := by decide +kernel
theorem x_396_297 : decode (q_code 396) 297 = .ok (.aload_n 0, 1) := by decide +kernel
theorem x_396_298 : decode (q_code 396) 298 = .ok (.getfield 91, 3) := by decide +kernel
theorem x_396_301 : decode (q_code 396) 301 = .ok (.iload_n 1, 1) := by decide +kernel
theorem x_396_302 : decode (q_code 396) 302 = .ok (.iload 5, 2) := by decide +kernel
theorem x_396_304 : decode (q_code 396) 304 = .ok (.iadd, 1) := by decide +kernel
theorem x_396_305 : decode (q_code 396) 305 = .ok (.aload_n 0, 1) := by decide +kernel
theorem x_396_306 : decode (q_code 396) 306 = .ok (.getfield 91, 3) := by decide +kernel
theorem x_396_309 : decode (q_code 396) 309 = .ok (.iload_n 3, 1) := by decide +kernel
theorem x_396_310 : decode (q_code 396) 310 = .ok (.iload 5, 2) := by decide +kernel
theorem x_396_312 : decode (q_code 396) 312 = .ok (.iadd, 1) := by decide +kernel
theorem x_396_313 : decode (q_code 396) 313 = .ok (.iaload, 1) := by decide +kernel
theorem x_396_314 : decode (q_code 396) 314 = .ok (.iastore, 1) := by decide +kernel
theorem x_396_315 : decode (q_code 396) 315 = .ok (.aload_n 0, 1) := by decide +kernel
theorem x_396_316 : decode (q_code 396) 316 = .ok (.getfield 97, 3) := by decide +kernel
theorem x_396_319 : decode (q_code 396) 319 = .ok (.iload_n 1, 1) := by decide +kernel
theorem x_396_320 : decode (q_code 396) 320 = .ok (.iload 5, 2) := by decide +kernel
theorem x_396_322 : decode (q_code 396) 322 = .ok (.iadd, 1) := by decide +kernel
theorem x_396_323 : decode (q_code 396) 323 = .ok (.aload_n 0, 1) := by decide +kernel
theorem x_396_324 : decode (q_code 396) 324 = .ok (.getfield 97, 3) := by decide +kernel
theorem x_396_327 : decode (q_code 396) 327 = .ok (.iload_n 3, 1) := by decide +kernel
theorem x_396_328 : decode (q_code 396) 328 = .ok (.iload 5, 2) := by decide +kernel
theorem x_396_330 : decode (q_code 396) 330 = .ok (.iadd, 1) := by decide +kernel
theorem x_396_331 : decode (q_code 396) 331 = .ok (.baload, 1) := by decide +kernel
theorem x_396_332 : decode (q_code 396) 332 = .ok (.bastore, 1) := by decide +kernel
theorem x_396_333 : decode (q_code 396) 333 = .ok (.aload_n 0, 1) := by decide +kernel
theorem x_396_334 : decode (q_code 396) 334 = .ok (.getfield 94, 3) := by decide +kernel
theorem x_396_337 : decode (q_code 396) 337 = .ok (.iload_n 1, 1) := by decide +kernel
theorem x_396_338 : decode (q_code 396) 338 = .ok (.iload 5, 2) := by decide +kernel
theorem x_396_340 : decode (q_code 396) 340 = .ok (.iadd, 1) := by decide +kernel
theorem x_396_341 : decode (q_code 396) 341 = .ok (.aload_n 0, 1) := by decide +kernel
theorem x_396_342 : decode (q_code 396) 342 = .ok (.getfield 94, 3) := by decide +kernel
theorem x_396_345 : decode (q_code 396) 345 = .ok (.iload_n 3, 1) := by decide +kernel
theorem x_396_346 : decode (q_code 396) 346 = .ok (.iload 5, 2) := by decide +kernel
theorem x_396_348 : decode (q_code 396) 348 = .ok (.iadd, 1) := by decide +kernel
theorem x_396_349 : decode (q_code 396) 349 = .ok (.iaload, 1) := by decide +kernel
theorem x_396_350 : decode (q_code 396) 350 = .ok (.iastore, 1) := by decide +kernel
theorem x_396_351 : decode (q_code 396) 351 = .ok (.aload_n 0, 1) := by decide +kernel
theorem x_396_352 : decode (q_code 396) 352 = .ok (.getfield 100, 3) := by decide +kernel
theorem x_396_355 : decode (q_code 396) 355 = .ok (.iload_n 1, 1) := by decide +kernel
theorem x_396_356 : decode (q_code 396) 356 = .ok (.iload 5, 2) := by decide +kernel
theorem x_396_358 : decode (q_code 396) 358 = .ok (.iadd, 1) := by decide +kernel
theorem x_396_359 : decode (q_code 396) 359 = .ok (.aload_n 0, 1) := by decide +kernel
theorem x_396_360 : decode (q_code 396) 360 = .ok (.getfield 100, 3) := by decide +kernel
theorem x_396_363 : decode (q_code 396) 363 = .ok (.iload_n 3, 1) := by decide +kernel
theorem x_396_364 : decode (q_code 396) 364 = .ok (.iload 5, 2) := by decide +kernel
theorem x_396_366 : decode (q_code 396) 366 = .ok (.iadd, 1) := by decide +kernel
theorem x_396_367 : decode (q_code 396) 367 = .ok (.baload, 1) := by decide +kernel
theorem x_396_368 : decode (q_code 396) 368 = .ok (.bastore, 1) := by decide +kernel
theorem x_396_369 : decode (q_code 396) 369 = .ok (.iinc 5 1, 3) := by decide +kernel
theorem x_396_372 : decode (q_code 396) 372 = .ok (.goto (-82), 3) := by decide +kernel
theorem x_396_375 : decode (q_code 396) 375 = .ok (.aload_n 0, 1) := by decide +kernel
theorem x_396_376 : decode (q_code 396) 376 = .ok (.iload_n 1, 1) := by decide +kernel
theorem x_396_377 : decode (q_code 396) 377 = .ok (.iload 4, 2) := by decide +kernel
theorem x_396_379 : decode (q_code 396) 379 = .ok (.iadd, 1) := by decide +kernel
theorem x_396_380 : decode (q_code 396) 380 = .ok (.putfield 812, 3) := by decide +kernel
theorem x_396_383 : decode (q_code 396) 383 = .ok (.return_, 1) := by decide +kernel
theorem x_397_0 : decode (q_code 397) 0 = .ok (.iload_n 1, 1) := by decide +kernel
theorem x_397_1 : decode (q_code 397) 1 = .ok (.invokestatic 174, 3) := by decide +kernel
theorem x_397_4 : decode (q_code 397) 4 = .ok (.istore 4, 2) := by decide +kernel
theorem x_397_6 : decode (q_code 397) 6 = .ok (.iload 4, 2) := by decide +kernel
theorem x_397_8 : decode (q_code 397) 8 = .ok (.aload_n 0, 1) := by decide +kernel
theorem x_397_9 : decode (q_code 397) 9 = .ok (.iload_n 1, 1) := by decide +kernel
theorem x_397_10 : decode (q_code 397) 10 = .ok (.invokevirtual 177, 3) := by decide +kernel
theorem x_397_13 : decode (q_code 397) 13 = .ok (.if_icmp .ge 202, 3) := by decide +kernel
theorem x_397_16 : decode (q_code 397) 16 = .ok (.aload_n 0, 1) := by decide +kernel
theorem x_397_17 : decode (q_code 397) 17 = .ok (.iload 4, 2) := by decide +kernel
theorem x_397_19 : decode (q_code 397) 19 = .ok (.ldc_w 323, 3) := by decide +kernel
theorem x_397_22 : decode (q_code 397) 22 = .ok (.invokevirtual 325, 3) := by decide +kernel
theorem x_397_25 : decode (q_code 397) 25 = .ok (.ifCond .eq 55, 3) := by decide +kernel
theorem x_397_28 : decode (q_code 397) 28 = .ok (.aload_n 0, 1) := by decide +kernel
theorem x_397_29 : decode (q_code 397) 29 = .ok (.iload 4, 2) := by decide +kernel
theorem x_397_31 : decode (q_code 397) 31 = .ok (.invokevirtual 163, 3) := by decide +kernel
theorem x_397_34 : decode (q_code 397) 34 = .ok (.invokestatic 174, 3) := by decide +kernel
theorem x_397_37 : decode (q_code 397) 37 = .ok (.istore 5, 2) := by decide +kernel
theorem x_397_39 : decode (q_code 397) 39 = .ok (.iload 5, 2) := by decide +kernel
theorem x_397_41 : decode (q_code 397) 41 = .ok (.aload_n 0, 1) := by decide +kernel
theorem x_397_42 : decode (q_code 397) 42 = .ok (.aload_n 0, 1) := by decide +kernel
theorem x_397_43 : decode (q_code 397) 43 = .ok (.iload 4, 2) := by decide +kernel
theorem x_397_45 : decode (q_code 397) 45 = .ok (.invokevirtual 163, 3) := by decide +kernel
theorem x_397_48 : decode (q_code 397) 48 = .ok (.invokevirtual 177, 3) := by decide +kernel
theorem x_397_51 : decode (q_code 397) 51 = .ok (.if_icmp .ge 26, 3) := by decide +kernel
theorem x_397_54 : decode (q_code 397) 54 = .ok (.aload_n 0, 1) := by decide +kernel
theorem x_397_55 : decode (q_code 397) 55 = .ok (.aload_n 0, 1) := by decide +kernel
theorem x_397_56 : decode (q_code 397) 56 = .ok (.iload 5, 2) := by decide +kernel
theorem x_397_58 : decode (q_code 397) 58 = .ok (.invokevirtual 163, 3) := by decide +kernel
theorem x_397_61 : decode (q_code 397) 61 = .ok (.iload_n 2, 1) := by decide +kernel
theorem x_397_62 : decode (q_code 397) 62 = .ok (.iload_n 3, 1) := by decide +kernel
theorem x_397_63 : decode (q_code 397) 63 = .ok (.invokevirtual 838, 3) := by decide +kernel
theorem x_397_66 : decode (q_code 397) 66 = .ok (.aload_n 0, 1) := by decide +kernel
theorem x_397_67 : decode (q_code 397) 67 = .ok (.iload 5, 2) := by decide +kernel
theorem x_397_69 : decode (q_code 397) 69 = .ok (.invokevirtual 180, 3) := by decide +kernel
theorem x_397_72 : decode (q_code 397) 72 = .ok (.istore 5, 2) := by decide +kernel
theorem x_397_74 : decode (q_code 397) 74 = .ok (.goto (-35), 3) := by decide +kernel
theorem x_397_77 : decode (q_code 397) 77 = .ok (.goto 127, 3) := by decide +kernel
theorem x_397_80 : decode (q_code 397) 80 = .ok (.aload_n 0, 1) := by decide +kernel
theorem x_397_81 : decode (q_code 397) 81 = .ok (.iload 4, 2) := by decide +kernel
theorem x_397_83 : decode (q_code 397) 83 = .ok (.iconst 1, 1) := by decide +kernel
theorem x_397_84 : decode (q_code 397) 84 = .ok (.iadd, 1) := by decide +kernel
theorem x_397_85 : decode (q_code 397) 85 = .ok (.aload_n 0, 1) := by decide +kernel
theorem x_397_86 : decode (q_code 397) 86 = .ok (.iload 4, 2) := by decide +kernel
theorem x_397_88 : decode (q_code 397) 88 = .ok (.invokevirtual 160, 3) := by decide +kernel
theorem x_397_91 : decode (q_code 397) 91 = .ok (.iload_n 2, 1) := by decide +kernel
theorem x_397_92 : decode (q_code 397) 92 = .ok (.iload_n 3, 1) := by decide +kernel
theorem x_397_93 : decode (q_code 397) 93 = .ok (.invokevirtual 183, 3) := by decide +kernel
theorem x_397_96 : decode (q_code 397) 96 = .ok (.ifCond .eq 108, 3) := by decide +kernel
theorem x_397_99 : decode (q_code 397) 99 = .ok (.aload_n 0, 1) := by decide +kernel
theorem x_397_100 : decode (q_code 397) 100 = .ok (.iload 4, 2) := by decide +kernel
theorem x_397_102 : decode (q_code 397) 102 = .ok (.invokevirtual 336, 3) := by decide +kernel
theorem x_397_105 : decode (q_code 397) 105 = .ok (.ifCond .ne 34, 3) := by decide +kernel
theorem x_397_108 : decode (q_code 397) 108 = .ok (.aload_n 0, 1) := by decide +kernel
theorem x_397_109 : decode (q_code 397) 109 = .ok (.getfield 106, 3) := by decide +kernel
theorem x_397_112 : decode (q_code 397) 112 = .ok (.aload_n 0, 1) := by decide +kernel
theorem x_397_113 : decode (q_code 397) 113 = .ok (.getfield 841, 3) := by decide +kernel
theorem x_397_116 : decode (q_code 397) 116 = .ok (.iconst 1, 1) := by decide +kernel
theorem x_397_117 : decode (q_code 397) 117 = .ok (.bastore, 1) := by decide +kernel
theorem x_397_118 : decode (q_code 397) 118 = .ok (.aload_n 0, 1) := by decide +kernel
theorem x_397_119 : decode (q_code 397) 119 = .ok (.getfield 103, 3) := by decide +kernel
theorem x_397_122 : decode (q_code 397) 122 = .ok (.aload_n 0, 1) := by decide +kernel
theorem x_397_123 : decode (q_code 397) 123 = .ok (.dup, 1) := by decide +kernel
theorem x_397_124 : decode (q_code 397) 124 = .ok (.getfield 841, 3) := by decide +kernel
theorem x_397_127 : decode (q_code 397) 127 = .ok (.dup_x1, 1) := by decide +kernel
theorem x_397_128 : decode (q_code 397) 128 = .ok (.iconst 1, 1) := by decide +kernel
theorem x_397_129 : decode (q_code 397) 129 = .ok (.iadd, 1) := by decide +kernel
theorem x_397_130 : decode (q_code 397) 130 = .ok (.putfield 841, 3) := by decide +kernel
theorem x_397_133 : decode (q_code 397) 133 = .ok (.iload 4, 2) := by decide +kernel
theorem x_397_135 : decode (q_code 397) 135 = .ok (.iastore, 1) := by decide +kernel
theorem x_397_136 : decode (q_code 397) 136 = .ok (.goto 68, 3) := by decide +kernel
theorem x_397_139 : decode (q_code 397) 139 = .ok (.aload_n 0, 1) := by decide +kernel
theorem x_397_140 : decode (q_code 397) 140 = .ok (.iload 4, 2) := by decide +kernel
theorem x_397_142 : decode (q_code 397) 142 = .ok (.invokevirtual 163, 3) := by decide +kernel
theorem x_397_145 : decode (q_code 397) 145 = .ok (.invokestatic 174, 3) := by decide +kernel
theorem x_397_148 : decode (q_code 397) 148 = .ok (.istore 5, 2) := by decide +kernel
theorem x_397_150 : decode (q_code 397) 150 = .ok (.iload 5, 2) := by decide +kernel
theorem x_397_152 : decode (q_code 397) 152 = .ok (.aload_n 0, 1) := by decide +kernel
theorem x_397_153 : decode (q_code 397) 153 = .ok (.aload_n 0, 1) := by decide +kernel
theorem x_397_154 : decode (q_code 397) 154 = .ok (.iload 4, 2) := by decide +kernel
theorem x_397_156 : decode (q_code 397) 156 = .ok (.invokevirtual 163, 3) := by decide +kernel
theorem x_397_159 : decode (q_code 397) 159 = .ok (.invokevirtual 177, 3) := by decide +kernel
theorem x_397_162 : decode (q_code 397) 162 = .ok (.if_icmp .ge 42, 3) := by decide +kernel
theorem x_397_165 : decode (q_code 397) 165 = .ok (.aload_n 0, 1) := by decide +kernel
theorem x_397_166 : decode (q_code 397) 166 = .ok (.getfield 106, 3) := by decide +kernel
theorem x_397_169 : decode (q_code 397) 169 = .ok (.aload_n 0, 1) := by decide +kernel
theorem x_397_170 : decode (q_code 397) 170 = .ok (.getfield 841, 3) := by decide +kernel
theorem x_397_173 : decode (q_code 397) 173 = .ok (.iconst 0, 1) := by decide +kernel
theorem x_397_174 : decode (q_code 397) 174 = .ok (.bastore, 1) := by decide +kernel
theorem x_397_175 : decode (q_code 397) 175 = .ok (.aload_n 0, 1) := by decide +kernel
theorem x_397_176 : decode (q_code 397) 176 = .ok (.getfield 103, 3) := by decide +kernel
theorem x_397_179 : decode (q_code 397) 179 = .ok (.aload_n 0, 1) := by decide +kernel
theorem x_397_180 : decode (q_code 397) 180 = .ok (.dup, 1) := by decide +kernel
theorem x_397_181 : decode (q_code 397) 181 = .ok (.getfield 841, 3) := by decide +kernel
theorem x_397_184 : decode (q_code 397) 184 = .ok (.dup_x1, 1) := by decide +kernel
theorem x_397_185 : decode (q_code 397) 185 = .ok (.iconst 1, 1) := by decide +kernel
theorem x_397_186 : decode (q_code 397) 186 = .ok (.iadd, 1) := by decide +kernel
theorem x_397_187 : decode (q_code 397) 187 = .ok (.putfield 841, 3) := by decide +kernel
theorem x_397_190 : decode (q_code 397) 190 = .ok (.iload 5, 2) := by decide +kernel
theorem x_397_192 : decode (q_code 397) 192 = .ok (.iastore, 1) := by decide +kernel
theorem x_397_193 : decode (q_code 397) 193 = .ok (.aload_n 0, 1) := by decide +kernel
theorem x_397_194 : decode (q_code 397) 194 = .ok (.iload 5, 2) := by decide +kernel
theorem x_397_196 : decode (q_code 397) 196 = .ok (.invokevirtual 180, 3) := by decide +kernel
theorem x_397_199 : decode (q_code 397) 199 = .ok (.istore 5, 2) := by decide +kernel
theorem x_397_201 : decode (q_code 397) 201 = .ok (.goto (-51), 3) := by decide +kernel
theorem x_397_204 : decode (q_code 397) 204 = .ok (.aload_n 0, 1) := by decide +kernel
theorem x_397_205 : decode (q_code 397) 205 = .ok (.iload 4, 2) := by decide +kernel
theorem x_397_207 : decode (q_code 397) 207 = .ok (.invokevirtual 180, 3) := by decide +kernel
theorem x_397_210 : decode (q_code 397) 210 = .ok (.istore 4, 2) := by decide +kernel
theorem x_397_212 : decode (q_code 397) 212 = .ok (.goto (-206), 3) := by decide +kernel
theorem x_397_215 : decode (q_code 397) 215 = .ok (.return_, 1) := by decide +kernel
theorem x_398_0 : decode (q_code 398) 0 = .ok (.aload_n 0, 1) := by decide +kernel
theorem x_398_1 : decode (q_code 398) 1 = .ok (.iconst 0, 1) := by decide +kernel
theorem x_398_2 : decode (q_code 398) 2 = .ok (.putfield 841, 3) := by decide +kernel
theorem x_398_5 : decode (q_code 398) 5 = .ok (.aload_n 0, 1) := by decide +kernel
theorem x_398_6 : decode (q_code 398) 6 = .ok (.iload_n 1, 1) := by decide +kernel
theorem x_398_7 : decode (q_code 398) 7 = .ok (.aload_n 0, 1) := by decide +kernel
theorem x_398_8 : decode (q_code 398) 8 = .ok (.iload_n 2, 1) := by decide +kernel
theorem x_398_9 : decode (q_code 398) 9 = .ok (.iload_n 3, 1) := by decide +kernel
theorem x_398_10 : decode (q_code 398) 10 = .ok (.invokevirtual 718, 3) := by decide +kernel
theorem x_398_13 : decode (q_code 398) 13 = .ok (.aload_n 0, 1) := by decide +kernel
theorem x_398_14 : decode (q_code 398) 14 = .ok (.getfield 50, 3) := by decide +kernel
theorem x_398_17 : decode (q_code 398) 17 = .ok (.iconst 2, 1) := by decide +kernel
theorem x_398_18 : decode (q_code 398) 18 = .ok (.iload_n 2, 1) := by decide +kernel
theorem x_398_19 : decode (q_code 398) 19 = .ok (.imul, 1) := by decide +kernel
theorem x_398_20 : decode (q_code 398) 20 = .ok (.iload_n 3, 1) := by decide +kernel
theorem x_398_21 : decode (q_code 398) 21 = .ok (.iadd, 1) := by decide +kernel
theorem x_398_22 : decode (q_code 398) 22 = .ok (.iaload, 1) := by decide +kernel
theorem x_398_23 : decode (q_code 398) 23 = .ok (.invokevirtual 838, 3) := by decide +kernel
theorem x_398_26 : decode (q_code 398) 26 = .ok (.aload_n 0, 1) := by decide +kernel
theorem x_398_27 : decode (q_code 398) 27 = .ok (.getfield 812, 3) := by decide +kernel
theorem x_398_30 : decode (q_code 398) 30 = .ok (.istore 4, 2) := by decide +kernel
theorem x_398_32 : decode (q_code 398) 32 = .ok (.iconst 0, 1) := by decide +kernel
theorem x_398_33 : decode (q_code 398) 33 = .ok (.istore 5, 2) := by decide +kernel
theorem x_398_35 : decode (q_code 398) 35 = .ok (.aload_n 0, 1) := by decide +kernel
theorem x_398_36 : decode (q_code 398) 36 = .ok (.getfield 56, 3) := by decide +kernel
theorem x_398_39 : decode (q_code 398) 39 = .ok (.iconst 2, 1) := by decide +kernel
theorem x_398_40 : decode (q_code 398) 40 = .ok (.iload_n 2, 1) := by decide +kernel
theorem x_398_41 : decode (q_code 398) 41 = .ok (.imul, 1) := by decide +kernel
theorem x_398_42 : decode (q_code 398) 42 = .ok (.iload_n 3, 1) := by decide +kernel
theorem x_398_43 : decode (q_code 398) 43 = .ok (.iadd, 1) := by decide +kernel
theorem x_398_44 : decode (q_code 398) 44 = .ok (.baload, 1) := by decide +kernel
theorem x_398_45 : decode (q_code 398) 45 = .ok (.ifCond .eq 144, 3) := by decide +kernel
theorem x_398_48 : decode (q_code 398) 48 = .ok (.iconst 0, 1) := by decide +kernel
theorem x_398_49 : decode (q_code 398) 49 = .ok (.istore 6, 2) := by decide +kernel
theorem x_398_51 : decode (q_code 398) 51 = .ok (.iload 6, 2) := by decide +kernel
theorem x_398_53 : decode (q_code 398) 53 = .ok (.aload_n 0, 1) := by decide +kernel
theorem x_398_54 : decode (q_code 398) 54 = .ok (.getfield 841, 3) := by decide +kernel
theorem x_398_57 : decode (q_code 398) 57 = .ok (.if_icmp .ge 86, 3) := by decide +kernel
theorem x_398_60 : decode (q_code 398) 60 = .ok (.iload 5, 2) := by decide +kernel
theorem x_398_62 : decode (q_code 398) 62 = .ok (.ifCond .ne 81, 3) := by decide +kernel
theorem x_398_65 : decode (q_code 398) 65 = .ok (.aload_n 0, 1) := by decide +kernel
theorem x_398_66 : decode (q_code 398) 66 = .ok (.getfield 106, 3) := by decide +kernel
theorem x_398_69 : decode (q_code 398) 69 = .ok (.iload 6, 2) := by decide +kernel
theorem x_398_71 : decode (q_code 398) 71 = .ok (.baload, 1) := by decide +kernel
theorem x_398_72 : decode (q_code 398) 72 = .ok (.ifCond .ne 37, 3) := by decide +kernel
theorem x_398_75 : decode (q_code 398) 75 = .ok (.aload_n 0, 1) := by decide +kernel
theorem x_398_76 : decode (q_code 398) 76 = .ok (.aload_n 0, 1) := by decide +kernel
theorem x_398_77 : decode (q_code 398) 77 = .ok (.getfield 103, 3) := by decide +kernel
theorem x_398_80 : decode (q_code 398) 80 = .ok (.iload 6, 2) := by decide +kernel
theorem x_398_82 : decode (q_code 398) 82 = .ok (.iaload, 1) := by decide +kernel
theorem x_398_83 : decode (q_code 398) 83 = .ok (.ldc_w 363, 3) := by decide +kernel
theorem x_398_86 : decode (q_code 398) 86 = .ok (.invokevirtual 325, 3) := by decide +kernel
theorem x_398_89 : decode (q_code 398) 89 = .ok (.ifCond .ne 20, 3) := by decide +kernel
theorem x_398_92 : decode (q_code 398) 92 = .ok (.aload_n 0, 1) := by decide +kernel
theorem x_398_93 : decode (q_code 398) 93 = .ok (.aload_n 0, 1) := by decide +kernel
theorem x_398_94 : decode (q_code 398) 94 = .ok (.getfield 103, 3) := by decide +kernel
theorem x_398_97 : decode (q_code 398) 97 = .ok (.iload 6, 2) := by decide +kernel
theorem x_398_99 : decode (q_code 398) 99 = .ok (.iaload, 1) := by decide +kernel
theorem x_398_100 : decode (q_code 398) 100 = .ok (.ldc_w 367, 3) := by decide +kernel
theorem x_398_103 : decode (q_code 398) 103 = .ok (.invokevirtual 325, 3) := by decide +kernel
theorem x_398_106 : decode (q_code 398) 106 = .ok (.ifCond .eq 28, 3) := by decide +kernel
theorem x_398_109 : decode (q_code 398) 109 = .ok (.aload_n 0, 1) := by decide +kernel
theorem x_398_110 : decode (q_code 398) 110 = .ok (.aload_n 0, 1) := by decide +kernel
theorem x_398_111 : decode (q_code 398) 111 = .ok (.getfield 103, 3) := by decide +kernel
theorem x_398_114 : decode (q_code 398) 114 = .ok (.iload 6, 2) := by decide +kernel
theorem x_398_116 : decode (q_code 398) 116 = .ok (.iaload, 1) := by decide +kernel
theorem x_398_117 : decode (q_code 398) 117 = .ok (.aload_n 0, 1) := by decide +kernel
theorem x_398_118 : decode (q_code 398) 118 = .ok (.getfield 106, 3) := by decide +kernel
theorem x_398_121 : decode (q_code 398) 121 = .ok (.iload 6, 2) := by decide +kernel
theorem x_398_123 : decode (q_code 398) 123 = .ok (.baload, 1) := by decide +kernel
theorem x_398_124 : decode (q_code 398) 124 = .ok (.invokevirtual 828, 3) := by decide +kernel
theorem x_398_127 : decode (q_code 398) 127 = .ok (.ifCond .eq 7, 3) := by decide +kernel
theorem x_398_130 : decode (q_code 398) 130 = .ok (.iconst 1, 1) := by decide +kernel
theorem x_398_131 : decode (q_code 398) 131 = .ok (.goto 4, 3) := by decide +kernel
theorem x_398_134 : decode (q_code 398) 134 = .ok (.iconst 0, 1) := by decide +kernel
theorem x_398_135 : decode (q_code 398) 135 = .ok (.istore 5, 2) := by decide +kernel
theorem x_398_137 : decode (q_code 398) 137 = .ok (.iinc 6 1, 3) := by decide +kernel
theorem x_398_140 : decode (q_code 398) 140 = .ok (.goto (-89), 3) := by decide +kernel
theorem x_398_143 : decode (q_code 398) 143 = .ok (.iconst 0, 1) := by decide +kernel
theorem x_398_144 : decode (q_code 398) 144 = .ok (.istore 6, 2) := by decide +kernel
theorem x_398_146 : decode (q_code 398) 146 = .ok (.iload 6, 2) := by decide +kernel
theorem x_398_148 : decode (q_code 398) 148 = .ok (.aload_n 0, 1) := by decide +kernel
theorem x_398_149 : decode (q_code 398) 149 = .ok (.getfield 841, 3) := by decide +kernel
theorem x_398_152 : decode (q_code 398) 152 = .ok (.if_icmp .ge 34, 3) := by decide +kernel
theorem x_398_155 : decode (q_code 398) 155 = .ok (.iload 5, 2) := by decide +kernel
theorem x_398_157 : decode (q_code 398) 157 = .ok (.ifCond .ne 29, 3) := by decide +kernel
theorem x_398_160 : decode (q_code 398) 160 = .ok (.aload_n 0, 1) := by decide +kernel
theorem x_398_161 : decode (q_code 398) 161 = .ok (.aload_n 0, 1) := by decide +kernel
theorem x_398_162 : decode (q_code 398) 162 = .ok (.getfield 103, 3) := by decide +kernel
theorem x_398_165 : decode (q_code 398) 165 = .ok (.iload 6, 2) := by decide +kernel
theorem x_398_167 : decode (q_code 398) 167 = .ok (.iaload, 1) := by decide +kernel
theorem x_398_168 : decode (q_code 398) 168 = .ok (.aload_n 0, 1) := by decide +kernel
theorem x_398_169 : decode (q_code 398) 169 = .ok (.getfield 106, 3) := by decide +kernel
theorem x_398_172 : decode (q_code 398) 172 = .ok (.iload 6, 2) := by decide +kernel
theorem x_398_174 : decode (q_code 398) 174 = .ok (.baload, 1) := by decide +kernel
theorem x_398_175 : decode (q_code 398) 175 = .ok (.invokevirtual 844, 3) := by decide +kernel
theorem x_398_178 : decode (q_code 398) 178 = .ok (.istore 5, 2) := by decide +kernel
theorem x_398_180 : decode (q_code 398) 180 = .ok (.iinc 6 1, 3) := by decide +kernel
theorem x_398_183 : decode (q_code 398) 183 = .ok (.goto (-37), 3) := by decide +kernel
theorem x_398_186 : decode (q_code 398) 186 = .ok (.iload 5, 2) := by decide +kernel
theorem x_398_188 : decode (q_code 398) 188 = .ok (.ireturn, 1) := by decide +kernel
theorem x_398_189 : decode (q_code 398) 189 = .ok (.iconst 0, 1) := by decide +kernel
theorem x_398_190 : decode (q_code 398) 190 = .ok (.istore 6, 2) := by decide +kernel
theorem x_398_192 : decode (q_code 398) 192 = .ok (.iload 6, 2) := by decide +kernel
theorem x_398_194 : decode (q_code 398) 194 = .ok (.aload_n 0, 1) := by decide +kernel
theorem x_398_195 : decode (q_code 398) 195 = .ok (.getfield 841, 3) := by decide +kernel
theorem x_398_198 : decode (q_code 398) 198 = .ok (.if_icmp .ge 55, 3) := by decide +kernel
theorem x_398_201 : decode (q_code 398) 201 = .ok (.aload_n 0, 1) := by decide +kernel
theorem x_398_202 : decode (q_code 398) 202 = .ok (.getfield 812, 3) := by decide +kernel
theorem x_398_205 : decode (q_code 398) 205 = .ok (.istore 7, 2) := by decide +kernel
theorem x_398_207 : decode (q_code 398) 207 = .ok (.aload_n 0, 1) := by decide +kernel
theorem x_398_208 : decode (q_code 398) 208 = .ok (.aload_n 0, 1) := by decide +kernel
theorem x_398_209 : decode (q_code 398) 209 = .ok (.getfield 103, 3) := by decide +kernel
theorem x_398_212 : decode (q_code 398) 212 = .ok (.iload 6, 2) := by decide +kernel
theorem x_398_214 : decode (q_code 398) 214 = .ok (.iaload, 1) := by decide +kernel
theorem x_398_215 : decode (q_code 398) 215 = .ok (.aload_n 0, 1) := by decide +kernel
theorem x_398_216 : decode (q_code 398) 216 = .ok (.getfield 106, 3) := by decide +kernel
theorem x_398_219 : decode (q_code 398) 219 = .ok (.iload 6, 2) := by decide +kernel
theorem x_398_221 : decode (q_code 398) 221 = .ok (.baload, 1) := by decide +kernel
theorem x_398_222 : decode (q_code 398) 222 = .ok (.invokevirtual 844, 3) := by decide +kernel
theorem x_398_225 : decode (q_code 398) 225 = .ok (.ifCond .ne 6, 3) := by decide +kernel
theorem x_398_228 : decode (q_code 398) 228 = .ok (.goto 19, 3) := by decide +kernel
theorem x_398_231 : decode (q_code 398) 231 = .ok (.iload 5, 2) := by decide +kernel
theorem x_398_233 : decode (q_code 398) 233 = .ok (.ifCond .eq 11, 3) := by decide +kernel
theorem x_398_236 : decode (q_code 398) 236 = .ok (.aload_n 0, 1) := by decide +kernel
theorem x_398_237 : decode (q_code 398) 237 = .ok (.iload 4, 2) := by decide +kernel
theorem x_398_239 : decode (q_code 398) 239 = .ok (.iload 7, 2) := by decide +kernel
theorem x_398_241 : decode (q_code 398) 241 = .ok (.invokevirtual 832, 3) := by decide +kernel
theorem x_398_244 : decode (q_code 398) 244 = .ok (.iconst 1, 1) := by decide +kernel
theorem x_398_245 : decode (q_code 398) 245 = .ok (.istore 5, 2) := by decide +kernel
theorem x_398_247 : decode (q_code 398) 247 = .ok (.iinc 6 1, 3) := by decide +kernel
theorem x_398_250 : decode (q_code 398) 250 = .ok (.goto (-58), 3) := by decide +kernel
theorem x_398_253 : decode (q_code 398) 253 = .ok (.iload 5, 2) := by decide +kernel
theorem x_398_255 : decode (q_code 398) 255 = .ok (.ireturn, 1) := by decide +kernel
theorem x_399_0 : decode (q_code 399) 0 = .ok (.aload_n 0, 1) := by decide +kernel
theorem x_399_1 : decode (q_code 399) 1 = .ok (.getfield 91, 3) := by decide +kernel
theorem x_399_4 : decode (q_code 399) 4 = .ok (.iload_n 1, 1) := by decide +kernel
theorem x_399_5 : decode (q_code 399) 5 = .ok (.iaload, 1) := by decide +kernel
theorem x_399_6 : decode (q_code 399) 6 = .ok (.ifCond .lt 35, 3) := by decide +kernel
theorem x_399_9 : decode (q_code 399) 9 = .ok (.aload_n 0, 1) := by decide +kernel
theorem x_399_10 : decode (q_code 399) 10 = .ok (.getfield 94, 3) := by decide +kernel
theorem x_399_13 : decode (q_code 399) 13 = .ok (.iload_n 1, 1) := by decide +kernel
theorem x_399_14 : decode (q_code 399) 14 = .ok (.iaload, 1) := by decide +kernel
theorem x_399_15 : decode (q_code 399) 15 = .ok (.ifCond .lt 26, 3) := by decide +kernel
theorem x_399_18 : decode (q_code 399) 18 = .ok (.aload_n 0, 1) := by decide +kernel
theorem x_399_19 : decode (q_code 399) 19 = .ok (.aload_n 0, 1) := by decide +kernel
theorem x_399_20 : decode (q_code 399) 20 = .ok (.getfield 91, 3) := by decide +kernel
theorem x_399_23 : decode (q_code 399) 23 = .ok (.iload_n 1, 1) := by decide +kernel
theorem x_399_24 : decode (q_code 399) 24 = .ok (.iaload, 1) := by decide +kernel
theorem x_399_25 : decode (q_code 399) 25 = .ok (.aload_n 0, 1) := by decide +kernel
theorem x_399_26 : decode (q_code 399) 26 = .ok (.getfield 94, 3) := by decide +kernel
theorem x_399_29 : decode (q_code 399) 29 = .ok (.iload_n 1, 1) := by decide +kernel
theorem x_399_30 : decode (q_code 399) 30 = .ok (.iaload, 1) := by decide +kernel
theorem x_399_31 : decode (q_code 399) 31 = .ok (.invokevirtual 423, 3) := by decide +kernel
theorem x_399_34 : decode (q_code 399) 34 = .ok (.ifCond .eq 7, 3) := by decide +kernel
theorem x_399_37 : decode (q_code 399) 37 = .ok (.iconst 1, 1) := by decide +kernel
theorem x_399_38 : decode (q_code 399) 38 = .ok (.goto 4, 3) := by decide +kernel
theorem x_399_41 : decode (q_code 399) 41 = .ok (.iconst 0, 1) := by decide +kernel
theorem x_399_42 : decode (q_code 399) 42 = .ok (.ireturn, 1) := by decide +kernel
theorem x_400_0 : decode (q_code 400) 0 = .ok (.iload_n 2, 1) := by decide +kernel
theorem x_400_1 : decode (q_code 400) 1 = .ok (.istore 4, 2) := by decide +kernel
theorem x_400_3 : decode (q_code 400) 3 = .ok (.iload 4, 2) := by decide +kernel
theorem x_400_5 : decode (q_code 400) 5 = .ok (.iload_n 3, 1) := by decide +kernel
theorem x_400_6 : decode (q_code 400) 6 = .ok (.if_icmp .ge 79, 3) := by decide +kernel
theorem x_400_9 : decode (q_code 400) 9 = .ok (.aload_n 0, 1) := by decide +kernel
theorem x_400_10 : decode (q_code 400) 10 = .ok (.aload_n 0, 1) := by decide +kernel
theorem x_400_11 : decode (q_code 400) 11 = .ok (.getfield 91, 3) := by decide +kernel
theorem x_400_14 : decode (q_code 400) 14 = .ok (.iload 4, 2) := by decide +kernel
theorem x_400_16 : decode (q_code 400) 16 = .ok (.iaload, 1) := by decide +kernel
theorem x_400_17 : decode (q_code 400) 17 = .ok (.iload_n 1, 1) := by decide +kernel
theorem x_400_18 : decode (q_code 400) 18 = .ok (.invokevirtual 835, 3) := by decide +kernel
theorem x_400_21 : decode (q_code 400) 21 = .ok (.istore 5, 2) := by decide +kernel
theorem x_400_23 : decode (q_code 400) 23 = .ok (.aload_n 0, 1) := by decide +kernel
theorem x_400_24 : decode (q_code 400) 24 = .ok (.iload_n 1, 1) := by decide +kernel
theorem x_400_25 : decode (q_code 400) 25 = .ok (.aload_n 0, 1) := by decide +kernel
theorem x_400_26 : decode (q_code 400) 26 = .ok (.getfield 94, 3) := by decide +kernel
theorem x_400_29 : decode (q_code 400) 29 = .ok (.iload 4, 2) := by decide +kernel
theorem x_400_31 : decode (q_code 400) 31 = .ok (.iaload, 1) := by decide +kernel
theorem x_400_32 : decode (q_code 400) 32 = .ok (.invokevirtual 835, 3) := by decide +kernel
theorem x_400_35 : decode (q_code 400) 35 = .ok (.istore 6, 2) := by decide +kernel
theorem x_400_37 : decode (q_code 400) 37 = .ok (.iload 5, 2) := by decide +kernel
theorem x_400_39 : decode (q_code 400) 39 = .ok (.ifCond .lt 18, 3) := by decide +kernel
theorem x_400_42 : decode (q_code 400) 42 = .ok (.iload 5, 2) := by decide +kernel
theorem x_400_44 : decode (q_code 400) 44 = .ok (.ifCond .ne 35, 3) := by decide +kernel
theorem x_400_47 : decode (q_code 400) 47 = .ok (.aload_n 0, 1) := by decide +kernel
theorem x_400_48 : decode (q_code 400) 48 = .ok (.getfield 97, 3) := by decide +kernel
theorem x_400_51 : decode (q_code 400) 51 = .ok (.iload 4, 2) := by decide +kernel
theorem x_400_53 : decode (q_code 400) 53 = .ok (.baload, 1) := by decide +kernel
theorem x_400_54 : decode (q_code 400) 54 = .ok (.ifCond .eq 25, 3) := by decide +kernel
theorem x_400_57 : decode (q_code 400) 57 = .ok (.iload 6, 2) := by decide +kernel
theorem x_400_59 : decode (q_code 400) 59 = .ok (.ifCond .lt 18, 3) := by decide +kernel
theorem x_400_62 : decode (q_code 400) 62 = .ok (.iload 6, 2) := by decide +kernel
theorem x_400_64 : decode (q_code 400) 64 = .ok (.ifCond .ne 15, 3) := by decide +kernel
theorem x_400_67 : decode (q_code 400) 67 = .ok (.aload_n 0, 1) := by decide +kernel
theorem x_400_68 : decode (q_code 400) 68 = .ok (.getfield 100, 3) := by decide +kernel
theorem x_400_71 : decode (q_code 400) 71 = .ok (.iload 4, 2) := by decide +kernel
theorem x_400_73 : decode (q_code 400) 73 = .ok (.baload, 1) := by decide +kernel
theorem x_400_74 : decode (q_code 400) 74 = .ok (.ifCond .eq 5, 3) := by decide +kernel
theorem x_400_77 : decode (q_code 400) 77 = .ok (.iconst 1, 1) := by decide +kernel
theorem x_400_78 : decode (q_code 400) 78 = .ok (.ireturn, 1) := by decide +kernel
theorem x_400_79 : decode (q_code 400) 79 = .ok (.iinc 4 1, 3) := by decide +kernel
theorem x_400_82 : decode (q_code 400) 82 = .ok (.goto (-79), 3) := by decide +kernel
theorem x_400_85 : decode (q_code 400) 85 = .ok (.iconst 0, 1) := by decide +kernel
theorem x_400_86 : decode (q_code 400) 86 = .ok (.ireturn, 1) := by decide +kernel
theorem x_401_0 : decode (q_code 401) 0 = .ok (.aload_n 0, 1) := by decide +kernel
theorem x_401_1 : decode (q_code 401) 1 = .ok (.iconst 0, 1) := by decide +kernel
theorem x_401_2 : decode (q_code 401) 2 = .ok (.putfield 812, 3) := by decide +kernel
theorem x_401_5 : decode (q_code 401) 5 = .ok (.aload_n 0, 1) := by decide +kernel
theorem x_401_6 : decode (q_code 401) 6 = .ok (.iconst 0, 1) := by decide +kernel
theorem x_401_7 : decode (q_code 401) 7 = .ok (.putfield 847, 3) := by decide +kernel
theorem x_401_10 : decode (q_code 401) 10 = .ok (.aload_n 0, 1) := by decide +kernel
theorem x_401_11 : decode (q_code 401) 11 = .ok (.iconst 1, 1) := by decide +kernel
theorem x_401_12 : decode (q_code 401) 12 = .ok (.putfield 850, 3) := by decide +kernel
theorem x_401_15 : decode (q_code 401) 15 = .ok (.aload_n 0, 1) := by decide +kernel
theorem x_401_16 : decode (q_code 401) 16 = .ok (.iload_n 1, 1) := by decide +kernel
theorem x_401_17 : decode (q_code 401) 17 = .ok (.iload_n 2, 1) := by decide +kernel
theorem x_401_18 : decode (q_code 401) 18 = .ok (.iconst 0, 1) := by decide +kernel
theorem x_401_19 : decode (q_code 401) 19 = .ok (.invokevirtual 853, 3) := by decide +kernel
theorem x_401_22 : decode (q_code 401) 22 = .ok (.istore_n 3, 1) := by decide +kernel
theorem x_401_23 : decode (q_code 401) 23 = .ok (.aload_n 0, 1) := by decide +kernel
theorem x_401_24 : decode (q_code 401) 24 = .ok (.aload_n 0, 1) := by decide +kernel
theorem x_401_25 : decode (q_code 401) 25 = .ok (.getfield 812, 3) := by decide +kernel
theorem x_401_28 : decode (q_code 401) 28 = .ok (.putfield 856, 3) := by decide +kernel
theorem x_401_31 : decode (q_code 401) 31 = .ok (.iload_n 3, 1) := by decide +kernel
theorem x_401_32 : decode (q_code 401) 32 = .ok (.ifCond .ne 4, 3) := by decide +kernel
theorem x_401_35 : decode (q_code 401) 35 = .ok (.return_, 1) := by decide +kernel
theorem x_401_36 : decode (q_code 401) 36 = .ok (.aload_n 0, 1) := by decide +kernel
theorem x_401_37 : decode (q_code 401) 37 = .ok (.iconst 2, 1) := by decide +kernel
theorem x_401_38 : decode (q_code 401) 38 = .ok (.putfield 847, 3) := by decide +kernel
theorem x_401_41 : decode (q_code 401) 41 = .ok (.aload_n 0, 1) := by decide +kernel
theorem x_401_42 : decode (q_code 401) 42 = .ok (.aload_n 0, 1) := by decide +kernel
theorem x_401_43 : decode (q_code 401) 43 = .ok (.getfield 856, 3) := by decide +kernel
theorem x_401_46 : decode (q_code 401) 46 = .ok (.putfield 850, 3) := by decide +kernel
theorem x_401_49 : decode (q_code 401) 49 = .ok (.iconst 0, 1) := by decide +kernel
theorem x_401_50 : decode (q_code 401) 50 = .ok (.istore 4, 2) := by decide +kernel
theorem x_401_52 : decode (q_code 401) 52 = .ok (.iload 4, 2) := by decide +kernel
theorem x_401_54 : decode (q_code 401) 54 = .ok (.aload_n 0, 1) := by decide +kernel
theorem x_401_55 : decode (q_code 401) 55 = .ok (.getfield 856, 3) := by decide +kernel
theorem x_401_58 : decode (q_code 401) 58 = .ok (.if_icmp .ge 23, 3) := by decide +kernel
theorem x_401_61 : decode (q_code 401) 61 = .ok (.aload_n 0, 1) := by decide +kernel
theorem x_401_62 : decode (q_code 401) 62 = .ok (.iload 4, 2) := by decide +kernel
theorem x_401_64 : decode (q_code 401) 64 = .ok (.invokevirtual 859, 3) := by decide +kernel
theorem x_401_67 : decode (q_code 401) 67 = .ok (.ifCond .ne 8, 3) := by decide +kernel
theorem x_401_70 : decode (q_code 401) 70 = .ok (.aload_n 0, 1) := by decide +kernel
theorem x_401_71 : decode (q_code 401) 71 = .ok (.iconst 1, 1) := by decide +kernel
theorem x_401_72 : decode (q_code 401) 72 = .ok (.putfield 847, 3) := by decide +kernel
theorem x_401_75 : decode (q_code 401) 75 = .ok (.iinc 4 1, 3) := by decide +kernel
theorem x_401_78 : decode (q_code 401) 78 = .ok (.goto (-26), 3) := by decide +kernel
theorem x_401_81 : decode (q_code 401) 81 = .ok (.aload_n 0, 1) := by decide +kernel
theorem x_401_82 : decode (q_code 401) 82 = .ok (.getfield 847, 3) := by decide +kernel
theorem x_401_85 : decode (q_code 401) 85 = .ok (.iconst 1, 1) := by decide +kernel
theorem x_401_86 : decode (q_code 401) 86 = .ok (.if_icmp .eq 23, 3) := by decide +kernel
theorem x_401_89 : decode (q_code 401) 89 = .ok (.aload_n 0, 1) := by decide +kernel
theorem x_401_90 : decode (q_code 401) 90 = .ok (.getfield 47, 3) := by decide +kernel
theorem x_401_93 : decode (q_code 401) 93 = .ok (.iload_n 2, 1) := by decide +kernel
theorem x_401_94 : decode (q_code 401) 94 = .ok (.iaload, 1) := by decide +kernel
theorem x_401_95 : decode (q_code 401) 95 = .ok (.iconst 2, 1) := by decide +kernel
theorem x_401_96 : decode (q_code 401) 96 = .ok (.if_icmp .lt 13, 3) := by decide +kernel
theorem x_401_99 : decode (q_code 401) 99 = .ok (.aload_n 0, 1) := by decide +kernel
theorem x_401_100 : decode (q_code 401) 100 = .ok (.iload_n 1, 1) := by decide +kernel
theorem x_401_101 : decode (q_code 401) 101 = .ok (.iload_n 2, 1) := by decide +kernel
theorem x_401_102 : decode (q_code 401) 102 = .ok (.iconst 1, 1) := by decide +kernel
theorem x_401_103 : decode (q_code 401) 103 = .ok (.invokevirtual 853, 3) := by decide +kernel
theorem x_401_106 : decode (q_code 401) 106 = .ok (.ifCond .ne 4, 3) := by decide +kernel
theorem x_401_109 : decode (q_code 401) 109 = .ok (.return_, 1) := by decide +kernel
theorem x_401_110 : decode (q_code 401) 110 = .ok (.aload_n 0, 1) := by decide +kernel
theorem x_401_111 : decode (q_code 401) 111 = .ok (.iconst 3, 1) := by decide +kernel
theorem x_401_112 : decode (q_code 401) 112 = .ok (.putfield 847, 3) := by decide +kernel
theorem x_401_115 : decode (q_code 401) 115 = .ok (.aload_n 0, 1) := by decide +kernel
theorem x_401_116 : decode (q_code 401) 116 = .ok (.aload_n 0, 1) := by decide +kernel
theorem x_401_117 : decode (q_code 401) 117 = .ok (.getfield 856, 3) := by decide +kernel
theorem x_401_120 : decode (q_code 401) 120 = .ok (.aload_n 0, 1) := by decide +kernel
theorem x_401_121 : decode (q_code 401) 121 = .ok (.getfield 812, 3) := by decide +kernel
theorem x_401_124 : decode (q_code 401) 124 = .ok (.aload_n 0, 1) := by decide +kernel
theorem x_401_125 : decode (q_code 401) 125 = .ok (.getfield 856, 3) := by decide +kernel
theorem x_401_128 : decode (q_code 401) 128 = .ok (.isub, 1) := by decide +kernel
theorem x_401_129 : decode (q_code 401) 129 = .ok (.imul, 1) := by decide +kernel
theorem x_401_130 : decode (q_code 401) 130 = .ok (.putfield 850, 3) := by decide +kernel
theorem x_401_133 : decode (q_code 401) 133 = .ok (.return_, 1) := by decide +kernel
theorem x_402_0 : decode (q_code 402) 0 = .ok (.bipush 8, 2) := by decide +kernel
theorem x_402_2 : decode (q_code 402) 2 = .ok (.istore_n 3, 1) := by decide +kernel
theorem x_402_3 : decode (q_code 402) 3 = .ok (.iconst 0, 1) := by decide +kernel
theorem x_402_4 : decode (q_code 402) 4 = .ok (.istore 4, 2) := by decide +kernel
theorem x_402_6 : decode (q_code 402) 6 = .ok (.iconst 1, 1) := by decide +kernel
theorem x_402_7 : decode (q_code 402) 7 = .ok (.istore 5, 2) := by decide +kernel
theorem x_402_9 : decode (q_code 402) 9 = .ok (.iconst 4, 1) := by decide +kernel
theorem x_402_10 : decode (q_code 402) 10 = .ok (.iload_n 2, 1) := by decide +kernel
theorem x_402_11 : decode (q_code 402) 11 = .ok (.imul, 1) := by decide +kernel
theorem x_402_12 : decode (q_code 402) 12 = .ok (.istore 6, 2) := by decide +kernel
theorem x_402_14 : decode (q_code 402) 14 = .ok (.iload 6, 2) := by decide +kernel
theorem x_402_16 : decode (q_code 402) 16 = .ok (.iconst 4, 1) := by decide +kernel
theorem x_402_17 : decode (q_code 402) 17 = .ok (.iload_n 2, 1) := by decide +kernel
theorem x_402_18 : decode (q_code 402) 18 = .ok (.imul, 1) := by decide +kernel
theorem x_402_19 : decode (q_code 402) 19 = .ok (.iconst 4, 1) := by decide +kernel
theorem x_402_20 : decode (q_code 402) 20 = .ok (.iadd, 1) := by decide +kernel
theorem x_402_21 : decode (q_code 402) 21 = .ok (.if_icmp .ge 78, 3) := by decide +kernel
theorem x_402_24 : decode (q_code 402) 24 = .ok (.aload_n 0, 1) := by decide +kernel
theorem x_402_25 : decode (q_code 402) 25 = .ok (.getfield 43, 3) := by decide +kernel
theorem x_402_28 : decode (q_code 402) 28 = .ok (.iload 6, 2) := by decide +kernel
theorem x_402_30 : decode (q_code 402) 30 = .ok (.baload, 1) := by decide +kernel
theorem x_402_31 : decode (q_code 402) 31 = .ok (.ifCond .ne 6, 3) := by decide +kernel
theorem x_402_34 : decode (q_code 402) 34 = .ok (.goto 59, 3) := by decide +kernel
theorem x_402_37 : decode (q_code 402) 37 = .ok (.aload_n 0, 1) := by decide +kernel
theorem x_402_38 : decode (q_code 402) 38 = .ok (.iload_n 1, 1) := by decide +kernel
theorem x_402_39 : decode (q_code 402) 39 = .ok (.iload 6, 2) := by decide +kernel
theorem x_402_41 : decode (q_code 402) 41 = .ok (.invokevirtual 862, 3) := by decide +kernel
theorem x_402_44 : decode (q_code 402) 44 = .ok (.aload_n 0, 1) := by decide +kernel
theorem x_402_45 : decode (q_code 402) 45 = .ok (.getfield 847, 3) := by decide +kernel
theorem x_402_48 : decode (q_code 402) 48 = .ok (.iload 4, 2) := by decide +kernel
theorem x_402_50 : decode (q_code 402) 50 = .ok (.if_icmp .gt 28, 3) := by decide +kernel
theorem x_402_53 : decode (q_code 402) 53 = .ok (.aload_n 0, 1) := by decide +kernel
theorem x_402_54 : decode (q_code 402) 54 = .ok (.getfield 847, 3) := by decide +kernel
theorem x_402_57 : decode (q_code 402) 57 = .ok (.iload 4, 2) := by decide +kernel
theorem x_402_59 : decode (q_code 402) 59 = .ok (.if_icmp .ne 34, 3) := by decide +kernel
theorem x_402_62 : decode (q_code 402) 62 = .ok (.aload_n 0, 1) := by decide +kernel
theorem x_402_63 : decode (q_code 402) 63 = .ok (.getfield 847, 3) := by decide +kernel
theorem x_402_66 : decode (q_code 402) 66 = .ok (.ifCond .le 27, 3) := by decide +kernel
theorem x_402_69 : decode (q_code 402) 69 = .ok (.aload_n 0, 1) := by decide +kernel
theorem x_402_70 : decode (q_code 402) 70 = .ok (.getfield 850, 3) := by decide +kernel
theorem x_402_73 : decode (q_code 402) 73 = .ok (.iload 5, 2) := by decide +kernel
theorem x_402_75 : decode (q_code 402) 75 = .ok (.if_icmp .ge 18, 3) := by decide +kernel
theorem x_402_78 : decode (q_code 402) 78 = .ok (.iload 6, 2) := by decide +kernel
theorem x_402_80 : decode (q_code 402) 80 = .ok (.istore_n 3, 1) := by decide +kernel
theorem x_402_81 : decode (q_code 402) 81 = .ok (.aload_n 0, 1) := by decide +kernel
theorem x_402_82 : decode (q_code 402) 82 = .ok (.getfield 847, 3) := by decide +kernel
theorem x_402_85 : decode (q_code 402) 85 = .ok (.istore 4, 2) := by decide +kernel
theorem x_402_87 : decode (q_code 402) 87 = .ok (.aload_n 0, 1) := by decide +kernel
theorem x_402_88 : decode (q_code 402) 88 = .ok (.getfield 850, 3) := by decide +kernel
theorem x_402_91 : decode (q_code 402) 91 = .ok (.istore 5, 2) := by decide +kernel
theorem x_402_93 : decode (q_code 402) 93 = .ok (.iinc 6 1, 3) := by decide +kernel
theorem x_402_96 : decode (q_code 402) 96 = .ok (.goto (-82), 3) := by decide +kernel
theorem x_402_99 : decode (q_code 402) 99 = .ok (.aload_n 0, 1) := by decide +kernel
theorem x_402_100 : decode (q_code 402) 100 = .ok (.iconst 0, 1) := by decide +kernel
theorem x_402_101 : decode (q_code 402) 101 = .ok (.putfield 847, 3) := by decide +kernel
theorem x_402_104 : decode (q_code 402) 104 = .ok (.aload_n 0, 1) := by decide +kernel
theorem x_402_105 : decode (q_code 402) 105 = .ok (.iconst 1, 1) := by decide +kernel
theorem x_402_106 : decode (q_code 402) 106 = .ok (.putfield 850, 3) := by decide +kernel
theorem x_402_109 : decode (q_code 402) 109 = .ok (.iload_n 3, 1) := by decide +kernel
theorem x_402_110 : decode (q_code 402) 110 = .ok (.bipush 8, 2) := by decide +kernel
theorem x_402_112 : decode (q_code 402) 112 = .ok (.if_icmp .ge 9, 3) := by decide +kernel
theorem x_402_115 : decode (q_code 402) 115 = .ok (.aload_n 0, 1) := by decide +kernel
theorem x_402_116 : decode (q_code 402) 116 = .ok (.iload_n 1, 1) := by decide +kernel
theorem x_402_117 : decode (q_code 402) 117 = .ok (.iload_n 3, 1) := by decide +kernel
theorem x_402_118 : decode (q_code 402) 118 = .ok (.invokevirtual 862, 3) := by decide +kernel
theorem x_402_121 : decode (q_code 402) 121 = .ok (.iload_n 3, 1) := by decide +kernel
theorem x_402_122 : decode (q_code 402) 122 = .ok (.ireturn, 1) := by decide +kernel
theorem x_403_0 : decode (q_code 403) 0 = .ok (.aload_n 0, 1) := by decide +kernel
theorem x_403_1 : decode (q_code 403) 1 = .ok (.getfield 297, 3) := by decide +kernel
theorem x_403_4 : decode (q_code 403) 4 = .ok (.istore_n 3, 1) := by decide +kernel
theorem x_403_5 : decode (q_code 403) 5 = .ok (.aload_n 0, 1) := by decide +kernel
theorem x_403_6 : decode (q_code 403) 6 = .ok (.iload_n 1, 1) := by decide +kernel
theorem x_403_7 : decode (q_code 403) 7 = .ok (.iload_n 2, 1) := by decide +kernel
theorem x_403_8 : decode (q_code 403) 8 = .ok (.invokevirtual 736, 3) := by decide +kernel
theorem x_403_11 : decode (q_code 403) 11 = .ok (.pop, 1) := by decide +kernel
theorem x_403_12 : decode (q_code 403) 12 = .ok (.iconst 0, 1) := by decide +kernel
theorem x_403_13 : decode (q_code 403) 13 = .ok (.istore 4, 2) := by decide +kernel
theorem x_403_15 : decode (q_code 403) 15 = .ok (.aload_n 0, 1) := by decide +kernel
theorem x_403_16 : decode (q_code 403) 16 = .ok (.getfield 847, 3) := by decide +kernel
theorem x_403_19 : decode (q_code 403) 19 = .ok (.iconst 3, 1) := by decide +kernel
theorem x_403_20 : decode (q_code 403) 20 = .ok (.if_icmp .ge 7, 3) := by decide +kernel
theorem x_403_23 : decode (q_code 403) 23 = .ok (.iconst 1, 1) := by decide +kernel
theorem x_403_24 : decode (q_code 403) 24 = .ok (.goto 4, 3) := by decide +kernel
theorem x_403_27 : decode (q_code 403) 27 = .ok (.iconst 0, 1) := by decide +kernel
theorem x_403_28 : decode (q_code 403) 28 = .ok (.istore 5, 2) := by decide +kernel
theorem x_403_30 : decode (q_code 403) 30 = .ok (.aload_n 0, 1) := by decide +kernel
theorem x_403_31 : decode (q_code 403) 31 = .ok (.getfield 730, 3) := by decide +kernel
theorem x_403_34 : decode (q_code 403) 34 = .ok (.istore 6, 2) := by decide +kernel
theorem x_403_36 : decode (q_code 403) 36 = .ok (.iload 6, 2) := by decide +kernel
theorem x_403_38 : decode (q_code 403) 38 = .ok (.aload_n 0, 1) := by decide +kernel
theorem x_403_39 : decode (q_code 403) 39 = .ok (.getfield 730, 3) := by decide +kernel
theorem x_403_42 : decode (q_code 403) 42 = .ok (.aload_n 0, 1) := by decide +kernel
theorem x_403_43 : decode (q_code 403) 43 = .ok (.getfield 724, 3) := by decide +kernel
theorem x_403_46 : decode (q_code 403) 46 = .ok (.iadd, 1) := by decide +kernel
theorem x_403_47 : decode (q_code 403) 47 = .ok (.if_icmp .ge 30, 3) := by decide +kernel
theorem x_403_50 : decode (q_code 403) 50 = .ok (.iload 4, 2) := by decide +kernel
theorem x_403_52 : decode (q_code 403) 52 = .ok (.aload_n 0, 1) := by decide +kernel
theorem x_403_53 : decode (q_code 403) 53 = .ok (.aload_n 0, 1) := by decide +kernel
theorem x_403_54 : decode (q_code 403) 54 = .ok (.getfield 19, 3) := by decide +kernel
theorem x_403_57 : decode (q_code 403) 57 = .ok (.iload 6, 2) := by decide +kernel
theorem x_403_59 : decode (q_code 403) 59 = .ok (.iaload, 1) := by decide +kernel
theorem x_403_60 : decode (q_code 403) 60 = .ok (.iconst 0, 1) := by decide +kernel
theorem x_403_61 : decode (q_code 403) 61 = .ok (.aload_n 0, 1) := by decide +kernel
theorem x_403_62 : decode (q_code 403) 62 = .ok (.getfield 856, 3) := by decide +kernel
theorem x_403_65 : decode (q_code 403) 65 = .ok (.invokevirtual 865, 3) := by decide +kernel
theorem x_403_68 : decode (q_code 403) 68 = .ok (.ior, 1) := by decide +kernel
theorem x_403_69 : decode (q_code 403) 69 = .ok (.istore 4, 2) := by decide +kernel
theorem x_403_71 : decode (q_code 403) 71 = .ok (.iinc 6 1, 3) := by decide +kernel
theorem x_403_74 : decode (q_code 403) 74 = .ok (.goto (-38), 3) := by decide +kernel
theorem x_403_77 : decode (q_code 403) 77 = .ok (.aload_n 0, 1) := by decide +kernel
theorem x_403_78 : decode (q_code 403) 78 = .ok (.getfield 727, 3) := by decide +kernel
theorem x_403_81 : decode (q_code 403) 81 = .ok (.istore 6, 2) := by decide +kernel
theorem x_403_83 : decode (q_code 403) 83 = .ok (.iload 6, 2) := by decide +kernel
theorem x_403_85 : decode (q_code 403) 85 = .ok (.aload_n 0, 1) := by decide +kernel
theorem x_403_86 : decode (q_code 403) 86 = .ok (.getfield 733, 3) := by decide +kernel
theorem x_403_89 : decode (q_code 403) 89 = .ok (.if_icmp .ge 35, 3) := by decide +kernel
theorem x_403_92 : decode (q_code 403) 92 = .ok (.iload 5, 2) := by decide +kernel
theorem x_403_94 : decode (q_code 403) 94 = .ok (.ifCond .ne 30, 3) := by decide +kernel
theorem x_403_97 : decode (q_code 403) 97 = .ok (.aload_n 0, 1) := by decide +kernel
theorem x_403_98 : decode (q_code 403) 98 = .ok (.aload_n 0, 1) := by decide +kernel
theorem x_403_99 : decode (q_code 403) 99 = .ok (.getfield 19, 3) := by decide +kernel
theorem x_403_102 : decode (q_code 403) 102 = .ok (.iload 6, 2) := by decide +kernel
theorem x_403_104 : decode (q_code 403) 104 = .ok (.iaload, 1) := by decide +kernel
theorem x_403_105 : decode (q_code 403) 105 = .ok (.aload_n 0, 1) := by decide +kernel
theorem x_403_106 : decode (q_code 403) 106 = .ok (.getfield 856, 3) := by decide +kernel
theorem x_403_109 : decode (q_code 403) 109 = .ok (.aload_n 0, 1) := by decide +kernel
theorem x_403_110 : decode (q_code 403) 110 = .ok (.getfield 812, 3) := by decide +kernel
theorem x_403_113 : decode (q_code 403) 113 = .ok (.invokevirtual 865, 3) := by decide +kernel
theorem x_403_116 : decode (q_code 403) 116 = .ok (.istore 5, 2) := by decide +kernel
theorem x_403_118 : decode (q_code 403) 118 = .ok (.iinc 6 1, 3) := by decide +kernel
theorem x_403_121 : decode (q_code 403) 121 = .ok (.goto (-38), 3) := by decide +kernel
theorem x_403_124 : decode (q_code 403) 124 = .ok (.aload_n 0, 1) := by decide +kernel
theorem x_403_125 : decode (q_code 403) 125 = .ok (.iload_n 3, 1) := by decide +kernel
theorem x_403_126 : decode (q_code 403) 126 = .ok (.putfield 297, 3) := by decide +kernel
theorem x_403_129 : decode (q_code 403) 129 = .ok (.iload 4, 2) := by decide +kernel
theorem x_403_131 : decode (q_code 403) 131 = .ok (.ifCond .eq 12, 3) := by decide +kernel
theorem x_403_134 : decode (q_code 403) 134 = .ok (.iload 5, 2) := by decide +kernel
theorem x_403_136 : decode (q_code 403) 136 = .ok (.ifCond .eq 7, 3) := by decide +kernel
theorem x_403_139 : decode (q_code 403) 139 = .ok (.iconst 1, 1) := by decide +kernel
theorem x_403_140 : decode (q_code 403) 140 = .ok (.goto 4, 3) := by decide +kernel
theorem x_403_143 : decode (q_code 403) 143 = .ok (.iconst 0, 1) := by decide +kernel
theorem x_403_144 : decode (q_code 403) 144 = .ok (.ireturn, 1) := by decide +kernel
theorem x_404_0 : decode (q_code 404) 0 = .ok (.sipush 2000, 3) := by decide +kernel
theorem x_404_3 : decode (q_code 404) 3 = .ok (.sipush 2000, 3) := by decide +kernel
theorem x_404_6 : decode (q_code 404) 6 = .ok (.aload_n 0, 1) := by decide +kernel
theorem x_404_7 : decode (q_code 404) 7 = .ok (.getfield 118, 3) := by decide +kernel
theorem x_404_10 : decode (q_code 404) 10 = .ok (.sipush 200, 3) := by decide +kernel
theorem x_404_13 : decode (q_code 404) 13 = .ok (.iload_n 1, 1) := by decide +kernel
theorem x_404_14 : decode (q_code 404) 14 = .ok (.imul, 1) := by decide +kernel
theorem x_404_15 : decode (q_code 404) 15 = .ok (.iload_n 2, 1) := by decide +kernel
theorem x_404_16 : decode (q_code 404) 16 = .ok (.iadd, 1) := by decide +kernel
theorem x_404_17 : decode (q_code 404) 17 = .ok (.iaload, 1) := by decide +kernel
theorem x_404_18 : decode (q_code 404) 18 = .ok (.imul, 1) := by decide +kernel
theorem x_404_19 : decode (q_code 404) 19 = .ok (.iadd, 1) := by decide +kernel
theorem x_404_20 : decode (q_code 404) 20 = .ok (.ireturn, 1) := by decide +kernel
theorem x_405_0 : decode (q_code 405) 0 = .ok (.aload_n 0, 1) := by decide +kernel
theorem x_405_1 : decode (q_code 405) 1 = .ok (.iload_n 1, 1) := by decide +kernel
theorem x_405_2 : decode (q_code 405) 2 = .ok (.putfield 224, 3) := by decide +kernel
theorem x_405_5 : decode (q_code 405) 5 = .ok (.aload_n 0, 1) := by decide +kernel
theorem x_405_6 : decode (q_code 405) 6 = .ok (.iload_n 2, 1) := by decide +kernel
theorem x_405_7 : decode (q_code 405) 7 = .ok (.putfield 227, 3) := by decide +kernel
theorem x_405_10 : decode (q_code 405) 10 = .ok (.iconst 0, 1) := by decide +kernel
theorem x_405_11 : decode (q_code 405) 11 = .ok (.ireturn, 1) := by decide +kernel
theorem x_406_0 : decode (q_code 406) 0 = .ok (.aload_n 0, 1) := by decide +kernel
theorem x_406_1 : decode (q_code 406) 1 = .ok (.bipush 9, 2) := by decide +kernel
theorem x_406_3 : decode (q_code 406) 3 = .ok (.iload_n 1, 1) := by decide +kernel
theorem x_406_4 : decode (q_code 406) 4 = .ok (.iconst (-1), 1) := by decide +kernel
theorem x_406_5 : decode (q_code 406) 5 = .ok (.if_icmp .ne 11, 3) := by decide +kernel
theorem x_406_8 : decode (q_code 406) 8 = .ok (.aload_n 0, 1) := by decide +kernel
theorem x_406_9 : decode (q_code 406) 9 = .ok (.iconst 0, 1) := by decide +kernel
theorem x_406_10 : decode (q_code 406) 10 = .ok (.invokevirtual 177, 3) := by decide +kernel
theorem x_406_13 : decode (q_code 406) 13 = .ok (.goto 4, 3) := by decide +kernel
theorem x_406_16 : decode (q_code 406) 16 = .ok (.iload_n 1, 1) := by decide +kernel
theorem x_406_17 : decode (q_code 406) 17 = .ok (.invokevirtual 868, 3) := by decide +kernel
theorem x_406_20 : decode (q_code 406) 20 = .ok (.ireturn, 1) := by decide +kernel
theorem x_407_0 : decode (q_code 407) 0 = .ok (.iload_n 1, 1) := by decide +kernel
theorem x_407_1 : decode (q_code 407) 1 = .ok (.iconst (-1), 1) := by decide +kernel
theorem x_407_2 : decode (q_code 407) 2 = .ok (.if_icmp .eq 46, 3) := by decide +kernel
theorem x_407_5 : decode (q_code 407) 5 = .ok (.aload_n 0, 1) := by decide +kernel
theorem x_407_6 : decode (q_code 407) 6 = .ok (.iload_n 1, 1) := by decide +kernel
theorem x_407_7 : decode (q_code 407) 7 = .ok (.ldc_w 871, 3) := by decide +kernel
theorem x_407_10 : decode (q_code 407) 10 = .ok (.invokevirtual 325, 3) := by decide +kernel
theorem x_407_13 : decode (q_code 407) 13 = .ok (.ifCond .eq 35, 3) := by decide +kernel
theorem x_407_16 : decode (q_code 407) 16 = .ok (.aload_n 0, 1) := by decide +kernel
theorem x_407_17 : decode (q_code 407) 17 = .ok (.iload_n 1, 1) := by decide +kernel
theorem x_407_18 : decode (q_code 407) 18 = .ok (.invokevirtual 387, 3) := by decide +kernel
theorem x_407_21 : decode (q_code 407) 21 = .ok (.ifCond .eq 27, 3) := by decide +kernel
theorem x_407_24 : decode (q_code 407) 24 = .ok (.aload_n 0, 1) := by decide +kernel
theorem x_407_25 : decode (q_code 407) 25 = .ok (.iload_n 1, 1) := by decide +kernel
theorem x_407_26 : decode (q_code 407) 26 = .ok (.invokevirtual 273, 3) := by decide +kernel
theorem x_407_29 : decode (q_code 407) 29 = .ok (.lconst 0, 1) := by decide +kernel
theorem x_407_30 : decode (q_code 407) 30 = .ok (.lcmp, 1) := by decide +kernel
theorem x_407_31 : decode (q_code 407) 31 = .ok (.ifCond .eq 13, 3) := by decide +kernel
theorem x_407_34 : decode (q_code 407) 34 = .ok (.aload_n 0, 1) := by decide +kernel
theorem x_407_35 : decode (q_code 407) 35 = .ok (.iload_n 1, 1) := by decide +kernel
theorem x_407_36 : decode (q_code 407) 36 = .ok (.invokevirtual 273, 3) := by decide +kernel
theorem x_407_39 : decode (q_code 407) 39 = .ok (.lconst 1, 1) := by decide +kernel
theorem x_407_40 : decode (q_code 407) 40 = .ok (.lcmp, 1) := by decide +kernel
theorem x_407_41 : decode (q_code 407) 41 = .ok (.ifCond .ne 7, 3) := by decide +kernel
theorem x_407_44 : decode (q_code 407) 44 = .ok (.iconst 1, 1) := by decide +kernel
theorem x_407_45 : decode (q_code 407) 45 = .ok (.goto 4, 3) := by decide +kernel
theorem x_407_48 : decode (q_code 407) 48 = .ok (.iconst 0, 1) := by decide +kernel
theorem x_407_49 : decode (q_code 407) 49 = .ok (.ireturn, 1) := by decide +kernel
theorem x_408_0 : decode (q_code 408) 0 = .ok (.aload_n 0, 1) := by decide +kernel
theorem x_408_1 : decode (q_code 408) 1 = .ok (.iload_n 1, 1) := by decide +kernel
theorem x_408_2 : decode (q_code 408) 2 = .ok (.ldc_w 873, 3) := by decide +kernel
theorem x_408_5 : decode (q_code 408) 5 = .ok (.invokevirtual 325, 3) := by decide +kernel
theorem x_408_8 : decode (q_code 408) 8 = .ok (.ifCond .ne 47, 3) := by decide +kernel
theorem x_408_11 : decode (q_code 408) 11 = .ok (.aload_n 0, 1) := by decide +kernel
theorem x_408_12 : decode (q_code 408) 12 = .ok (.iload_n 1, 1) := by decide +kernel
theorem x_408_13 : decode (q_code 408) 13 = .ok (.ldc_w 875, 3) := by decide +kernel
theorem x_408_16 : decode (q_code 408) 16 = .ok (.invokevirtual 325, 3) := by decide +kernel
theorem x_408_19 : decode (q_code 408) 19 = .ok (.ifCond .ne 36, 3) := by decide +kernel
theorem x_408_22 : decode (q_code 408) 22 = .ok (.aload_n 0, 1) := by decide +kernel
theorem x_408_23 : decode (q_code 408) 23 = .ok (.iload_n 1, 1) := by decide +kernel
theorem x_408_24 : decode (q_code 408) 24 = .ok (.ldc_w 876, 3) := by decide +kernel
theorem x_408_27 : decode (q_code 408) 27 = .ok (.invokevirtual 325, 3) := by decide +kernel
theorem x_408_30 : decode (q_code 408) 30 = .ok (.ifCond .ne 25, 3) := by decide +kernel
theorem x_408_33 : decode (q_code 408) 33 = .ok (.aload_n 0, 1) := by decide +kernel
theorem x_408_34 : decode (q_code 408) 34 = .ok (.iload_n 1, 1) := by decide +kernel
theorem x_408_35 : decode (q_code 408) 35 = .ok (.ldc_w 877, 3) := by decide +kernel
theorem x_408_38 : decode (q_code 408) 38 = .ok (.invokevirtual 325, 3) := by decide +kernel
theorem x_408_41 : decode (q_code 408) 41 = .ok (.ifCond .ne 14, 3) := by decide +kernel
theorem x_408_44 : decode (q_code 408) 44 = .ok (.aload_n 0, 1) := by decide +kernel
theorem x_408_45 : decode (q_code 408) 45 = .ok (.iload_n 1, 1) := by decide +kernel
theorem x_408_46 : decode (q_code 408) 46 = .ok (.ldc_w 879, 3) := by decide +kernel
theorem x_408_49 : decode (q_code 408) 49 = .ok (.invokevirtual 325, 3) := by decide +kernel
theorem x_408_52 : decode (q_code 408) 52 = .ok (.ifCond .eq 7, 3) := by decide +kernel
theorem x_408_55 : decode (q_code 408) 55 = .ok (.iconst 1, 1) := by decide +kernel
theorem x_408_56 : decode (q_code 408) 56 = .ok (.goto 4, 3) := by decide +kernel
theorem x_408_59 : decode (q_code 408) 59 = .ok (.iconst 0, 1) := by decide +kernel
theorem x_408_60 : decode (q_code 408) 60 = .ok (.istore_n 2, 1) := by decide +kernel
theorem x_408_61 : decode (q_code 408) 61 = .ok (.iload_n 2, 1) := by decide +kernel
theorem x_408_62 : decode (q_code 408) 62 = .ok (.ifCond .ne 14, 3) := by decide +kernel
theorem x_408_65 : decode (q_code 408) 65 = .ok (.aload_n 0, 1) := by decide +kernel
theorem x_408_66 : decode (q_code 408) 66 = .ok (.iload_n 1, 1) := by decide +kernel
theorem x_408_67 : decode (q_code 408) 67 = .ok (.ldc_w 881, 3) := by decide +kernel
theorem x_408_70 : decode (q_code 408) 70 = .ok (.invokevirtual 325, 3) := by decide +kernel
theorem x_408_73 : decode (q_code 408) 73 = .ok (.ifCond .eq 7, 3) := by decide +kernel
theorem x_408_76 : decode (q_code 408) 76 = .ok (.iconst 1, 1) := by decide +kernel
theorem x_408_77 : decode (q_code 408) 77 = .ok (.goto 4, 3) := by decide +kernel
theorem x_408_80 : decode (q_code 408) 80 = .ok (.iconst 0, 1) := by decide +kernel
theorem x_408_81 : decode (q_code 408) 81 = .ok (.ireturn, 1) := by decide +kernel
theorem x_409_0 : decode (q_code 409) 0 = .ok (.aload_n 0, 1) := by decide +kernel
theorem x_409_1 : decode (q_code 409) 1 = .ok (.iconst 0, 1) := by decide +kernel
theorem x_409_2 : decode (q_code 409) 2 = .ok (.iconst 0, 1) := by decide +kernel
theorem x_409_3 : decode (q_code 409) 3 = .ok (.invokevirtual 320, 3) := by decide +kernel
theorem x_409_6 : decode (q_code 409) 6 = .ok (.istore_n 1, 1) := by decide +kernel
theorem x_409_7 : decode (q_code 409) 7 = .ok (.iload_n 1, 1) := by decide +kernel
theorem x_409_8 : decode (q_code 409) 8 = .ok (.iconst (-1), 1) := by decide +kernel
theorem x_409_9 : decode (q_code 409) 9 = .ok (.if_icmp .ne 9, 3) := by decide +kernel
theorem x_409_12 : decode (q_code 409) 12 = .ok (.aload_n 0, 1) := by decide +kernel
theorem x_409_13 : decode (q_code 409) 13 = .ok (.iload_n 1, 1) := by decide +kernel
theorem x_409_14 : decode (q_code 409) 14 = .ok (.invokevirtual 883, 3) := by decide +kernel
theorem x_409_17 : decode (q_code 409) 17 = .ok (.ireturn, 1) := by decide +kernel
theorem x_409_18 : decode (q_code 409) 18 = .ok (.aload_n 0, 1) := by decide +kernel
theorem x_409_19 : decode (q_code 409) 19 = .ok (.iload_n 1, 1) := by decide +kernel
theorem x_409_20 : decode (q_code 409) 20 = .ok (.invokevirtual 886, 3) := by decide +kernel
theorem x_409_23 : decode (q_code 409) 23 = .ok (.ifCond .eq 19, 3) := by decide +kernel
theorem x_409_26 : decode (q_code 409) 26 = .ok (.aload_n 0, 1) := by decide +kernel
theorem x_409_27 : decode (q_code 409) 27 = .ok (.getfield 10, 3) := by decide +kernel
theorem x_409_30 : decode (q_code 409) 30 = .ok (.iload_n 1, 1) := by decide +kernel
theorem x_409_31 : decode (q_code 409) 31 = .ok (.baload, 1) := by decide +kernel
theorem x_409_32 : decode (q_code 409) 32 = .ok (.iconst 3, 1) := by decide +kernel
theorem x_409_33 : decode (q_code 409) 33 = .ok (.if_icmp .eq 149, 3) := by decide +kernel
theorem x_409_36 : decode (q_code 409) 36 = .ok (.aload_n 0, 1) := by decide +kernel
theorem x_409_37 : decode (q_code 409) 37 = .ok (.iload_n 1, 1) := by decide +kernel
theorem x_409_38 : decode (q_code 409) 38 = .ok (.invokevirtual 883, 3) := by decide +kernel
theorem x_409_41 : decode (q_code 409) 41 = .ok (.ireturn, 1) := by decide +kernel
theorem x_409_42 : decode (q_code 409) 42 = .ok (.aload_n 0, 1) := by decide +kernel
theorem x_409_43 : decode (q_code 409) 43 = .ok (.iload_n 1, 1) := by decide +kernel
theorem x_409_44 : decode (q_code 409) 44 = .ok (.ldc_w 889, 3) := by decide +kernel
theorem x_409_47 : decode (q_code 409) 47 = .ok (.invokevirtual 325, 3) := by decide +kernel
theorem x_409_50 : decode (q_code 409) 50 = .ok (.ifCond .ne 14, 3) := by decide +kernel
theorem x_409_53 : decode (q_code 409) 53 = .ok (.aload_n 0, 1) := by decide +kernel
theorem x_409_54 : decode (q_code 409) 54 = .ok (.iload_n 1, 1) := by decide +kernel
theorem x_409_55 : decode (q_code 409) 55 = .ok (.ldc_w 891, 3) := by decide +kernel
theorem x_409_58 : decode (q_code 409) 58 = .ok (.invokevirtual 325, 3) := by decide +kernel
theorem x_409_61 : decode (q_code 409) 61 = .ok (.ifCond .eq 17, 3) := by decide +kernel
theorem x_409_64 : decode (q_code 409) 64 = .ok (.aload_n 0, 1) := by decide +kernel
theorem x_409_65 : decode (q_code 409) 65 = .ok (.iload_n 1, 1) := by decide +kernel
theorem x_409_66 : decode (q_code 409) 66 = .ok (.invokevirtual 387, 3) := by decide +kernel
theorem x_409_69 : decode (q_code 409) 69 = .ok (.ifCond .ne 113, 3) := by decide +kernel
theorem x_409_72 : decode (q_code 409) 72 = .ok (.aload_n 0, 1) := by decide +kernel
theorem x_409_73 : decode (q_code 409) 73 = .ok (.iload_n 1, 1) := by decide +kernel
theorem x_409_74 : decode (q_code 409) 74 = .ok (.invokevirtual 883, 3) := by decide +kernel
theorem x_409_77 : decode (q_code 409) 77 = .ok (.ireturn, 1) := by decide +kernel
theorem x_409_78 : decode (q_code 409) 78 = .ok (.aload_n 0, 1) := by decide +kernel
theorem x_409_79 : decode (q_code 409) 79 = .ok (.iload_n 1, 1) := by decide +kernel
theorem x_409_80 : decode (q_code 409) 80 = .ok (.ldc_w 893, 3) := by decide +kernel
theorem x_409_83 : decode (q_code 409) 83 = .ok (.invokevirtual 325, 3) := by decide +kernel
theorem x_409_86 : decode (q_code 409) 86 = .ok (.ifCond .eq 69, 3) := by decide +kernel
theorem x_409_89 : decode (q_code 409) 89 = .ok (.aload_n 0, 1) := by decide +kernel
theorem x_409_90 : decode (q_code 409) 90 = .ok (.getfield 10, 3) := by decide +kernel
theorem x_409_93 : decode (q_code 409) 93 = .ok (.iload_n 1, 1) := by decide +kernel
theorem x_409_94 : decode (q_code 409) 94 = .ok (.baload, 1) := by decide +kernel
theorem x_409_95 : decode (q_code 409) 95 = .ok (.iconst 4, 1) := by decide +kernel
theorem x_409_96 : decode (q_code 409) 96 = .ok (.if_icmp .eq 9, 3) := by decide +kernel
theorem x_409_99 : decode (q_code 409) 99 = .ok (.aload_n 0, 1) := by decide +kernel
theorem x_409_100 : decode (q_code 409) 100 = .ok (.iload_n 1, 1) := by decide +kernel
theorem x_409_101 : decode (q_code 409) 101 = .ok (.invokevirtual 883, 3) := by decide +kernel
theorem x_409_104 : decode (q_code 409) 104 = .ok (.ireturn, 1) := by decide +kernel
theorem x_409_105 : decode (q_code 409) 105 = .ok (.aload_n 0, 1) := by decide +kernel
theorem x_409_106 : decode (q_code 409) 106 = .ok (.iload_n 1, 1) := by decide +kernel
theorem x_409_107 : decode (q_code 409) 107 = .ok (.invokevirtual 163, 3) := by decide +kernel
theorem x_409_110 : decode (q_code 409) 110 = .ok (.invokestatic 174, 3) := by decide +kernel
theorem x_409_113 : decode (q_code 409) 113 = .ok (.istore_n 2, 1) := by decide +kernel
theorem x_409_114 : decode (q_code 409) 114 = .ok (.iload_n 2, 1) := by decide +kernel
theorem x_409_115 : decode (q_code 409) 115 = .ok (.aload_n 0, 1) := by decide +kernel
theorem x_409_116 : decode (q_code 409) 116 = .ok (.aload_n 0, 1) := by decide +kernel
theorem x_409_117 : decode (q_code 409) 117 = .ok (.iload_n 1, 1) := by decide +kernel
theorem x_409_118 : decode (q_code 409) 118 = .ok (.invokevirtual 163, 3) := by decide +kernel
theorem x_409_121 : decode (q_code 409) 121 = .ok (.invokevirtual 177, 3) := by decide +kernel
theorem x_409_124 : decode (q_code 409) 124 = .ok (.if_icmp .ge 28, 3) := by decide +kernel
theorem x_409_127 : decode (q_code 409) 127 = .ok (.aload_n 0, 1) := by decide +kernel
theorem x_409_128 : decode (q_code 409) 128 = .ok (.getfield 10, 3) := by decide +kernel
theorem x_409_131 : decode (q_code 409) 131 = .ok (.iload_n 2, 1) := by decide +kernel
theorem x_409_132 : decode (q_code 409) 132 = .ok (.baload, 1) := by decide +kernel
theorem x_409_133 : decode (q_code 409) 133 = .ok (.iconst 3, 1) := by decide +kernel
theorem x_409_134 : decode (q_code 409) 134 = .ok (.if_icmp .eq 9, 3) := by decide +kernel
theorem x_409_137 : decode (q_code 409) 137 = .ok (.aload_n 0, 1) := by decide +kernel
theorem x_409_138 : decode (q_code 409) 138 = .ok (.iload_n 2, 1) := by decide +kernel
theorem x_409_139 : decode (q_code 409) 139 = .ok (.invokevirtual 883, 3) := by decide +kernel
theorem x_409_142 : decode (q_code 409) 142 = .ok (.ireturn, 1) := by decide +kernel
theorem x_409_143 : decode (q_code 409) 143 = .ok (.aload_n 0, 1) := by decide +kernel
theorem x_409_144 : decode (q_code 409) 144 = .ok (.iload_n 2, 1) := by decide +kernel
theorem x_409_145 : decode (q_code 409) 145 = .ok (.invokevirtual 180, 3) := by decide +kernel
theorem x_409_148 : decode (q_code 409) 148 = .ok (.istore_n 2, 1) := by decide +kernel
theorem x_409_149 : decode (q_code 409) 149 = .ok (.goto (-35), 3) := by decide +kernel
theorem x_409_152 : decode (q_code 409) 152 = .ok (.goto 30, 3) := by decide +kernel
theorem x_409_155 : decode (q_code 409) 155 = .ok (.aload_n 0, 1) := by decide +kernel
theorem x_409_156 : decode (q_code 409) 156 = .ok (.iload_n 1, 1) := by decide +kernel
theorem x_409_157 : decode (q_code 409) 157 = .ok (.ldc_w 895, 3) := by decide +kernel
theorem x_409_160 : decode (q_code 409) 160 = .ok (.invokevirtual 325, 3) := by decide +kernel
theorem x_409_163 : decode (q_code 409) 163 = .ok (.ifCond .ne 9, 3) := by decide +kernel
theorem x_409_166 : decode (q_code 409) 166 = .ok (.aload_n 0, 1) := by decide +kernel
theorem x_409_167 : decode (q_code 409) 167 = .ok (.iload_n 1, 1) := by decide +kernel
theorem x_409_168 : decode (q_code 409) 168 = .ok (.invokevirtual 883, 3) := by decide +kernel
theorem x_409_171 : decode (q_code 409) 171 = .ok (.ireturn, 1) := by decide +kernel
theorem x_409_172 : decode (q_code 409) 172 = .ok (.aload_n 0, 1) := by decide +kernel
theorem x_409_173 : decode (q_code 409) 173 = .ok (.iload_n 1, 1) := by decide +kernel
theorem x_409_174 : decode (q_code 409) 174 = .ok (.invokevirtual 897, 3) := by decide +kernel
theorem x_409_177 : decode (q_code 409) 177 = .ok (.ifCond .ne 5, 3) := by decide +kernel
theorem x_409_180 : decode (q_code 409) 180 = .ok (.iconst 0, 1) := by decide +kernel
theorem x_409_181 : decode (q_code 409) 181 = .ok (.ireturn, 1) := by decide +kernel
theorem x_409_182 : decode (q_code 409) 182 = .ok (.aload_n 0, 1) := by decide +kernel
theorem x_409_183 : decode (q_code 409) 183 = .ok (.iconst 0, 1) := by decide +kernel
theorem x_409_184 : decode (q_code 409) 184 = .ok (.iconst 1, 1) := by decide +kernel
theorem x_409_185 : decode (q_code 409) 185 = .ok (.invokevirtual 320, 3) := by decide +kernel
theorem x_409_188 : decode (q_code 409) 188 = .ok (.istore_n 2, 1) := by decide +kernel
theorem x_409_189 : decode (q_code 409) 189 = .ok (.aload_n 0, 1) := by decide +kernel
theorem x_409_190 : decode (q_code 409) 190 = .ok (.iload_n 2, 1) := by decide +kernel
theorem x_409_191 : decode (q_code 409) 191 = .ok (.invokevirtual 900, 3) := by decide +kernel
theorem x_409_194 : decode (q_code 409) 194 = .ok (.ifCond .ne 9, 3) := by decide +kernel
theorem x_409_197 : decode (q_code 409) 197 = .ok (.aload_n 0, 1) := by decide +kernel
theorem x_409_198 : decode (q_code 409) 198 = .ok (.iload_n 2, 1) := by decide +kernel
theorem x_409_199 : decode (q_code 409) 199 = .ok (.invokevirtual 883, 3) := by decide +kernel
theorem x_409_202 : decode (q_code 409) 202 = .ok (.ireturn, 1) := by decide +kernel
theorem x_409_203 : decode (q_code 409) 203 = .ok (.aload_n 0, 1) := by decide +kernel
theorem x_409_204 : decode (q_code 409) 204 = .ok (.iconst 0, 1) := by decide +kernel
theorem x_409_205 : decode (q_code 409) 205 = .ok (.iconst 2, 1) := by decide +kernel
theorem x_409_206 : decode (q_code 409) 206 = .ok (.invokevirtual 320, 3) := by decide +kernel
theorem x_409_209 : decode (q_code 409) 209 = .ok (.istore_n 3, 1) := by decide +kernel
theorem x_409_210 : decode (q_code 409) 210 = .ok (.aload_n 0, 1) := by decide +kernel
theorem x_409_211 : decode (q_code 409) 211 = .ok (.iload_n 1, 1) := by decide +kernel
theorem x_409_212 : decode (q_code 409) 212 = .ok (.ldc_w 877, 3) := by decide +kernel
theorem x_409_215 : decode (q_code 409) 215 = .ok (.invokevirtual 325, 3) := by decide +kernel
theorem x_409_218 : decode (q_code 409) 218 = .ok (.ifCond .eq 45, 3) := by decide +kernel
theorem x_409_221 : decode (q_code 409) 221 = .ok (.iload_n 3, 1) := by decide +kernel
theorem x_409_222 : decode (q_code 409) 222 = .ok (.iconst (-1), 1) := by decide +kernel
theorem x_409_223 : decode (q_code 409) 223 = .ok (.if_icmp .eq 24, 3) := by decide +kernel
theorem x_409_226 : decode (q_code 409) 226 = .ok (.aload_n 0, 1) := by decide +kernel
theorem x_409_227 : decode (q_code 409) 227 = .ok (.iload_n 3, 1) := by decide +kernel
theorem x_409_228 : decode (q_code 409) 228 = .ok (.ldc_w 903, 3) := by decide +kernel
theorem x_409_231 : decode (q_code 409) 231 = .ok (.invokevirtual 325, 3) := by decide +kernel
theorem x_409_234 : decode (q_code 409) 234 = .ok (.ifCond .eq 13, 3) := by decide +kernel
theorem x_409_237 : decode (q_code 409) 237 = .ok (.aload_n 0, 1) := by decide +kernel
theorem x_409_238 : decode (q_code 409) 238 = .ok (.getfield 10, 3) := by decide +kernel
theorem x_409_241 : decode (q_code 409) 241 = .ok (.iload_n 3, 1) := by decide +kernel
theorem x_409_242 : decode (q_code 409) 242 = .ok (.baload, 1) := by decide +kernel
theorem x_409_243 : decode (q_code 409) 243 = .ok (.iconst 3, 1) := by decide +kernel
theorem x_409_244 : decode (q_code 409) 244 = .ok (.if_icmp .eq 9, 3) := by decide +kernel
theorem x_409_247 : decode (q_code 409) 247 = .ok (.aload_n 0, 1) := by decide +kernel
theorem x_409_248 : decode (q_code 409) 248 = .ok (.iload_n 3, 1) := by decide +kernel
theorem x_409_249 : decode (q_code 409) 249 = .ok (.invokevirtual 883, 3) := by decide +kernel
theorem x_409_252 : decode (q_code 409) 252 = .ok (.ireturn, 1) := by decide +kernel
theorem x_409_253 : decode (q_code 409) 253 = .ok (.aload_n 0, 1) := by decide +kernel
theorem x_409_254 : decode (q_code 409) 254 = .ok (.iconst 0, 1) := by decide +kernel
theorem x_409_255 : decode (q_code 409) 255 = .ok (.iconst 3, 1) := by decide +kernel
theorem x_409_256 : decode (q_code 409) 256 = .ok (.invokevirtual 320, 3) := by decide +kernel
theorem x_409_259 : decode (q_code 409) 259 = .ok (.istore_n 3, 1) := by decide +kernel
theorem x_409_260 : decode (q_code 409) 260 = .ok (.goto 32, 3) := by decide +kernel
theorem x_409_263 : decode (q_code 409) 263 = .ok (.aload_n 0, 1) := by decide +kernel
theorem x_409_264 : decode (q_code 409) 264 = .ok (.iload_n 1, 1) := by decide +kernel
theorem x_409_265 : decode (q_code 409) 265 = .ok (.ldc_w 895, 3) := by decide +kernel
theorem x_409_268 : decode (q_code 409) 268 = .ok (.invokevirtual 325, 3) := by decide +kernel
theorem x_409_271 : decode (q_code 409) 271 = .ok (.ifCond .eq 21, 3) := by decide +kernel
theorem x_409_274 : decode (q_code 409) 274 = .ok (.aload_n 0, 1) := by decide +kernel
theorem x_409_275 : decode (q_code 409) 275 = .ok (.iload_n 1, 1) := by decide +kernel
theorem x_409_276 : decode (q_code 409) 276 = .ok (.iload_n 3, 1) := by decide +kernel
theorem x_409_277 : decode (q_code 409) 277 = .ok (.invokevirtual 905, 3) := by decide +kernel
theorem x_409_280 : decode (q_code 409) 280 = .ok (.ifCond .ne 5, 3) := by decide +kernel
theorem x_409_283 : decode (q_code 409) 283 = .ok (.iconst 0, 1) := by decide +kernel
theorem x_409_284 : decode (q_code 409) 284 = .ok (.ireturn, 1) := by decide +kernel
theorem x_409_285 : decode (q_code 409) 285 = .ok (.aload_n 0, 1) := by decide +kernel
theorem x_409_286 : decode (q_code 409) 286 = .ok (.iconst 0, 1) := by decide +kernel
theorem x_409_287 : decode (q_code 409) 287 = .ok (.iconst 3, 1) := by decide +kernel
theorem x_409_288 : decode (q_code 409) 288 = .ok (.invokevirtual 320, 3) := by decide +kernel
theorem x_409_291 : decode (q_code 409) 291 = .ok (.istore_n 3, 1) := by decide +kernel
theorem x_409_292 : decode (q_code 409) 292 = .ok (.iload_n 3, 1) := by decide +kernel
theorem x_409_293 : decode (q_code 409) 293 = .ok (.iconst (-1), 1) := by decide +kernel
theorem x_409_294 : decode (q_code 409) 294 = .ok (.if_icmp .eq 11, 3) := by decide +kernel
theorem x_409_297 : decode (q_code 409) 297 = .ok (.aload_n 0, 1) := by decide +kernel
theorem x_409_298 : decode (q_code 409) 298 = .ok (.iload_n 3, 1) := by decide +kernel
theorem x_409_299 : decode (q_code 409) 299 = .ok (.invokevirtual 883, 3) := by decide +kernel
theorem x_409_302 : decode (q_code 409) 302 = .ok (.ifCond .eq 7, 3) := by decide +kernel
theorem x_409_305 : decode (q_code 409) 305 = .ok (.iconst 1, 1) := by decide +kernel
theorem x_409_306 : decode (q_code 409) 306 = .ok (.goto 4, 3) := by decide +kernel
theorem x_409_309 : decode (q_code 409) 309 = .ok (.iconst 0, 1) := by decide +kernel
theorem x_409_310 : decode (q_code 409) 310 = .ok (.ireturn, 1) := by decide +kernel
theorem x_410_0 : decode (q_code 410) 0 = .ok (.aload_n 0, 1) := by decide +kernel
theorem x_410_1 : decode (q_code 410) 1 = .ok (.getfield 10, 3) := by decide +kernel
theorem x_410_4 : decode (q_code 410) 4 = .ok (.iload_n 1, 1) := by decide +kernel
theorem x_410_5 : decode (q_code 410) 5 = .ok (.baload, 1) := by decide +kernel
theorem x_410_6 : decode (q_code 410) 6 = .ok (.iconst 4, 1) := by decide +kernel
theorem x_410_7 : decode (q_code 410) 7 = .ok (.if_icmp .ne 15, 3) := by decide +kernel
theorem x_410_10 : decode (q_code 410) 10 = .ok (.aload_n 0, 1) := by decide +kernel
theorem x_410_11 : decode (q_code 410) 11 = .ok (.aload_n 0, 1) := by decide +kernel
theorem x_410_12 : decode (q_code 410) 12 = .ok (.iload_n 1, 1) := by decide +kernel
theorem x_410_13 : decode (q_code 410) 13 = .ok (.invokevirtual 163, 3) := by decide +kernel
theorem x_410_16 : decode (q_code 410) 16 = .ok (.invokevirtual 360, 3) := by decide +kernel
theorem x_410_19 : decode (q_code 410) 19 = .ok (.ifCond .ne 9, 3) := by decide +kernel
theorem x_410_22 : decode (q_code 410) 22 = .ok (.aload_n 0, 1) := by decide +kernel
theorem x_410_23 : decode (q_code 410) 23 = .ok (.iload_n 1, 1) := by decide +kernel
theorem x_410_24 : decode (q_code 410) 24 = .ok (.invokevirtual 883, 3) := by decide +kernel
theorem x_410_27 : decode (q_code 410) 27 = .ok (.ireturn, 1) := by decide +kernel
theorem x_410_28 : decode (q_code 410) 28 = .ok (.iconst 0, 1) := by decide +kernel
theorem x_410_29 : decode (q_code 410) 29 = .ok (.istore_n 2, 1) := by decide +kernel
theorem x_410_30 : decode (q_code 410) 30 = .ok (.aload_n 0, 1) := by decide +kernel
theorem x_410_31 : decode (q_code 410) 31 = .ok (.iload_n 1, 1) := by decide +kernel
theorem x_410_32 : decode (q_code 410) 32 = .ok (.invokevirtual 163, 3) := by decide +kernel
theorem x_410_35 : decode (q_code 410) 35 = .ok (.invokestatic 174, 3) := by decide +kernel
theorem x_410_38 : decode (q_code 410) 38 = .ok (.istore_n 3, 1) := by decide +kernel
theorem x_410_39 : decode (q_code 410) 39 = .ok (.iload_n 3, 1) := by decide +kernel
theorem x_410_40 : decode (q_code 410) 40 = .ok (.istore 4, 2) := by decide +kernel
theorem x_410_42 : decode (q_code 410) 42 = .ok (.iload 4, 2) := by decide +kernel
theorem x_410_44 : decode (q_code 410) 44 = .ok (.aload_n 0, 1) := by decide +kernel
theorem x_410_45 : decode (q_code 410) 45 = .ok (.aload_n 0, 1) := by decide +kernel
theorem x_410_46 : decode (q_code 410) 46 = .ok (.iload_n 1, 1) := by decide +kernel
theorem x_410_47 : decode (q_code 410) 47 = .ok (.invokevirtual 163, 3) := by decide +kernel
theorem x_410_50 : decode (q_code 410) 50 = .ok (.invokevirtual 177, 3) := by decide +kernel
theorem x_410_53 : decode (q_code 410) 53 = .ok (.if_icmp .ge 76, 3) := by decide +kernel
theorem x_410_56 : decode (q_code 410) 56 = .ok (.iload_n 2, 1) := by decide +kernel
theorem x_410_57 : decode (q_code 410) 57 = .ok (.iconst 2, 1) := by decide +kernel
theorem x_410_58 : decode (q_code 410) 58 = .ok (.if_icmp .eq 50, 3) := by decide +kernel
theorem x_410_61 : decode (q_code 410) 61 = .ok (.aload_n 0, 1) := by decide +kernel
theorem x_410_62 : decode (q_code 410) 62 = .ok (.getfield 10, 3) := by decide +kernel
theorem x_410_65 : decode (q_code 410) 65 = .ok (.iload 4, 2) := by decide +kernel
theorem x_410_67 : decode (q_code 410) 67 = .ok (.baload, 1) := by decide +kernel
theorem x_410_68 : decode (q_code 410) 68 = .ok (.iconst 2, 1) := by decide +kernel
theorem x_410_69 : decode (q_code 410) 69 = .ok (.if_icmp .ne 39, 3) := by decide +kernel
theorem x_410_72 : decode (q_code 410) 72 = .ok (.aload_n 0, 1) := by decide +kernel
theorem x_410_73 : decode (q_code 410) 73 = .ok (.aload_n 0, 1) := by decide +kernel
theorem x_410_74 : decode (q_code 410) 74 = .ok (.iload 4, 2) := by decide +kernel
theorem x_410_76 : decode (q_code 410) 76 = .ok (.invokevirtual 163, 3) := by decide +kernel
theorem x_410_79 : decode (q_code 410) 79 = .ok (.iconst 4, 1) := by decide +kernel
theorem x_410_80 : decode (q_code 410) 80 = .ok (.iadd, 1) := by decide +kernel
theorem x_410_81 : decode (q_code 410) 81 = .ok (.aload_n 0, 1) := by decide +kernel
theorem x_410_82 : decode (q_code 410) 82 = .ok (.iload 4, 2) := by decide +kernel
theorem x_410_84 : decode (q_code 410) 84 = .ok (.invokevirtual 527, 3) := by decide +kernel
theorem x_410_87 : decode (q_code 410) 87 = .ok (.invokevirtual 351, 3) := by decide +kernel
theorem x_410_90 : decode (q_code 410) 90 = .ok (.ifCond .eq 18, 3) := by decide +kernel
theorem x_410_93 : decode (q_code 410) 93 = .ok (.iload_n 2, 1) := by decide +kernel
theorem x_410_94 : decode (q_code 410) 94 = .ok (.iconst 1, 1) := by decide +kernel
theorem x_410_95 : decode (q_code 410) 95 = .ok (.if_icmp .ne 20, 3) := by decide +kernel
theorem x_410_98 : decode (q_code 410) 98 = .ok (.aload_n 0, 1) := by decide +kernel
theorem x_410_99 : decode (q_code 410) 99 = .ok (.iload 4, 2) := by decide +kernel
theorem x_410_101 : decode (q_code 410) 101 = .ok (.iload_n 3, 1) := by decide +kernel
theorem x_410_102 : decode (q_code 410) 102 = .ok (.invokevirtual 423, 3) := by decide +kernel
theorem x_410_105 : decode (q_code 410) 105 = .ok (.ifCond .eq 10, 3) := by decide +kernel
theorem x_410_108 : decode (q_code 410) 108 = .ok (.aload_n 0, 1) := by decide +kernel
theorem x_410_109 : decode (q_code 410) 109 = .ok (.iload 4, 2) := by decide +kernel
theorem x_410_111 : decode (q_code 410) 111 = .ok (.invokevirtual 883, 3) := by decide +kernel
theorem x_410_114 : decode (q_code 410) 114 = .ok (.ireturn, 1) := by decide +kernel
theorem x_410_115 : decode (q_code 410) 115 = .ok (.iinc 2 1, 3) := by decide +kernel
theorem x_410_118 : decode (q_code 410) 118 = .ok (.aload_n 0, 1) := by decide +kernel
theorem x_410_119 : decode (q_code 410) 119 = .ok (.iload 4, 2) := by decide +kernel
theorem x_410_121 : decode (q_code 410) 121 = .ok (.invokevirtual 180, 3) := by decide +kernel
theorem x_410_124 : decode (q_code 410) 124 = .ok (.istore 4, 2) := by decide +kernel
theorem x_410_126 : decode (q_code 410) 126 = .ok (.goto (-84), 3) := by decide +kernel
theorem x_410_129 : decode (q_code 410) 129 = .ok (.iconst 1, 1) := by decide +kernel
theorem x_410_130 : decode (q_code 410) 130 = .ok (.ireturn, 1) := by decide +kernel
theorem x_411_0 : decode (q_code 411) 0 = .ok (.iload_n 2, 1) := by decide +kernel
theorem x_411_1 : decode (q_code 411) 1 = .ok (.iconst (-1), 1) := by decide +kernel
theorem x_411_2 : decode (q_code 411) 2 = .ok (.if_icmp .eq 45, 3) := by decide +kernel
theorem x_411_5 : decode (q_code 411) 5 = .ok (.aload_n 0, 1) := by decide +kernel
theorem x_411_6 : decode (q_code 411) 6 = .ok (.iload_n 2, 1) := by decide +kernel
theorem x_411_7 : decode (q_code 411) 7 = .ok (.ldc_w 908, 3) := by decide +kernel
theorem x_411_10 : decode (q_code 411) 10 = .ok (.invokevirtual 325, 3) := by decide +kernel
theorem x_411_13 : decode (q_code 411) 13 = .ok (.ifCond .eq 34, 3) := by decide +kernel
theorem x_411_16 : decode (q_code 411) 16 = .ok (.aload_n 0, 1) := by decide +kernel
theorem x_411_17 : decode (q_code 411) 17 = .ok (.getfield 10, 3) := by decide +kernel
theorem x_411_20 : decode (q_code 411) 20 = .ok (.iload_n 2, 1) := by decide +kernel
theorem x_411_21 : decode (q_code 411) 21 = .ok (.baload, 1) := by decide +kernel
theorem x_411_22 : decode (q_code 411) 22 = .ok (.iconst 4, 1) := by decide +kernel
theorem x_411_23 : decode (q_code 411) 23 = .ok (.if_icmp .ne 24, 3) := by decide +kernel
theorem x_411_26 : decode (q_code 411) 26 = .ok (.aload_n 0, 1) := by decide +kernel
theorem x_411_27 : decode (q_code 411) 27 = .ok (.aload_n 0, 1) := by decide +kernel
theorem x_411_28 : decode (q_code 411) 28 = .ok (.iload_n 2, 1) := by decide +kernel
theorem x_411_29 : decode (q_code 411) 29 = .ok (.invokevirtual 163, 3) := by decide +kernel
theorem x_411_32 : decode (q_code 411) 32 = .ok (.invokevirtual 360, 3) := by decide +kernel
theorem x_411_35 : decode (q_code 411) 35 = .ok (.aload_n 0, 1) := by decide +kernel
theorem x_411_36 : decode (q_code 411) 36 = .ok (.aload_n 0, 1) := by decide +kernel
theorem x_411_37 : decode (q_code 411) 37 = .ok (.iload_n 1, 1) := by decide +kernel
theorem x_411_38 : decode (q_code 411) 38 = .ok (.invokevirtual 163, 3) := by decide +kernel
theorem x_411_41 : decode (q_code 411) 41 = .ok (.invokevirtual 360, 3) := by decide +kernel
theorem x_411_44 : decode (q_code 411) 44 = .ok (.if_icmp .eq 9, 3) := by decide +kernel
theorem x_411_47 : decode (q_code 411) 47 = .ok (.aload_n 0, 1) := by decide +kernel
theorem x_411_48 : decode (q_code 411) 48 = .ok (.iload_n 2, 1) := by decide +kernel
theorem x_411_49 : decode (q_code 411) 49 = .ok (.invokevirtual 883, 3) := by decide +kernel
theorem x_411_52 : decode (q_code 411) 52 = .ok (.ireturn, 1) := by decide +kernel
theorem x_411_53 : decode (q_code 411) 53 = .ok (.aload_n 0, 1) := by decide +kernel
theorem x_411_54 : decode (q_code 411) 54 = .ok (.iload_n 2, 1) := by decide +kernel
theorem x_411_55 : decode (q_code 411) 55 = .ok (.invokevirtual 163, 3) := by decide +kernel
theorem x_411_58 : decode (q_code 411) 58 = .ok (.invokestatic 174, 3) := by decide +kernel
theorem x_411_61 : decode (q_code 411) 61 = .ok (.istore_n 3, 1) := by decide +kernel
theorem x_411_62 : decode (q_code 411) 62 = .ok (.iload_n 3, 1) := by decide +kernel
theorem x_411_63 : decode (q_code 411) 63 = .ok (.aload_n 0, 1) := by decide +kernel
theorem x_411_64 : decode (q_code 411) 64 = .ok (.aload_n 0, 1) := by decide +kernel
theorem x_411_65 : decode (q_code 411) 65 = .ok (.iload_n 2, 1) := by decide +kernel
theorem x_411_66 : decode (q_code 411) 66 = .ok (.invokevirtual 163, 3) := by decide +kernel
theorem x_411_69 : decode (q_code 411) 69 = .ok (.invokevirtual 177, 3) := by decide +kernel
theorem x_411_72 : decode (q_code 411) 72 = .ok (.if_icmp .ge 29, 3) := by decide +kernel
theorem x_411_75 : decode (q_code 411) 75 = .ok (.aload_n 0, 1) := by decide +kernel
theorem x_411_76 : decode (q_code 411) 76 = .ok (.getfield 10, 3) := by decide +kernel
theorem x_411_79 : decode (q_code 411) 79 = .ok (.iload_n 3, 1) := by decide +kernel
theorem x_411_80 : decode (q_code 411) 80 = .ok (.baload, 1) := by decide +kernel
theorem x_411_81 : decode (q_code 411) 81 = .ok (.bipush 8, 2) := by decide +kernel
theorem x_411_83 : decode (q_code 411) 83 = .ok (.if_icmp .eq 9, 3) := by decide +kernel
theorem x_411_86 : decode (q_code 411) 86 = .ok (.aload_n 0, 1) := by decide +kernel
theorem x_411_87 : decode (q_code 411) 87 = .ok (.iload_n 3, 1) := by decide +kernel
theorem x_411_88 : decode (q_code 411) 88 = .ok (.invokevirtual 883, 3) := by decide +kernel
theorem x_411_91 : decode (q_code 411) 91 = .ok (.ireturn, 1) := by decide +kernel
theorem x_411_92 : decode (q_code 411) 92 = .ok (.aload_n 0, 1) := by decide +kernel
theorem x_411_93 : decode (q_code 411) 93 = .ok (.iload_n 3, 1) := by decide +kernel
theorem x_411_94 : decode (q_code 411) 94 = .ok (.invokevirtual 180, 3) := by decide +kernel
theorem x_411_97 : decode (q_code 411) 97 = .ok (.istore_n 3, 1) := by decide +kernel
theorem x_411_98 : decode (q_code 411) 98 = .ok (.goto (-36), 3) := by decide +kernel
theorem x_411_101 : decode (q_code 411) 101 = .ok (.iconst 1, 1) := by decide +kernel
theorem x_411_102 : decode (q_code 411) 102 = .ok (.ireturn, 1) := by decide +kernel
theorem x_412_0 : decode (q_code 412) 0 = .ok (.aload_n 0, 1) := by decide +kernel
theorem x_412_1 : decode (q_code 412) 1 = .ok (.iload_n 1, 1) := by decide +kernel
theorem x_412_2 : decode (q_code 412) 2 = .ok (.invokevirtual 909, 3) := by decide +kernel
theorem x_412_5 : decode (q_code 412) 5 = .ok (.ifCond .eq 5, 3) := by decide +kernel
theorem x_412_8 : decode (q_code 412) 8 = .ok (.iconst 1, 1) := by decide +kernel
theorem x_412_9 : decode (q_code 412) 9 = .ok (.ireturn, 1) := by decide +kernel
theorem x_412_10 : decode (q_code 412) 10 = .ok (.aload_n 0, 1) := by decide +kernel
theorem x_412_11 : decode (q_code 412) 11 = .ok (.dup, 1) := by decide +kernel
theorem x_412_12 : decode (q_code 412) 12 = .ok (.getfield 224, 3) := by decide +kernel
theorem x_412_15 : decode (q_code 412) 15 = .ok (.bipush 10, 2) := by decide +kernel
theorem x_412_17 : decode (q_code 412) 17 = .ok (.iadd, 1) := by decide +kernel
theorem x_412_18 : decode (q_code 412) 18 = .ok (.putfield 224, 3) := by decide +kernel
theorem x_412_21 : decode (q_code 412) 21 = .ok (.iconst 0, 1) := by decide +kernel
theorem x_412_22 : decode (q_code 412) 22 = .ok (.ireturn, 1) := by decide +kernel
theorem x_413_0 : decode (q_code 413) 0 = .ok (.iconst 0, 1) := by decide +kernel
theorem x_413_1 : decode (q_code 413) 1 = .ok (.istore_n 3, 1) := by decide +kernel
theorem x_413_2 : decode (q_code 413) 2 = .ok (.iconst 0, 1) := by decide +kernel
theorem x_413_3 : decode (q_code 413) 3 = .ok (.istore 4, 2) := by decide +kernel
theorem x_413_5 : decode (q_code 413) 5 = .ok (.iload 4, 2) := by decide +kernel
theorem x_413_7 : decode (q_code 413) 7 = .ok (.aload_n 0, 1) := by decide +kernel
theorem x_413_8 : decode (q_code 413) 8 = .ok (.getfield 109, 3) := by decide +kernel
theorem x_413_11 : decode (q_code 413) 11 = .ok (.iload_n 2, 1) := by decide +kernel
theorem x_413_12 : decode (q_code 413) 12 = .ok (.iaload, 1) := by decide +kernel
theorem x_413_13 : decode (q_code 413) 13 = .ok (.if_icmp .ge 46, 3) := by decide +kernel
theorem x_413_16 : decode (q_code 413) 16 = .ok (.aload_n 0, 1) := by decide +kernel
theorem x_413_17 : decode (q_code 413) 17 = .ok (.getfield 127, 3) := by decide +kernel
theorem x_413_20 : decode (q_code 413) 20 = .ok (.iload 4, 2) := by decide +kernel
theorem x_413_22 : decode (q_code 413) 22 = .ok (.aload_n 0, 1) := by decide +kernel
theorem x_413_23 : decode (q_code 413) 23 = .ok (.iload_n 1, 1) := by decide +kernel
theorem x_413_24 : decode (q_code 413) 24 = .ok (.aload_n 0, 1) := by decide +kernel
theorem x_413_25 : decode (q_code 413) 25 = .ok (.iload_n 2, 1) := by decide +kernel
theorem x_413_26 : decode (q_code 413) 26 = .ok (.iload 4, 2) := by decide +kernel
theorem x_413_28 : decode (q_code 413) 28 = .ok (.invokevirtual 912, 3) := by decide +kernel
theorem x_413_31 : decode (q_code 413) 31 = .ok (.invokevirtual 402, 3) := by decide +kernel
theorem x_413_34 : decode (q_code 413) 34 = .ok (.bastore, 1) := by decide +kernel
theorem x_413_35 : decode (q_code 413) 35 = .ok (.iload_n 3, 1) := by decide +kernel
theorem x_413_36 : decode (q_code 413) 36 = .ok (.aload_n 0, 1) := by decide +kernel
theorem x_413_37 : decode (q_code 413) 37 = .ok (.getfield 127, 3) := by decide +kernel
theorem x_413_40 : decode (q_code 413) 40 = .ok (.iload 4, 2) := by decide +kernel
theorem x_413_42 : decode (q_code 413) 42 = .ok (.baload, 1) := by decide +kernel
theorem x_413_43 : decode (q_code 413) 43 = .ok (.ifCond .eq 7, 3) := by decide +kernel
theorem x_413_46 : decode (q_code 413) 46 = .ok (.iconst 1, 1) := by decide +kernel
theorem x_413_47 : decode (q_code 413) 47 = .ok (.goto 4, 3) := by decide +kernel
theorem x_413_50 : decode (q_code 413) 50 = .ok (.iconst 0, 1) := by decide +kernel
theorem x_413_51 : decode (q_code 413) 51 = .ok (.iadd, 1) := by decide +kernel
theorem x_413_52 : decode (q_code 413) 52 = .ok (.istore_n 3, 1) := by decide +kernel
theorem x_413_53 : decode (q_code 413) 53 = .ok (.iinc 4 1, 3) := by decide +kernel
theorem x_413_56 : decode (q_code 413) 56 = .ok (.goto (-51), 3) := by decide +kernel
theorem x_413_59 : decode (q_code 413) 59 = .ok (.iload_n 3, 1) := by decide +kernel
theorem x_413_60 : decode (q_code 413) 60 = .ok (.ireturn, 1) := by decide +kernel
theorem x_414_0 : decode (q_code 414) 0 = .ok (.aload_n 0, 1) := by decide +kernel
theorem x_414_1 : decode (q_code 414) 1 = .ok (.ldc_w 915, 3) := by decide +kernel
theorem x_414_4 : decode (q_code 414) 4 = .ok (.ldc_w 916, 3) := by decide +kernel
theorem x_414_7 : decode (q_code 414) 7 = .ok (.invokevirtual 456, 3) := by decide +kernel
theorem x_414_10 : decode (q_code 414) 10 = .ok (.aload_n 0, 1) := by decide +kernel
theorem x_414_11 : decode (q_code 414) 11 = .ok (.aload_n 0, 1) := by decide +kernel
theorem x_414_12 : decode (q_code 414) 12 = .ok (.invokevirtual 508, 3) := by decide +kernel
theorem x_414_15 : decode (q_code 414) 15 = .ok (.putfield 917, 3) := by decide +kernel
theorem x_414_18 : decode (q_code 414) 18 = .ok (.return_, 1) := by decide +kernel
theorem x_415_0 : decode (q_code 415) 0 = .ok (.aload_n 0, 1) := by decide +kernel
theorem x_415_1 : decode (q_code 415) 1 = .ok (.aload_n 0, 1) := by decide +kernel
theorem x_415_2 : decode (q_code 415) 2 = .ok (.getfield 917, 3) := by decide +kernel
theorem x_415_5 : decode (q_code 415) 5 = .ok (.invokevirtual 514, 3) := by decide +kernel
theorem x_415_8 : decode (q_code 415) 8 = .ok (.aload_n 0, 1) := by decide +kernel
theorem x_415_9 : decode (q_code 415) 9 = .ok (.getfield 200, 3) := by decide +kernel
theorem x_415_12 : decode (q_code 415) 12 = .ok (.ifCond .eq 13, 3) := by decide +kernel
theorem x_415_15 : decode (q_code 415) 15 = .ok (.aload_n 0, 1) := by decide +kernel
theorem x_415_16 : decode (q_code 415) 16 = .ok (.bipush 40, 2) := by decide +kernel
theorem x_415_18 : decode (q_code 415) 18 = .ok (.iconst (-1), 1) := by decide +kernel
theorem x_415_19 : decode (q_code 415) 19 = .ok (.invokevirtual 868, 3) := by decide +kernel
theorem x_415_22 : decode (q_code 415) 22 = .ok (.ifCond .eq 7, 3) := by decide +kernel
theorem x_415_25 : decode (q_code 415) 25 = .ok (.iconst 1, 1) := by decide +kernel
theorem x_415_26 : decode (q_code 415) 26 = .ok (.goto 4, 3) := by decide +kernel
theorem x_415_29 : decode (q_code 415) 29 = .ok (.iconst 0, 1) := by decide +kernel
theorem x_415_30 : decode (q_code 415) 30 = .ok (.ireturn, 1) := by decide +kernel
theorem x_416_0 : decode (q_code 416) 0 = .ok (.aload_n 0, 1) := by decide +kernel
theorem x_416_1 : decode (q_code 416) 1 = .ok (.iconst 0, 1) := by decide +kernel
theorem x_416_2 : decode (q_code 416) 2 = .ok (.iconst 0, 1) := by decide +kernel
theorem x_416_3 : decode (q_code 416) 3 = .ok (.invokevirtual 320, 3) := by decide +kernel
theorem x_416_6 : decode (q_code 416) 6 = .ok (.istore_n 1, 1) := by decide +kernel
theorem x_416_7 : decode (q_code 416) 7 = .ok (.aload_n 0, 1) := by decide +kernel
theorem x_416_8 : decode (q_code 416) 8 = .ok (.aload_n 0, 1) := by decide +kernel
theorem x_416_9 : decode (q_code 416) 9 = .ok (.iconst 0, 1) := by decide +kernel
theorem x_416_10 : decode (q_code 416) 10 = .ok (.iconst 1, 1) := by decide +kernel
theorem x_416_11 : decode (q_code 416) 11 = .ok (.invokevirtual 320, 3) := by decide +kernel
theorem x_416_14 : decode (q_code 416) 14 = .ok (.invokevirtual 273, 3) := by decide +kernel
theorem x_416_17 : decode (q_code 416) 17 = .ok (.l2i, 1) := by decide +kernel
theorem x_416_18 : decode (q_code 416) 18 = .ok (.istore_n 2, 1) := by decide +kernel
theorem x_416_19 : decode (q_code 416) 19 = .ok (.aload_n 0, 1) := by decide +kernel
theorem x_416_20 : decode (q_code 416) 20 = .ok (.iload_n 1, 1) := by decide +kernel
theorem x_416_21 : decode (q_code 416) 21 = .ok (.ldc_w 889, 3) := by decide +kernel
theorem x_416_24 : decode (q_code 416) 24 = .ok (.invokevirtual 325, 3) := by decide +kernel
theorem x_416_27 : decode (q_code 416) 27 = .ok (.ifCond .ne 14, 3) := by decide +kernel
theorem x_416_30 : decode (q_code 416) 30 = .ok (.aload_n 0, 1) := by decide +kernel
theorem x_416_31 : decode (q_code 416) 31 = .ok (.iload_n 1, 1) := by decide +kernel
theorem x_416_32 : decode (q_code 416) 32 = .ok (.ldc_w 891, 3) := by decide +kernel
theorem x_416_35 : decode (q_code 416) 35 = .ok (.invokevirtual 325, 3) := by decide +kernel
theorem x_416_38 : decode (q_code 416) 38 = .ok (.ifCond .eq 10, 3) := by decide +kernel
theorem x_416_41 : decode (q_code 416) 41 = .ok (.aload_n 0, 1) := by decide +kernel
theorem x_416_42 : decode (q_code 416) 42 = .ok (.iload_n 1, 1) := by decide +kernel
theorem x_416_43 : decode (q_code 416) 43 = .ok (.iload_n 2, 1) := by decide +kernel
theorem x_416_44 : decode (q_code 416) 44 = .ok (.invokevirtual 920, 3) := by decide +kernel
theorem x_416_47 : decode (q_code 416) 47 = .ok (.ireturn, 1) := by decide +kernel
theorem x_416_48 : decode (q_code 416) 48 = .ok (.aload_n 0, 1) := by decide +kernel
theorem x_416_49 : decode (q_code 416) 49 = .ok (.iload_n 1, 1) := by decide +kernel
theorem x_416_50 : decode (q_code 416) 50 = .ok (.ldc_w 895, 3) := by decide +kernel
theorem x_416_53 : decode (q_code 416) 53 = .ok (.invokevirtual 325, 3) := by decide +kernel
theorem x_416_56 : decode (q_code 416) 56 = .ok (.ifCond .eq 10, 3) := by decide +kernel
theorem x_416_59 : decode (q_code 416) 59 = .ok (.aload_n 0, 1) := by decide +kernel
theorem x_416_60 : decode (q_code 416) 60 = .ok (.iload_n 1, 1) := by decide +kernel
theorem x_416_61 : decode (q_code 416) 61 = .ok (.iload_n 2, 1) := by decide +kernel
theorem x_416_62 : decode (q_code 416) 62 = .ok (.invokevirtual 923, 3) := by decide +kernel
theorem x_416_65 : decode (q_code 416) 65 = .ok (.ireturn, 1) := by decide +kernel
theorem x_416_66 : decode (q_code 416) 66 = .ok (.aload_n 0, 1) := by decide +kernel
theorem x_416_67 : decode (q_code 416) 67 = .ok (.iload_n 1, 1) := by decide +kernel
theorem x_416_68 : decode (q_code 416) 68 = .ok (.ldc_w 893, 3) := by decide +kernel
theorem x_416_71 : decode (q_code 416) 71 = .ok (.invokevirtual 325, 3) := by decide +kernel
theorem x_416_74 : decode (q_code 416) 74 = .ok (.ifCond .eq 14, 3) := by decide +kernel
theorem x_416_77 : decode (q_code 416) 77 = .ok (.aload_n 0, 1) := by decide +kernel
theorem x_416_78 : decode (q_code 416) 78 = .ok (.aload_n 0, 1) := by decide +kernel
theorem x_416_79 : decode (q_code 416) 79 = .ok (.iload_n 1, 1) := by decide +kernel
theorem x_416_80 : decode (q_code 416) 80 = .ok (.invokevirtual 163, 3) := by decide +kernel
theorem x_416_83 : decode (q_code 416) 83 = .ok (.iload_n 2, 1) := by decide +kernel
theorem x_416_84 : decode (q_code 416) 84 = .ok (.invokevirtual 926, 3) := by decide +kernel
theorem x_416_87 : decode (q_code 416) 87 = .ok (.ireturn, 1) := by decide +kernel
theorem x_416_88 : decode (q_code 416) 88 = .ok (.aload_n 0, 1) := by decide +kernel
theorem x_416_89 : decode (q_code 416) 89 = .ok (.iload_n 1, 1) := by decide +kernel
theorem x_416_90 : decode (q_code 416) 90 = .ok (.ldc_w 873, 3) := by decide +kernel
theorem x_416_93 : decode (q_code 416) 93 = .ok (.invokevirtual 325, 3) := by decide +kernel
theorem x_416_96 : decode (q_code 416) 96 = .ok (.ifCond .eq 14, 3) := by decide +kernel
theorem x_416_99 : decode (q_code 416) 99 = .ok (.aload_n 0, 1) := by decide +kernel
theorem x_416_100 : decode (q_code 416) 100 = .ok (.aload_n 0, 1) := by decide +kernel
theorem x_416_101 : decode (q_code 416) 101 = .ok (.iload_n 1, 1) := by decide +kernel
theorem x_416_102 : decode (q_code 416) 102 = .ok (.invokevirtual 163, 3) := by decide +kernel
theorem x_416_105 : decode (q_code 416) 105 = .ok (.iload_n 2, 1) := by decide +kernel
theorem x_416_106 : decode (q_code 416) 106 = .ok (.invokevirtual 928, 3) := by decide +kernel
theorem x_416_109 : decode (q_code 416) 109 = .ok (.ireturn, 1) := by decide +kernel
theorem x_416_110 : decode (q_code 416) 110 = .ok (.aload_n 0, 1) := by decide +kernel
theorem x_416_111 : decode (q_code 416) 111 = .ok (.iload_n 1, 1) := by decide +kernel
theorem x_416_112 : decode (q_code 416) 112 = .ok (.invokevirtual 163, 3) := by decide +kernel
theorem x_416_115 : decode (q_code 416) 115 = .ok (.istore_n 3, 1) := by decide +kernel
theorem x_416_116 : decode (q_code 416) 116 = .ok (.aload_n 0, 1) := by decide +kernel
theorem x_416_117 : decode (q_code 416) 117 = .ok (.iload_n 3, 1) := by decide +kernel
theorem x_416_118 : decode (q_code 416) 118 = .ok (.invokevirtual 930, 3) := by decide +kernel
theorem x_416_121 : decode (q_code 416) 121 = .ok (.ifCond .ne 5, 3) := by decide +kernel
theorem x_416_124 : decode (q_code 416) 124 = .ok (.iconst 0, 1) := by decide +kernel
theorem x_416_125 : decode (q_code 416) 125 = .ok (.ireturn, 1) := by decide +kernel
theorem x_416_126 : decode (q_code 416) 126 = .ok (.aload_n 0, 1) := by decide +kernel
theorem x_416_127 : decode (q_code 416) 127 = .ok (.iload_n 1, 1) := by decide +kernel
theorem x_416_128 : decode (q_code 416) 128 = .ok (.ldc_w 881, 3) := by decide +kernel
theorem x_416_131 : decode (q_code 416) 131 = .ok (.invokevirtual 325, 3) := by decide +kernel
theorem x_416_134 : decode (q_code 416) 134 = .ok (.ifCond .eq 10, 3) := by decide +kernel
theorem x_416_137 : decode (q_code 416) 137 = .ok (.aload_n 0, 1) := by decide +kernel
theorem x_416_138 : decode (q_code 416) 138 = .ok (.iload_n 3, 1) := by decide +kernel
theorem x_416_139 : decode (q_code 416) 139 = .ok (.iload_n 2, 1) := by decide +kernel
theorem x_416_140 : decode (q_code 416) 140 = .ok (.invokevirtual 933, 3) := by decide +kernel
theorem x_416_143 : decode (q_code 416) 143 = .ok (.ireturn, 1) := by decide +kernel
theorem x_416_144 : decode (q_code 416) 144 = .ok (.aload_n 0, 1) := by decide +kernel
theorem x_416_145 : decode (q_code 416) 145 = .ok (.iload_n 1, 1) := by decide +kernel
theorem x_416_146 : decode (q_code 416) 146 = .ok (.ldc_w 877, 3) := by decide +kernel
theorem x_416_149 : decode (q_code 416) 149 = .ok (.invokevirtual 325, 3) := by decide +kernel
theorem x_416_152 : decode (q_code 416) 152 = .ok (.ifCond .eq 10, 3) := by decide +kernel
theorem x_416_155 : decode (q_code 416) 155 = .ok (.aload_n 0, 1) := by decide +kernel
theorem x_416_156 : decode (q_code 416) 156 = .ok (.iload_n 3, 1) := by decide +kernel
theorem x_416_157 : decode (q_code 416) 157 = .ok (.iload_n 2, 1) := by decide +kernel
theorem x_416_158 : decode (q_code 416) 158 = .ok (.invokevirtual 935, 3) := by decide +kernel
theorem x_416_161 : decode (q_code 416) 161 = .ok (.ireturn, 1) := by decide +kernel
theorem x_416_162 : decode (q_code 416) 162 = .ok (.aload_n 0, 1) := by decide +kernel
theorem x_416_163 : decode (q_code 416) 163 = .ok (.iload_n 3, 1) := by decide +kernel
theorem x_416_164 : decode (q_code 416) 164 = .ok (.iload_n 2, 1) := by decide +kernel
theorem x_416_165 : decode (q_code 416) 165 = .ok (.invokevirtual 937, 3) := by decide +kernel
theorem x_416_168 : decode (q_code 416) 168 = .ok (.istore 4, 2) := by decide +kernel
theorem x_416_170 : decode (q_code 416) 170 = .ok (.aload_n 0, 1) := by decide +kernel
theorem x_416_171 : decode (q_code 416) 171 = .ok (.invokevirtual 940, 3) := by decide +kernel
theorem x_416_174 : decode (q_code 416) 174 = .ok (.aload_n 0, 1) := by decide +kernel
theorem x_416_175 : decode (q_code 416) 175 = .ok (.ldc_w 943, 3) := by decide +kernel
theorem x_416_178 : decode (q_code 416) 178 = .ok (.iload 4, 2) := by decide +kernel
theorem x_416_180 : decode (q_code 416) 180 = .ok (.invokevirtual 944, 3) := by decide +kernel
theorem x_416_183 : decode (q_code 416) 183 = .ok (.aload_n 0, 1) := by decide +kernel
theorem x_416_184 : decode (q_code 416) 184 = .ok (.iload_n 1, 1) := by decide +kernel
theorem x_416_185 : decode (q_code 416) 185 = .ok (.ldc_w 875, 3) := by decide +kernel
theorem x_416_188 : decode (q_code 416) 188 = .ok (.invokevirtual 325, 3) := by decide +kernel
theorem x_416_191 : decode (q_code 416) 191 = .ok (.ifCond .eq 8, 3) := by decide +kernel
theorem x_416_194 : decode (q_code 416) 194 = .ok (.aload_n 0, 1) := by decide +kernel
theorem x_416_195 : decode (q_code 416) 195 = .ok (.iload_n 2, 1) := by decide +kernel
theorem x_416_196 : decode (q_code 416) 196 = .ok (.invokevirtual 948, 3) := by decide +kernel
theorem x_416_199 : decode (q_code 416) 199 = .ok (.aload_n 0, 1) := by decide +kernel
theorem x_416_200 : decode (q_code 416) 200 = .ok (.iload_n 1, 1) := by decide +kernel
theorem x_416_201 : decode (q_code 416) 201 = .ok (.ldc_w 879, 3) := by decide +kernel
theorem x_416_204 : decode (q_code 416) 204 = .ok (.invokevirtual 325, 3) := by decide +kernel
theorem x_416_207 : decode (q_code 416) 207 = .ok (.ifCond .eq 8, 3) := by decide +kernel
theorem x_416_210 : decode (q_code 416) 210 = .ok (.aload_n 0, 1) := by decide +kernel
theorem x_416_211 : decode (q_code 416) 211 = .ok (.iload_n 2, 1) := by decide +kernel
theorem x_416_212 : decode (q_code 416) 212 = .ok (.invokevirtual 951, 3) := by decide +kernel
theorem x_416_215 : decode (q_code 416) 215 = .ok (.aload_n 0, 1) := by decide +kernel
theorem x_416_216 : decode (q_code 416) 216 = .ok (.invokevirtual 954, 3) := by decide +kernel
theorem x_416_219 : decode (q_code 416) 219 = .ok (.ireturn, 1) := by decide +kernel
theorem x_417_0 : decode (q_code 417) 0 = .ok (.aload_n 0, 1) := by decide +kernel
theorem x_417_1 : decode (q_code 417) 1 = .ok (.iconst 4, 1) := by decide +kernel
theorem x_417_2 : decode (q_code 417) 2 = .ok (.invokevirtual 204, 3) := by decide +kernel
theorem x_417_5 : decode (q_code 417) 5 = .ok (.aload_n 0, 1) := by decide +kernel
theorem x_417_6 : decode (q_code 417) 6 = .ok (.ldc_w 958, 3) := by decide +kernel
theorem x_417_9 : decode (q_code 417) 9 = .ok (.invokevirtual 220, 3) := by decide +kernel
theorem x_417_12 : decode (q_code 417) 12 = .ok (.aload_n 0, 1) := by decide +kernel
theorem x_417_13 : decode (q_code 417) 13 = .ok (.invokevirtual 508, 3) := by decide +kernel
theorem x_417_16 : decode (q_code 417) 16 = .ok (.istore_n 2, 1) := by decide +kernel
theorem x_417_17 : decode (q_code 417) 17 = .ok (.iconst 0, 1) := by decide +kernel
theorem x_417_18 : decode (q_code 417) 18 = .ok (.istore_n 3, 1) := by decide +kernel
theorem x_417_19 : decode (q_code 417) 19 = .ok (.iconst 0, 1) := by decide +kernel
theorem x_417_20 : decode (q_code 417) 20 = .ok (.istore 4, 2) := by decide +kernel
theorem x_417_22 : decode (q_code 417) 22 = .ok (.iload 4, 2) := by decide +kernel
theorem x_417_24 : decode (q_code 417) 24 = .ok (.aload_n 0, 1) := by decide +kernel
theorem x_417_25 : decode (q_code 417) 25 = .ok (.getfield 109, 3) := by decide +kernel
theorem x_417_28 : decode (q_code 417) 28 = .ok (.iload_n 1, 1) := by decide +kernel
theorem x_417_29 : decode (q_code 417) 29 = .ok (.iaload, 1) := by decide +kernel
theorem x_417_30 : decode (q_code 417) 30 = .ok (.if_icmp .ge 109, 3) := by decide +kernel
theorem x_417_33 : decode (q_code 417) 33 = .ok (.aload_n 0, 1) := by decide +kernel
theorem x_417_34 : decode (q_code 417) 34 = .ok (.getfield 127, 3) := by decide +kernel
theorem x_417_37 : decode (q_code 417) 37 = .ok (.iload 4, 2) := by decide +kernel
theorem x_417_39 : decode (q_code 417) 39 = .ok (.baload, 1) := by decide +kernel
theorem x_417_40 : decode (q_code 417) 40 = .ok (.ifCond .ne 6, 3) := by decide +kernel
theorem x_417_43 : decode (q_code 417) 43 = .ok (.goto 90, 3) := by decide +kernel
theorem x_417_46 : decode (q_code 417) 46 = .ok (.aload_n 0, 1) := by decide +kernel
theorem x_417_47 : decode (q_code 417) 47 = .ok (.iconst 3, 1) := by decide +kernel
theorem x_417_48 : decode (q_code 417) 48 = .ok (.invokevirtual 204, 3) := by decide +kernel
theorem x_417_51 : decode (q_code 417) 51 = .ok (.aload_n 0, 1) := by decide +kernel
theorem x_417_52 : decode (q_code 417) 52 = .ok (.iload_n 3, 1) := by decide +kernel
theorem x_417_53 : decode (q_code 417) 53 = .ok (.invokevirtual 511, 3) := by decide +kernel
theorem x_417_56 : decode (q_code 417) 56 = .ok (.aload_n 0, 1) := by decide +kernel
theorem x_417_57 : decode (q_code 417) 57 = .ok (.invokevirtual 508, 3) := by decide +kernel
theorem x_417_60 : decode (q_code 417) 60 = .ok (.istore 5, 2) := by decide +kernel
theorem x_417_62 : decode (q_code 417) 62 = .ok (.aload_n 0, 1) := by decide +kernel
theorem x_417_63 : decode (q_code 417) 63 = .ok (.ldc_w 959, 3) := by decide +kernel
theorem x_417_66 : decode (q_code 417) 66 = .ok (.aload_n 0, 1) := by decide +kernel
theorem x_417_67 : decode (q_code 417) 67 = .ok (.getfield 121, 3) := by decide +kernel
theorem x_417_70 : decode (q_code 417) 70 = .ok (.sipush 200, 3) := by decide +kernel
theorem x_417_73 : decode (q_code 417) 73 = .ok (.iload_n 1, 1) := by decide +kernel
theorem x_417_74 : decode (q_code 417) 74 = .ok (.imul, 1) := by decide +kernel
theorem x_417_75 : decode (q_code 417) 75 = .ok (.iload 4, 2) := by decide +kernel
theorem x_417_77 : decode (q_code 417) 77 = .ok (.iadd, 1) := by decide +kernel
theorem x_417_78 : decode (q_code 417) 78 = .ok (.iaload, 1) := by decide +kernel
theorem x_417_79 : decode (q_code 417) 79 = .ok (.invokevirtual 944, 3) := by decide +kernel
theorem x_417_82 : decode (q_code 417) 82 = .ok (.aload_n 0, 1) := by decide +kernel
theorem x_417_83 : decode (q_code 417) 83 = .ok (.iconst 3, 1) := by decide +kernel
theorem x_417_84 : decode (q_code 417) 84 = .ok (.invokevirtual 204, 3) := by decide +kernel
theorem x_417_87 : decode (q_code 417) 87 = .ok (.aload_n 0, 1) := by decide +kernel
theorem x_417_88 : decode (q_code 417) 88 = .ok (.ldc_w 960, 3) := by decide +kernel
theorem x_417_91 : decode (q_code 417) 91 = .ok (.invokevirtual 220, 3) := by decide +kernel
theorem x_417_94 : decode (q_code 417) 94 = .ok (.aload_n 0, 1) := by decide +kernel
theorem x_417_95 : decode (q_code 417) 95 = .ok (.aload_n 0, 1) := by decide +kernel
theorem x_417_96 : decode (q_code 417) 96 = .ok (.iload_n 1, 1) := by decide +kernel
theorem x_417_97 : decode (q_code 417) 97 = .ok (.iload 4, 2) := by decide +kernel
theorem x_417_99 : decode (q_code 417) 99 = .ok (.invokevirtual 912, 3) := by decide +kernel
theorem x_417_102 : decode (q_code 417) 102 = .ok (.aload_n 0, 1) := by decide +kernel
theorem x_417_103 : decode (q_code 417) 103 = .ok (.iload_n 1, 1) := by decide +kernel
theorem x_417_104 : decode (q_code 417) 104 = .ok (.iload 4, 2) := by decide +kernel
theorem x_417_106 : decode (q_code 417) 106 = .ok (.invokevirtual 912, 3) := by decide +kernel
theorem x_417_109 : decode (q_code 417) 109 = .ok (.aload_n 0, 1) := by decide +kernel
theorem x_417_110 : decode (q_code 417) 110 = .ok (.aload_n 0, 1) := by decide +kernel
theorem x_417_111 : decode (q_code 417) 111 = .ok (.iload_n 1, 1) := by decide +kernel
theorem x_417_112 : decode (q_code 417) 112 = .ok (.iload 4, 2) := by decide +kernel
theorem x_417_114 : decode (q_code 417) 114 = .ok (.invokevirtual 912, 3) := by decide +kernel
theorem x_417_117 : decode (q_code 417) 117 = .ok (.invokevirtual 145, 3) := by decide +kernel
theorem x_417_120 : decode (q_code 417) 120 = .ok (.iadd, 1) := by decide +kernel
theorem x_417_121 : decode (q_code 417) 121 = .ok (.invokevirtual 214, 3) := by decide +kernel
theorem x_417_124 : decode (q_code 417) 124 = .ok (.aload_n 0, 1) := by decide +kernel
theorem x_417_125 : decode (q_code 417) 125 = .ok (.iload 5, 2) := by decide +kernel
theorem x_417_127 : decode (q_code 417) 127 = .ok (.invokevirtual 514, 3) := by decide +kernel
theorem x_417_130 : decode (q_code 417) 130 = .ok (.iinc 3 1, 3) := by decide +kernel
theorem x_417_133 : decode (q_code 417) 133 = .ok (.iinc 4 1, 3) := by decide +kernel
theorem x_417_136 : decode (q_code 417) 136 = .ok (.goto (-114), 3) := by decide +kernel
theorem x_417_139 : decode (q_code 417) 139 = .ok (.aload_n 0, 1) := by decide +kernel
theorem x_417_140 : decode (q_code 417) 140 = .ok (.iload_n 2, 1) := by decide +kernel
theorem x_417_141 : decode (q_code 417) 141 = .ok (.invokevirtual 514, 3) := by decide +kernel
theorem x_417_144 : decode (q_code 417) 144 = .ok (.return_, 1) := by decide +kernel
theorem x_418_0 : decode (q_code 418) 0 = .ok (.aload_n 0, 1) := by decide +kernel
theorem x_418_1 : decode (q_code 418) 1 = .ok (.getfield 194, 3) := by decide +kernel
theorem x_418_4 : decode (q_code 418) 4 = .ok (.istore_n 2, 1) := by decide +kernel
theorem x_418_5 : decode (q_code 418) 5 = .ok (.aload_n 0, 1) := by decide +kernel
theorem x_418_6 : decode (q_code 418) 6 = .ok (.getfield 197, 3) := by decide +kernel
theorem x_418_9 : decode (q_code 418) 9 = .ok (.istore_n 3, 1) := by decide +kernel
theorem x_418_10 : decode (q_code 418) 10 = .ok (.iconst 0, 1) := by decide +kernel
theorem x_418_11 : decode (q_code 418) 11 = .ok (.istore 4, 2) := by decide +kernel
theorem x_418_13 : decode (q_code 418) 13 = .ok (.iload 4, 2) := by decide +kernel
theorem x_418_15 : decode (q_code 418) 15 = .ok (.aload_n 0, 1) := by decide +kernel
theorem x_418_16 : decode (q_code 418) 16 = .ok (.getfield 109, 3) := by decide +kernel
theorem x_418_19 : decode (q_code 418) 19 = .ok (.iload_n 1, 1) := by decide +kernel
theorem x_418_20 : decode (q_code 418) 20 = .ok (.iaload, 1) := by decide +kernel
theorem x_418_21 : decode (q_code 418) 21 = .ok (.if_icmp .ge 119, 3) := by decide +kernel
theorem x_418_24 : decode (q_code 418) 24 = .ok (.aload_n 0, 1) := by decide +kernel
theorem x_418_25 : decode (q_code 418) 25 = .ok (.getfield 127, 3) := by decide +kernel
theorem x_418_28 : decode (q_code 418) 28 = .ok (.iload 4, 2) := by decide +kernel
theorem x_418_30 : decode (q_code 418) 30 = .ok (.baload, 1) := by decide +kernel
theorem x_418_31 : decode (q_code 418) 31 = .ok (.ifCond .ne 6, 3) := by decide +kernel
theorem x_418_34 : decode (q_code 418) 34 = .ok (.goto 100, 3) := by decide +kernel
theorem x_418_37 : decode (q_code 418) 37 = .ok (.iconst 4, 1) := by decide +kernel
theorem x_418_38 : decode (q_code 418) 38 = .ok (.iload_n 1, 1) := by decide +kernel
theorem x_418_39 : decode (q_code 418) 39 = .ok (.imul, 1) := by decide +kernel
theorem x_418_40 : decode (q_code 418) 40 = .ok (.istore 5, 2) := by decide +kernel
theorem x_418_42 : decode (q_code 418) 42 = .ok (.iload 5, 2) := by decide +kernel
theorem x_418_44 : decode (q_code 418) 44 = .ok (.iconst 4, 1) := by decide +kernel
theorem x_418_45 : decode (q_code 418) 45 = .ok (.iload_n 1, 1) := by decide +kernel
theorem x_418_46 : decode (q_code 418) 46 = .ok (.imul, 1) := by decide +kernel
theorem x_418_47 : decode (q_code 418) 47 = .ok (.iconst 4, 1) := by decide +kernel
theorem x_418_48 : decode (q_code 418) 48 = .ok (.iadd, 1) := by decide +kernel
theorem x_418_49 : decode (q_code 418) 49 = .ok (.if_icmp .ge 46, 3) := by decide +kernel
theorem x_418_52 : decode (q_code 418) 52 = .ok (.aload_n 0, 1) := by decide +kernel
theorem x_418_53 : decode (q_code 418) 53 = .ok (.getfield 43, 3) := by decide +kernel
theorem x_418_56 : decode (q_code 418) 56 = .ok (.iload 5, 2) := by decide +kernel
theorem x_418_58 : decode (q_code 418) 58 = .ok (.baload, 1) := by decide +kernel
theorem x_418_59 : decode (q_code 418) 59 = .ok (.ifCond .eq 30, 3) := by decide +kernel
theorem x_418_62 : decode (q_code 418) 62 = .ok (.aload_n 0, 1) := by decide +kernel
theorem x_418_63 : decode (q_code 418) 63 = .ok (.iload 5, 2) := by decide +kernel
theorem x_418_65 : decode (q_code 418) 65 = .ok (.aload_n 0, 1) := by decide +kernel
theorem x_418_66 : decode (q_code 418) 66 = .ok (.iload_n 1, 1) := by decide +kernel
theorem x_418_67 : decode (q_code 418) 67 = .ok (.iload 4, 2) := by decide +kernel
theorem x_418_69 : decode (q_code 418) 69 = .ok (.invokevirtual 912, 3) := by decide +kernel
theorem x_418_72 : decode (q_code 418) 72 = .ok (.aload_n 0, 1) := by decide +kernel
theorem x_418_73 : decode (q_code 418) 73 = .ok (.getfield 121, 3) := by decide +kernel
theorem x_418_76 : decode (q_code 418) 76 = .ok (.sipush 200, 3) := by decide +kernel
theorem x_418_79 : decode (q_code 418) 79 = .ok (.iload_n 1, 1) := by decide +kernel
theorem x_418_80 : decode (q_code 418) 80 = .ok (.imul, 1) := by decide +kernel
theorem x_418_81 : decode (q_code 418) 81 = .ok (.iload 4, 2) := by decide +kernel
theorem x_418_83 : decode (q_code 418) 83 = .ok (.iadd, 1) := by decide +kernel
theorem x_418_84 : decode (q_code 418) 84 = .ok (.iaload, 1) := by decide +kernel
theorem x_418_85 : decode (q_code 418) 85 = .ok (.iconst 0, 1) := by decide +kernel
theorem x_418_86 : decode (q_code 418) 86 = .ok (.invokevirtual 961, 3) := by decide +kernel
theorem x_418_89 : decode (q_code 418) 89 = .ok (.iinc 5 1, 3) := by decide +kernel
theorem x_418_92 : decode (q_code 418) 92 = .ok (.goto (-50), 3) := by decide +kernel
theorem x_418_95 : decode (q_code 418) 95 = .ok (.aload_n 0, 1) := by decide +kernel
theorem x_418_96 : decode (q_code 418) 96 = .ok (.getfield 112, 3) := by decide +kernel
theorem x_418_99 : decode (q_code 418) 99 = .ok (.iload_n 1, 1) := by decide +kernel
theorem x_418_100 : decode (q_code 418) 100 = .ok (.dup2, 1) := by decide +kernel
theorem x_418_101 : decode (q_code 418) 101 = .ok (.iaload, 1) := by decide +kernel
theorem x_418_102 : decode (q_code 418) 102 = .ok (.aload_n 0, 1) := by decide +kernel
theorem x_418_103 : decode (q_code 418) 103 = .ok (.aload_n 0, 1) := by decide +kernel
theorem x_418_104 : decode (q_code 418) 104 = .ok (.iload_n 1, 1) := by decide +kernel
theorem x_418_105 : decode (q_code 418) 105 = .ok (.iload 4, 2) := by decide +kernel
theorem x_418_107 : decode (q_code 418) 107 = .ok (.invokevirtual 912, 3) := by decide +kernel
theorem x_418_110 : decode (q_code 418) 110 = .ok (.invokevirtual 145, 3) := by decide +kernel
theorem x_418_113 : decode (q_code 418) 113 = .ok (.isub, 1) := by decide +kernel
theorem x_418_114 : decode (q_code 418) 114 = .ok (.iastore, 1) := by decide +kernel
theorem x_418_115 : decode (q_code 418) 115 = .ok (.aload_n 0, 1) := by decide +kernel
theorem x_418_116 : decode (q_code 418) 116 = .ok (.getfield 124, 3) := by decide +kernel
theorem x_418_119 : decode (q_code 418) 119 = .ok (.aload_n 0, 1) := by decide +kernel
theorem x_418_120 : decode (q_code 418) 120 = .ok (.getfield 118, 3) := by decide +kernel
theorem x_418_123 : decode (q_code 418) 123 = .ok (.sipush 200, 3) := by decide +kernel
theorem x_418_126 : decode (q_code 418) 126 = .ok (.iload_n 1, 1) := by decide +kernel
theorem x_418_127 : decode (q_code 418) 127 = .ok (.imul, 1) := by decide +kernel
theorem x_418_128 : decode (q_code 418) 128 = .ok (.iload 4, 2) := by decide +kernel
theorem x_418_130 : decode (q_code 418) 130 = .ok (.iadd, 1) := by decide +kernel
theorem x_418_131 : decode (q_code 418) 131 = .ok (.iaload, 1) := by decide +kernel
theorem x_418_132 : decode (q_code 418) 132 = .ok (.iconst 0, 1) := by decide +kernel
theorem x_418_133 : decode (q_code 418) 133 = .ok (.bastore, 1) := by decide +kernel
theorem x_418_134 : decode (q_code 418) 134 = .ok (.iinc 4 1, 3) := by decide +kernel
theorem x_418_137 : decode (q_code 418) 137 = .ok (.goto (-124), 3) := by decide +kernel
theorem x_418_140 : decode (q_code 418) 140 = .ok (.iconst 0, 1) := by decide +kernel
theorem x_418_141 : decode (q_code 418) 141 = .ok (.istore 4, 2) := by decide +kernel
theorem x_418_143 : decode (q_code 418) 143 = .ok (.iconst 0, 1) := by decide +kernel
theorem x_418_144 : decode (q_code 418) 144 = .ok (.istore 5, 2) := by decide +kernel
theorem x_418_146 : decode (q_code 418) 146 = .ok (.iload 5, 2) := by decide +kernel
theorem x_418_148 : decode (q_code 418) 148 = .ok (.aload_n 0, 1) := by decide +kernel
theorem x_418_149 : decode (q_code 418) 149 = .ok (.getfield 109, 3) := by decide +kernel
theorem x_418_152 : decode (q_code 418) 152 = .ok (.iload_n 1, 1) := by decide +kernel
theorem x_418_153 : decode (q_code 418) 153 = .ok (.iaload, 1) := by decide +kernel
theorem x_418_154 : decode (q_code 418) 154 = .ok (.if_icmp .ge 77, 3) := by decide +kernel
theorem x_418_157 : decode (q_code 418) 157 = .ok (.aload_n 0, 1) := by decide +kernel
theorem x_418_158 : decode (q_code 418) 158 = .ok (.getfield 127, 3) := by decide +kernel
theorem x_418_161 : decode (q_code 418) 161 = .ok (.iload 5, 2) := by decide +kernel
theorem x_418_163 : decode (q_code 418) 163 = .ok (.baload, 1) := by decide +kernel
theorem x_418_164 : decode (q_code 418) 164 = .ok (.ifCond .eq 6, 3) := by decide +kernel
theorem x_418_167 : decode (q_code 418) 167 = .ok (.goto 58, 3) := by decide +kernel
theorem x_418_170 : decode (q_code 418) 170 = .ok (.aload_n 0, 1) := by decide +kernel
theorem x_418_171 : decode (q_code 418) 171 = .ok (.getfield 118, 3) := by decide +kernel
theorem x_418_174 : decode (q_code 418) 174 = .ok (.sipush 200, 3) := by decide +kernel
theorem x_418_177 : decode (q_code 418) 177 = .ok (.iload_n 1, 1) := by decide +kernel
theorem x_418_178 : decode (q_code 418) 178 = .ok (.imul, 1) := by decide +kernel
theorem x_418_179 : decode (q_code 418) 179 = .ok (.iload 4, 2) := by decide +kernel
theorem x_418_181 : decode (q_code 418) 181 = .ok (.iadd, 1) := by decide +kernel
theorem x_418_182 : decode (q_code 418) 182 = .ok (.aload_n 0, 1) := by decide +kernel
theorem x_418_183 : decode (q_code 418) 183 = .ok (.getfield 118, 3) := by decide +kernel
theorem x_418_186 : decode (q_code 418) 186 = .ok (.sipush 200, 3) := by decide +kernel
theorem x_418_189 : decode (q_code 418) 189 = .ok (.iload_n 1, 1) := by decide +kernel
theorem x_418_190 : decode (q_code 418) 190 = .ok (.imul, 1) := by decide +kernel
theorem x_418_191 : decode (q_code 418) 191 = .ok (.iload 5, 2) := by decide +kernel
theorem x_418_193 : decode (q_code 418) 193 = .ok (.iadd, 1) := by decide +kernel
theorem x_418_194 : decode (q_code 418) 194 = .ok (.iaload, 1) := by decide +kernel
theorem x_418_195 : decode (q_code 418) 195 = .ok (.iastore, 1) := by decide +kernel
theorem x_418_196 : decode (q_code 418) 196 = .ok (.aload_n 0, 1) := by decide +kernel
theorem x_418_197 : decode (q_code 418) 197 = .ok (.getfield 121, 3) := by decide +kernel
theorem x_418_200 : decode (q_code 418) 200 = .ok (.sipush 200, 3) := by decide +kernel
theorem x_418_203 : decode (q_code 418) 203 = .ok (.iload_n 1, 1) := by decide +kernel
theorem x_418_204 : decode (q_code 418) 204 = .ok (.imul, 1) := by decide +kernel
theorem x_418_205 : decode (q_code 418) 205 = .ok (.iload 4, 2) := by decide +kernel
theorem x_418_207 : decode (q_code 418) 207 = .ok (.iadd, 1) := by decide +kernel
theorem x_418_208 : decode (q_code 418) 208 = .ok (.aload_n 0, 1) := by decide +kernel
theorem x_418_209 : decode (q_code 418) 209 = .ok (.getfield 121, 3) := by decide +kernel
theorem x_418_212 : decode (q_code 418) 212 = .ok (.sipush 200, 3) := by decide +kernel
theorem x_418_215 : decode (q_code 418) 215 = .ok (.iload_n 1, 1) := by decide +kernel
theorem x_418_216 : decode (q_code 418) 216 = .ok (.imul, 1) := by decide +kernel
theorem x_418_217 : decode (q_code 418) 217 = .ok (.iload 5, 2) := by decide +kernel
theorem x_418_219 : decode (q_code 418) 219 = .ok (.iadd, 1) := by decide +kernel
theorem x_418_220 : decode (q_code 418) 220 = .ok (.iaload, 1) := by decide +kernel
theorem x_418_221 : decode (q_code 418) 221 = .ok (.iastore, 1) := by decide +kernel
theorem x_418_222 : decode (q_code 418) 222 = .ok (.iinc 4 1, 3) := by decide +kernel
theorem x_418_225 : decode (q_code 418) 225 = .ok (.iinc 5 1, 3) := by decide +kernel
theorem x_418_228 : decode (q_code 418) 228 = .ok (.goto (-82), 3) := by decide +kernel
theorem x_418_231 : decode (q_code 418) 231 = .ok (.aload_n 0, 1) := by decide +kernel
theorem x_418_232 : decode (q_code 418) 232 = .ok (.getfield 109, 3) := by decide +kernel
theorem x_418_235 : decode (q_code 418) 235 = .ok (.iload_n 1, 1) := by decide +kernel
theorem x_418_236 : decode (q_code 418) 236 = .ok (.iload 4, 2) := by decide +kernel
theorem x_418_238 : decode (q_code 418) 238 = .ok (.iastore, 1) := by decide +kernel
theorem x_418_239 : decode (q_code 418) 239 = .ok (.aload_n 0, 1) := by decide +kernel
theorem x_418_240 : decode (q_code 418) 240 = .ok (.iload_n 2, 1) := by decide +kernel
theorem x_418_241 : decode (q_code 418) 241 = .ok (.putfield 194, 3) := by decide +kernel
theorem x_418_244 : decode (q_code 418) 244 = .ok (.aload_n 0, 1) := by decide +kernel
theorem x_418_245 : decode (q_code 418) 245 = .ok (.iload_n 3, 1) := by decide +kernel
theorem x_418_246 : decode (q_code 418) 246 = .ok (.putfield 197, 3) := by decide +kernel
theorem x_418_249 : decode (q_code 418) 249 = .ok (.aload_n 0, 1) := by decide +kernel
theorem x_418_250 : decode (q_code 418) 250 = .ok (.iconst 0, 1) := by decide +kernel
theorem x_418_251 : decode (q_code 418) 251 = .ok (.putfield 200, 3) := by decide +kernel
theorem x_418_254 : decode (q_code 418) 254 = .ok (.return_, 1) := by decide +kernel
theorem x_419_0 : decode (q_code 419) 0 = .ok (.aload_n 0, 1) := by decide +kernel
theorem x_419_1 : decode (q_code 419) 1 = .ok (.iload_n 1, 1) := by decide +kernel
theorem x_419_2 : decode (q_code 419) 2 = .ok (.invokevirtual 145, 3) := by decide +kernel
theorem x_419_5 : decode (q_code 419) 5 = .ok (.istore_n 3, 1) := by decide +kernel
theorem x_419_6 : decode (q_code 419) 6 = .ok (.aload_n 0, 1) := by decide +kernel
theorem x_419_7 : decode (q_code 419) 7 = .ok (.getfield 109, 3) := by decide +kernel
theorem x_419_10 : decode (q_code 419) 10 = .ok (.iload_n 2, 1) := by decide +kernel
theorem x_419_11 : decode (q_code 419) 11 = .ok (.iaload, 1) := by decide +kernel
theorem x_419_12 : decode (q_code 419) 12 = .ok (.sipush 200, 3) := by decide +kernel
theorem x_419_15 : decode (q_code 419) 15 = .ok (.if_icmp .ge 21, 3) := by decide +kernel
theorem x_419_18 : decode (q_code 419) 18 = .ok (.aload_n 0, 1) := by decide +kernel
theorem x_419_19 : decode (q_code 419) 19 = .ok (.getfield 112, 3) := by decide +kernel
theorem x_419_22 : decode (q_code 419) 22 = .ok (.iload_n 2, 1) := by decide +kernel
theorem x_419_23 : decode (q_code 419) 23 = .ok (.iaload, 1) := by decide +kernel
theorem x_419_24 : decode (q_code 419) 24 = .ok (.iload_n 3, 1) := by decide +kernel
theorem x_419_25 : decode (q_code 419) 25 = .ok (.iadd, 1) := by decide +kernel
theorem x_419_26 : decode (q_code 419) 26 = .ok (.ldc_w 621, 3) := by decide +kernel
theorem x_419_29 : decode (q_code 419) 29 = .ok (.if_icmp .gt 7, 3) := by decide +kernel
theorem x_419_32 : decode (q_code 419) 32 = .ok (.iconst 1, 1) := by decide +kernel
theorem x_419_33 : decode (q_code 419) 33 = .ok (.goto 4, 3) := by decide +kernel
theorem x_419_36 : decode (q_code 419) 36 = .ok (.iconst 0, 1) := by decide +kernel
theorem x_419_37 : decode (q_code 419) 37 = .ok (.istore 4, 2) := by decide +kernel
theorem x_419_39 : decode (q_code 419) 39 = .ok (.aload_n 0, 1) := by decide +kernel
theorem x_419_40 : decode (q_code 419) 40 = .ok (.getfield 297, 3) := by decide +kernel
theorem x_419_43 : decode (q_code 419) 43 = .ok (.istore 5, 2) := by decide +kernel
theorem x_419_45 : decode (q_code 419) 45 = .ok (.aload_n 0, 1) := by decide +kernel
theorem x_419_46 : decode (q_code 419) 46 = .ok (.iconst 0, 1) := by decide +kernel
theorem x_419_47 : decode (q_code 419) 47 = .ok (.putfield 712, 3) := by decide +kernel
theorem x_419_50 : decode (q_code 419) 50 = .ok (.iconst 4, 1) := by decide +kernel
theorem x_419_51 : decode (q_code 419) 51 = .ok (.iload_n 2, 1) := by decide +kernel
theorem x_419_52 : decode (q_code 419) 52 = .ok (.imul, 1) := by decide +kernel
theorem x_419_53 : decode (q_code 419) 53 = .ok (.istore 6, 2) := by decide +kernel
theorem x_419_55 : decode (q_code 419) 55 = .ok (.iload 6, 2) := by decide +kernel
theorem x_419_57 : decode (q_code 419) 57 = .ok (.iconst 4, 1) := by decide +kernel
theorem x_419_58 : decode (q_code 419) 58 = .ok (.iload_n 2, 1) := by decide +kernel
theorem x_419_59 : decode (q_code 419) 59 = .ok (.imul, 1) := by decide +kernel
theorem x_419_60 : decode (q_code 419) 60 = .ok (.iconst 4, 1) := by decide +kernel
theorem x_419_61 : decode (q_code 419) 61 = .ok (.iadd, 1) := by decide +kernel
theorem x_419_62 : decode (q_code 419) 62 = .ok (.if_icmp .ge 59, 3) := by decide +kernel
theorem x_419_65 : decode (q_code 419) 65 = .ok (.aload_n 0, 1) := by decide +kernel
theorem x_419_66 : decode (q_code 419) 66 = .ok (.getfield 43, 3) := by decide +kernel
theorem x_419_69 : decode (q_code 419) 69 = .ok (.iload 6, 2) := by decide +kernel
theorem x_419_71 : decode (q_code 419) 71 = .ok (.baload, 1) := by decide +kernel
theorem x_419_72 : decode (q_code 419) 72 = .ok (.ifCond .ne 6, 3) := by decide +kernel
theorem x_419_75 : decode (q_code 419) 75 = .ok (.goto 40, 3) := by decide +kernel
theorem x_419_78 : decode (q_code 419) 78 = .ok (.iload 4, 2) := by decide +kernel
theorem x_419_80 : decode (q_code 419) 80 = .ok (.aload_n 0, 1) := by decide +kernel
theorem x_419_81 : decode (q_code 419) 81 = .ok (.getfield 88, 3) := by decide +kernel
theorem x_419_84 : decode (q_code 419) 84 = .ok (.iload 6, 2) := by decide +kernel
theorem x_419_86 : decode (q_code 419) 86 = .ok (.iaload, 1) := by decide +kernel
theorem x_419_87 : decode (q_code 419) 87 = .ok (.aload_n 0, 1) := by decide +kernel
theorem x_419_88 : decode (q_code 419) 88 = .ok (.iload 6, 2) := by decide +kernel
theorem x_419_90 : decode (q_code 419) 90 = .ok (.iload_n 1, 1) := by decide +kernel
theorem x_419_91 : decode (q_code 419) 91 = .ok (.invokevirtual 736, 3) := by decide +kernel
theorem x_419_94 : decode (q_code 419) 94 = .ok (.iadd, 1) := by decide +kernel
theorem x_419_95 : decode (q_code 419) 95 = .ok (.sipush 1000, 3) := by decide +kernel
theorem x_419_98 : decode (q_code 419) 98 = .ok (.if_icmp .gt 7, 3) := by decide +kernel
theorem x_419_101 : decode (q_code 419) 101 = .ok (.iconst 1, 1) := by decide +kernel
theorem x_419_102 : decode (q_code 419) 102 = .ok (.goto 4, 3) := by decide +kernel
theorem x_419_105 : decode (q_code 419) 105 = .ok (.iconst 0, 1) := by decide +kernel
theorem x_419_106 : decode (q_code 419) 106 = .ok (.iand, 1) := by decide +kernel
theorem x_419_107 : decode (q_code 419) 107 = .ok (.istore 4, 2) := by decide +kernel
theorem x_419_109 : decode (q_code 419) 109 = .ok (.aload_n 0, 1) := by decide +kernel
theorem x_419_110 : decode (q_code 419) 110 = .ok (.iload 5, 2) := by decide +kernel
theorem x_419_112 : decode (q_code 419) 112 = .ok (.putfield 297, 3) := by decide +kernel
theorem x_419_115 : decode (q_code 419) 115 = .ok (.iinc 6 1, 3) := by decide +kernel
theorem x_419_118 : decode (q_code 419) 118 = .ok (.goto (-63), 3) := by decide +kernel
theorem x_419_121 : decode (q_code 419) 121 = .ok (.iload 4, 2) := by decide +kernel
theorem x_419_123 : decode (q_code 419) 123 = .ok (.ifCond .eq 10, 3) := by decide +kernel
theorem x_419_126 : decode (q_code 419) 126 = .ok (.aload_n 0, 1) := by decide +kernel
theorem x_419_127 : decode (q_code 419) 127 = .ok (.getfield 712, 3) := by decide +kernel
theorem x_419_130 : decode (q_code 419) 130 = .ok (.ifCond .eq 11, 3) := by decide +kernel
theorem x_419_133 : decode (q_code 419) 133 = .ok (.aload_n 0, 1) := by decide +kernel
theorem x_419_134 : decode (q_code 419) 134 = .ok (.bipush 40, 2) := by decide +kernel
theorem x_419_136 : decode (q_code 419) 136 = .ok (.iconst (-1), 1) := by decide +kernel
theorem x_419_137 : decode (q_code 419) 137 = .ok (.invokevirtual 868, 3) := by decide +kernel
theorem x_419_140 : decode (q_code 419) 140 = .ok (.ireturn, 1) := by decide +kernel
theorem x_419_141 : decode (q_code 419) 141 = .ok (.aload_n 0, 1) := by decide +kernel
theorem x_419_142 : decode (q_code 419) 142 = .ok (.getfield 109, 3) := by decide +kernel
theorem x_419_145 : decode (q_code 419) 145 = .ok (.iload_n 2, 1) := by decide +kernel
theorem x_419_146 : decode (q_code 419) 146 = .ok (.iaload, 1) := by decide +kernel
theorem x_419_147 : decode (q_code 419) 147 = .ok (.istore 6, 2) := by decide +kernel
theorem x_419_149 : decode (q_code 419) 149 = .ok (.sipush 200, 3) := by decide +kernel
theorem x_419_152 : decode (q_code 419) 152 = .ok (.iload_n 2, 1) := by decide +kernel
theorem x_419_153 : decode (q_code 419) 153 = .ok (.imul, 1) := by decide +kernel
theorem x_419_154 : decode (q_code 419) 154 = .ok (.istore 7, 2) := by decide +kernel
theorem x_419_156 : decode (q_code 419) 156 = .ok (.aload_n 0, 1) := by decide +kernel
theorem x_419_157 : decode (q_code 419) 157 = .ok (.getfield 124, 3) := by decide +kernel
theorem x_419_160 : decode (q_code 419) 160 = .ok (.iload 7, 2) := by decide +kernel
theorem x_419_162 : decode (q_code 419) 162 = .ok (.baload, 1) := by decide +kernel
theorem x_419_163 : decode (q_code 419) 163 = .ok (.ifCond .eq 9, 3) := by decide +kernel
theorem x_419_166 : decode (q_code 419) 166 = .ok (.iinc 7 1, 3) := by decide +kernel
theorem x_419_169 : decode (q_code 419) 169 = .ok (.goto (-13), 3) := by decide +kernel
theorem x_419_172 : decode (q_code 419) 172 = .ok (.aload_n 0, 1) := by decide +kernel
theorem x_419_173 : decode (q_code 419) 173 = .ok (.getfield 124, 3) := by decide +kernel
theorem x_419_176 : decode (q_code 419) 176 = .ok (.iload 7, 2) := by decide +kernel
theorem x_419_178 : decode (q_code 419) 178 = .ok (.iconst 1, 1) := by decide +kernel
theorem x_419_179 : decode (q_code 419) 179 = .ok (.bastore, 1) := by decide +kernel
theorem x_419_180 : decode (q_code 419) 180 = .ok (.aload_n 0, 1) := by decide +kernel
theorem x_419_181 : decode (q_code 419) 181 = .ok (.getfield 118, 3) := by decide +kernel
theorem x_419_184 : decode (q_code 419) 184 = .ok (.sipush 200, 3) := by decide +kernel
theorem x_419_187 : decode (q_code 419) 187 = .ok (.iload_n 2, 1) := by decide +kernel
theorem x_419_188 : decode (q_code 419) 188 = .ok (.imul, 1) := by decide +kernel
theorem x_419_189 : decode (q_code 419) 189 = .ok (.iload 6, 2) := by decide +kernel
theorem x_419_191 : decode (q_code 419) 191 = .ok (.iadd, 1) := by decide +kernel
theorem x_419_192 : decode (q_code 419) 192 = .ok (.iload 7, 2) := by decide +kernel
theorem x_419_194 : decode (q_code 419) 194 = .ok (.iastore, 1) := by decide +kernel
theorem x_419_195 : decode (q_code 419) 195 = .ok (.aload_n 0, 1) := by decide +kernel
theorem x_419_196 : decode (q_code 419) 196 = .ok (.getfield 121, 3) := by decide +kernel
theorem x_419_199 : decode (q_code 419) 199 = .ok (.sipush 200, 3) := by decide +kernel
theorem x_419_202 : decode (q_code 419) 202 = .ok (.iload_n 2, 1) := by decide +kernel
theorem x_419_203 : decode (q_code 419) 203 = .ok (.imul, 1) := by decide +kernel
theorem x_419_204 : decode (q_code 419) 204 = .ok (.iload 6, 2) := by decide +kernel
theorem x_419_206 : decode (q_code 419) 206 = .ok (.iadd, 1) := by decide +kernel
theorem x_419_207 : decode (q_code 419) 207 = .ok (.aload_n 0, 1) := by decide +kernel
theorem x_419_208 : decode (q_code 419) 208 = .ok (.getfield 115, 3) := by decide +kernel
theorem x_419_211 : decode (q_code 419) 211 = .ok (.iload_n 2, 1) := by decide +kernel
theorem x_419_212 : decode (q_code 419) 212 = .ok (.iaload, 1) := by decide +kernel
theorem x_419_213 : decode (q_code 419) 213 = .ok (.iastore, 1) := by decide +kernel
theorem x_419_214 : decode (q_code 419) 214 = .ok (.aload_n 0, 1) := by decide +kernel
theorem x_419_215 : decode (q_code 419) 215 = .ok (.getfield 115, 3) := by decide +kernel
theorem x_419_218 : decode (q_code 419) 218 = .ok (.iload_n 2, 1) := by decide +kernel
theorem x_419_219 : decode (q_code 419) 219 = .ok (.dup2, 1) := by decide +kernel
theorem x_419_220 : decode (q_code 419) 220 = .ok (.iaload, 1) := by decide +kernel
theorem x_419_221 : decode (q_code 419) 221 = .ok (.iconst 1, 1) := by decide +kernel
theorem x_419_222 : decode (q_code 419) 222 = .ok (.iadd, 1) := by decide +kernel
theorem x_419_223 : decode (q_code 419) 223 = .ok (.iastore, 1) := by decide +kernel
theorem x_419_224 : decode (q_code 419) 224 = .ok (.aload_n 0, 1) := by decide +kernel
theorem x_419_225 : decode (q_code 419) 225 = .ok (.getfield 109, 3) := by decide +kernel
theorem x_419_228 : decode (q_code 419) 228 = .ok (.iload_n 2, 1) := by decide +kernel
theorem x_419_229 : decode (q_code 419) 229 = .ok (.dup2, 1) := by decide +kernel
theorem x_419_230 : decode (q_code 419) 230 = .ok (.iaload, 1) := by decide +kernel
theorem x_419_231 : decode (q_code 419) 231 = .ok (.iconst 1, 1) := by decide +kernel
theorem x_419_232 : decode (q_code 419) 232 = .ok (.iadd, 1) := by decide +kernel
theorem x_419_233 : decode (q_code 419) 233 = .ok (.iastore, 1) := by decide +kernel
theorem x_419_234 : decode (q_code 419) 234 = .ok (.aload_n 0, 1) := by decide +kernel
theorem x_419_235 : decode (q_code 419) 235 = .ok (.getfield 112, 3) := by decide +kernel
theorem x_419_238 : decode (q_code 419) 238 = .ok (.iload_n 2, 1) := by decide +kernel
theorem x_419_239 : decode (q_code 419) 239 = .ok (.dup2, 1) := by decide +kernel
theorem x_419_240 : decode (q_code 419) 240 = .ok (.iaload, 1) := by decide +kernel
theorem x_419_241 : decode (q_code 419) 241 = .ok (.iload_n 3, 1) := by decide +kernel
theorem x_419_242 : decode (q_code 419) 242 = .ok (.iadd, 1) := by decide +kernel
theorem x_419_243 : decode (q_code 419) 243 = .ok (.iastore, 1) := by decide +kernel
theorem x_419_244 : decode (q_code 419) 244 = .ok (.aload_n 0, 1) := by decide +kernel
theorem x_419_245 : decode (q_code 419) 245 = .ok (.iload_n 1, 1) := by decide +kernel
theorem x_419_246 : decode (q_code 419) 246 = .ok (.aload_n 0, 1) := by decide +kernel
theorem x_419_247 : decode (q_code 419) 247 = .ok (.iload_n 2, 1) := by decide +kernel
theorem x_419_248 : decode (q_code 419) 248 = .ok (.iload 6, 2) := by decide +kernel
theorem x_419_250 : decode (q_code 419) 250 = .ok (.invokevirtual 912, 3) := by decide +kernel
theorem x_419_253 : decode (q_code 419) 253 = .ok (.iload_n 3, 1) := by decide +kernel
theorem x_419_254 : decode (q_code 419) 254 = .ok (.invokevirtual 517, 3) := by decide +kernel
theorem x_419_257 : decode (q_code 419) 257 = .ok (.iconst 4, 1) := by decide +kernel
theorem x_419_258 : decode (q_code 419) 258 = .ok (.iload_n 2, 1) := by decide +kernel
theorem x_419_259 : decode (q_code 419) 259 = .ok (.imul, 1) := by decide +kernel
theorem x_419_260 : decode (q_code 419) 260 = .ok (.istore 8, 2) := by decide +kernel
theorem x_419_262 : decode (q_code 419) 262 = .ok (.iload 8, 2) := by decide +kernel
theorem x_419_264 : decode (q_code 419) 264 = .ok (.iconst 4, 1) := by decide +kernel
theorem x_419_265 : decode (q_code 419) 265 = .ok (.iload_n 2, 1) := by decide +kernel
theorem x_419_266 : decode (q_code 419) 266 = .ok (.imul, 1) := by decide +kernel
theorem x_419_267 : decode (q_code 419) 267 = .ok (.iconst 4, 1) := by decide +kernel
theorem x_419_268 : decode (q_code 419) 268 = .ok (.iadd, 1) := by decide +kernel
theorem x_419_269 : decode (q_code 419) 269 = .ok (.if_icmp .ge 50, 3) := by decide +kernel
theorem x_419_272 : decode (q_code 419) 272 = .ok (.aload_n 0, 1) := by decide +kernel
theorem x_419_273 : decode (q_code 419) 273 = .ok (.getfield 43, 3) := by decide +kernel
theorem x_419_276 : decode (q_code 419) 276 = .ok (.iload 8, 2) := by decide +kernel
theorem x_419_278 : decode (q_code 419) 278 = .ok (.baload, 1) := by decide +kernel
theorem x_419_279 : decode (q_code 419) 279 = .ok (.ifCond .ne 6, 3) := by decide +kernel
theorem x_419_282 : decode (q_code 419) 282 = .ok (.goto 31, 3) := by decide +kernel
theorem x_419_285 : decode (q_code 419) 285 = .ok (.aload_n 0, 1) := by decide +kernel
theorem x_419_286 : decode (q_code 419) 286 = .ok (.iload 8, 2) := by decide +kernel
theorem x_419_288 : decode (q_code 419) 288 = .ok (.iload_n 1, 1) := by decide +kernel
theorem x_419_289 : decode (q_code 419) 289 = .ok (.invokevirtual 965, 3) := by decide +kernel
theorem x_419_292 : decode (q_code 419) 292 = .ok (.aload_n 0, 1) := by decide +kernel
theorem x_419_293 : decode (q_code 419) 293 = .ok (.iload 8, 2) := by decide +kernel
theorem x_419_295 : decode (q_code 419) 295 = .ok (.iload_n 1, 1) := by decide +kernel
theorem x_419_296 : decode (q_code 419) 296 = .ok (.aload_n 0, 1) := by decide +kernel
theorem x_419_297 : decode (q_code 419) 297 = .ok (.getfield 121, 3) := by decide +kernel
theorem x_419_300 : decode (q_code 419) 300 = .ok (.sipush 200, 3) := by decide +kernel
theorem x_419_303 : decode (q_code 419) 303 = .ok (.iload_n 2, 1) := by decide +kernel
theorem x_419_304 : decode (q_code 419) 304 = .ok (.imul, 1) := by decide +kernel
theorem x_419_305 : decode (q_code 419) 305 = .ok (.iload 6, 2) := by decide +kernel
theorem x_419_307 : decode (q_code 419) 307 = .ok (.iadd, 1) := by decide +kernel
theorem x_419_308 : decode (q_code 419) 308 = .ok (.iaload, 1) := by decide +kernel
theorem x_419_309 : decode (q_code 419) 309 = .ok (.iconst 1, 1) := by decide +kernel
theorem x_419_310 : decode (q_code 419) 310 = .ok (.invokevirtual 961, 3) := by decide +kernel
theorem x_419_313 : decode (q_code 419) 313 = .ok (.iinc 8 1, 3) := by decide +kernel
theorem x_419_316 : decode (q_code 419) 316 = .ok (.goto (-54), 3) := by decide +kernel
theorem x_419_319 : decode (q_code 419) 319 = .ok (.aload_n 0, 1) := by decide +kernel
theorem x_419_320 : decode (q_code 419) 320 = .ok (.invokevirtual 940, 3) := by decide +kernel
theorem x_419_323 : decode (q_code 419) 323 = .ok (.aload_n 0, 1) := by decide +kernel
theorem x_419_324 : decode (q_code 419) 324 = .ok (.ldc_w 959, 3) := by decide +kernel
theorem x_419_327 : decode (q_code 419) 327 = .ok (.aload_n 0, 1) := by decide +kernel
theorem x_419_328 : decode (q_code 419) 328 = .ok (.getfield 121, 3) := by decide +kernel
theorem x_419_331 : decode (q_code 419) 331 = .ok (.sipush 200, 3) := by decide +kernel
theorem x_419_334 : decode (q_code 419) 334 = .ok (.iload_n 2, 1) := by decide +kernel
theorem x_419_335 : decode (q_code 419) 335 = .ok (.imul, 1) := by decide +kernel
theorem x_419_336 : decode (q_code 419) 336 = .ok (.iload 6, 2) := by decide +kernel
theorem x_419_338 : decode (q_code 419) 338 = .ok (.iadd, 1) := by decide +kernel
theorem x_419_339 : decode (q_code 419) 339 = .ok (.iaload, 1) := by decide +kernel
theorem x_419_340 : decode (q_code 419) 340 = .ok (.invokevirtual 944, 3) := by decide +kernel
theorem x_419_343 : decode (q_code 419) 343 = .ok (.aload_n 0, 1) := by decide +kernel
theorem x_419_344 : decode (q_code 419) 344 = .ok (.invokevirtual 954, 3) := by decide +kernel
theorem x_419_347 : decode (q_code 419) 347 = .ok (.ireturn, 1) := by decide +kernel
theorem x_420_0 : decode (q_code 420) 0 = .ok (.aload_n 0, 1) := by decide +kernel
theorem x_420_1 : decode (q_code 420) 1 = .ok (.iconst 0, 1) := by decide +kernel
theorem x_420_2 : decode (q_code 420) 2 = .ok (.iconst 2, 1) := by decide +kernel
theorem x_420_3 : decode (q_code 420) 3 = .ok (.invokevirtual 320, 3) := by decide +kernel
theorem x_420_6 : decode (q_code 420) 6 = .ok (.istore_n 3, 1) := by decide +kernel
theorem x_420_7 : decode (q_code 420) 7 = .ok (.aload_n 0, 1) := by decide +kernel
theorem x_420_8 : decode (q_code 420) 8 = .ok (.iload_n 3, 1) := by decide +kernel
theorem x_420_9 : decode (q_code 420) 9 = .ok (.invokevirtual 163, 3) := by decide +kernel
theorem x_420_12 : decode (q_code 420) 12 = .ok (.istore 4, 2) := by decide +kernel
theorem x_420_14 : decode (q_code 420) 14 = .ok (.aload_n 0, 1) := by decide +kernel
theorem x_420_15 : decode (q_code 420) 15 = .ok (.iload 4, 2) := by decide +kernel
theorem x_420_17 : decode (q_code 420) 17 = .ok (.invokevirtual 968, 3) := by decide +kernel
theorem x_420_20 : decode (q_code 420) 20 = .ok (.ifCond .ne 16, 3) := by decide +kernel
theorem x_420_23 : decode (q_code 420) 23 = .ok (.aload_n 0, 1) := by decide +kernel
theorem x_420_24 : decode (q_code 420) 24 = .ok (.dup, 1) := by decide +kernel
theorem x_420_25 : decode (q_code 420) 25 = .ok (.getfield 224, 3) := by decide +kernel
theorem x_420_28 : decode (q_code 420) 28 = .ok (.bipush 20, 2) := by decide +kernel
theorem x_420_30 : decode (q_code 420) 30 = .ok (.iadd, 1) := by decide +kernel
theorem x_420_31 : decode (q_code 420) 31 = .ok (.putfield 224, 3) := by decide +kernel
theorem x_420_34 : decode (q_code 420) 34 = .ok (.iconst 0, 1) := by decide +kernel
theorem x_420_35 : decode (q_code 420) 35 = .ok (.ireturn, 1) := by decide +kernel
theorem x_420_36 : decode (q_code 420) 36 = .ok (.aload_n 0, 1) := by decide +kernel
theorem x_420_37 : decode (q_code 420) 37 = .ok (.iload_n 1, 1) := by decide +kernel
theorem x_420_38 : decode (q_code 420) 38 = .ok (.iload_n 2, 1) := by decide +kernel
theorem x_420_39 : decode (q_code 420) 39 = .ok (.invokevirtual 937, 3) := by decide +kernel
theorem x_420_42 : decode (q_code 420) 42 = .ok (.istore 5, 2) := by decide +kernel
theorem x_420_44 : decode (q_code 420) 44 = .ok (.aload_n 0, 1) := by decide +kernel
theorem x_420_45 : decode (q_code 420) 45 = .ok (.getfield 112, 3) := by decide +kernel
theorem x_420_48 : decode (q_code 420) 48 = .ok (.iload_n 2, 1) := by decide +kernel
theorem x_420_49 : decode (q_code 420) 49 = .ok (.iaload, 1) := by decide +kernel
theorem x_420_50 : decode (q_code 420) 50 = .ok (.istore 6, 2) := by decide +kernel
theorem x_420_52 : decode (q_code 420) 52 = .ok (.aload_n 0, 1) := by decide +kernel
theorem x_420_53 : decode (q_code 420) 53 = .ok (.getfield 297, 3) := by decide +kernel
theorem x_420_56 : decode (q_code 420) 56 = .ok (.istore 7, 2) := by decide +kernel
theorem x_420_58 : decode (q_code 420) 58 = .ok (.aload_n 0, 1) := by decide +kernel
theorem x_420_59 : decode (q_code 420) 59 = .ok (.iconst 0, 1) := by decide +kernel
theorem x_420_60 : decode (q_code 420) 60 = .ok (.putfield 712, 3) := by decide +kernel
theorem x_420_63 : decode (q_code 420) 63 = .ok (.iconst 4, 1) := by decide +kernel
theorem x_420_64 : decode (q_code 420) 64 = .ok (.iload_n 2, 1) := by decide +kernel
theorem x_420_65 : decode (q_code 420) 65 = .ok (.imul, 1) := by decide +kernel
theorem x_420_66 : decode (q_code 420) 66 = .ok (.istore 8, 2) := by decide +kernel
theorem x_420_68 : decode (q_code 420) 68 = .ok (.iload 8, 2) := by decide +kernel
theorem x_420_70 : decode (q_code 420) 70 = .ok (.iconst 4, 1) := by decide +kernel
theorem x_420_71 : decode (q_code 420) 71 = .ok (.iload_n 2, 1) := by decide +kernel
theorem x_420_72 : decode (q_code 420) 72 = .ok (.imul, 1) := by decide +kernel
theorem x_420_73 : decode (q_code 420) 73 = .ok (.iconst 4, 1) := by decide +kernel
theorem x_420_74 : decode (q_code 420) 74 = .ok (.iadd, 1) := by decide +kernel
theorem x_420_75 : decode (q_code 420) 75 = .ok (.if_icmp .ge 23, 3) := by decide +kernel
theorem x_420_78 : decode (q_code 420) 78 = .ok (.aload_n 0, 1) := by decide +kernel
theorem x_420_79 : decode (q_code 420) 79 = .ok (.getfield 133, 3) := by decide +kernel
theorem x_420_82 : decode (q_code 420) 82 = .ok (.iload 8, 2) := by decide +kernel
theorem x_420_84 : decode (q_code 420) 84 = .ok (.aload_n 0, 1) := by decide +kernel
theorem x_420_85 : decode (q_code 420) 85 = .ok (.getfield 88, 3) := by decide +kernel
theorem x_420_88 : decode (q_code 420) 88 = .ok (.iload 8, 2) := by decide +kernel
theorem x_420_90 : decode (q_code 420) 90 = .ok (.iaload, 1) := by decide +kernel
theorem x_420_91 : decode (q_code 420) 91 = .ok (.iastore, 1) := by decide +kernel
theorem x_420_92 : decode (q_code 420) 92 = .ok (.iinc 8 1, 3) := by decide +kernel
theorem x_420_95 : decode (q_code 420) 95 = .ok (.goto (-27), 3) := by decide +kernel
theorem x_420_98 : decode (q_code 420) 98 = .ok (.iconst 0, 1) := by decide +kernel
theorem x_420_99 : decode (q_code 420) 99 = .ok (.istore 8, 2) := by decide +kernel
theorem x_420_101 : decode (q_code 420) 101 = .ok (.iconst 0, 1) := by decide +kernel
theorem x_420_102 : decode (q_code 420) 102 = .ok (.istore 9, 2) := by decide +kernel
theorem x_420_104 : decode (q_code 420) 104 = .ok (.iload 9, 2) := by decide +kernel
theorem x_420_106 : decode (q_code 420) 106 = .ok (.aload_n 0, 1) := by decide +kernel
theorem x_420_107 : decode (q_code 420) 107 = .ok (.getfield 109, 3) := by decide +kernel
theorem x_420_110 : decode (q_code 420) 110 = .ok (.iload_n 2, 1) := by decide +kernel
theorem x_420_111 : decode (q_code 420) 111 = .ok (.iaload, 1) := by decide +kernel
theorem x_420_112 : decode (q_code 420) 112 = .ok (.if_icmp .ge 221, 3) := by decide +kernel
theorem x_420_115 : decode (q_code 420) 115 = .ok (.aload_n 0, 1) := by decide +kernel
theorem x_420_116 : decode (q_code 420) 116 = .ok (.getfield 130, 3) := by decide +kernel
theorem x_420_119 : decode (q_code 420) 119 = .ok (.iload 9, 2) := by decide +kernel
theorem x_420_121 : decode (q_code 420) 121 = .ok (.iconst 0, 1) := by decide +kernel
theorem x_420_122 : decode (q_code 420) 122 = .ok (.bastore, 1) := by decide +kernel
theorem x_420_123 : decode (q_code 420) 123 = .ok (.aload_n 0, 1) := by decide +kernel
theorem x_420_124 : decode (q_code 420) 124 = .ok (.getfield 127, 3) := by decide +kernel
theorem x_420_127 : decode (q_code 420) 127 = .ok (.iload 9, 2) := by decide +kernel
theorem x_420_129 : decode (q_code 420) 129 = .ok (.baload, 1) := by decide +kernel
theorem x_420_130 : decode (q_code 420) 130 = .ok (.ifCond .ne 6, 3) := by decide +kernel
theorem x_420_133 : decode (q_code 420) 133 = .ok (.goto 194, 3) := by decide +kernel
theorem x_420_136 : decode (q_code 420) 136 = .ok (.aload_n 0, 1) := by decide +kernel
theorem x_420_137 : decode (q_code 420) 137 = .ok (.iload 4, 2) := by decide +kernel
theorem x_420_139 : decode (q_code 420) 139 = .ok (.aload_n 0, 1) := by decide +kernel
theorem x_420_140 : decode (q_code 420) 140 = .ok (.iload_n 2, 1) := by decide +kernel
theorem x_420_141 : decode (q_code 420) 141 = .ok (.iload 9, 2) := by decide +kernel
theorem x_420_143 : decode (q_code 420) 143 = .ok (.invokevirtual 912, 3) := by decide +kernel
theorem x_420_146 : decode (q_code 420) 146 = .ok (.invokevirtual 971, 3) := by decide +kernel
theorem x_420_149 : decode (q_code 420) 149 = .ok (.ifCond .ne 31, 3) := by decide +kernel
theorem x_420_152 : decode (q_code 420) 152 = .ok (.aload_n 0, 1) := by decide +kernel
theorem x_420_153 : decode (q_code 420) 153 = .ok (.aload_n 0, 1) := by decide +kernel
theorem x_420_154 : decode (q_code 420) 154 = .ok (.getfield 224, 3) := by decide +kernel
theorem x_420_157 : decode (q_code 420) 157 = .ok (.bipush 20, 2) := by decide +kernel
theorem x_420_159 : decode (q_code 420) 159 = .ok (.iadd, 1) := by decide +kernel
theorem x_420_160 : decode (q_code 420) 160 = .ok (.aload_n 0, 1) := by decide +kernel
theorem x_420_161 : decode (q_code 420) 161 = .ok (.getfield 227, 3) := by decide +kernel
theorem x_420_164 : decode (q_code 420) 164 = .ok (.iconst (-1), 1) := by decide +kernel
theorem x_420_165 : decode (q_code 420) 165 = .ok (.if_icmp .ne 7, 3) := by decide +kernel
theorem x_420_168 : decode (q_code 420) 168 = .ok (.iload_n 3, 1) := by decide +kernel
theorem x_420_169 : decode (q_code 420) 169 = .ok (.goto 7, 3) := by decide +kernel
theorem x_420_172 : decode (q_code 420) 172 = .ok (.aload_n 0, 1) := by decide +kernel
theorem x_420_173 : decode (q_code 420) 173 = .ok (.getfield 227, 3) := by decide +kernel
theorem x_420_176 : decode (q_code 420) 176 = .ok (.invokevirtual 868, 3) := by decide +kernel
theorem x_420_179 : decode (q_code 420) 179 = .ok (.ireturn, 1) := by decide +kernel
theorem x_420_180 : decode (q_code 420) 180 = .ok (.aload_n 0, 1) := by decide +kernel
theorem x_420_181 : decode (q_code 420) 181 = .ok (.getfield 130, 3) := by decide +kernel
theorem x_420_184 : decode (q_code 420) 184 = .ok (.iload 9, 2) := by decide +kernel
theorem x_420_186 : decode (q_code 420) 186 = .ok (.aload_n 0, 1) := by decide +kernel
theorem x_420_187 : decode (q_code 420) 187 = .ok (.getfield 520, 3) := by decide +kernel
theorem x_420_190 : decode (q_code 420) 190 = .ok (.bastore, 1) := by decide +kernel
theorem x_420_191 : decode (q_code 420) 191 = .ok (.iload 8, 2) := by decide +kernel
theorem x_420_193 : decode (q_code 420) 193 = .ok (.aload_n 0, 1) := by decide +kernel
theorem x_420_194 : decode (q_code 420) 194 = .ok (.getfield 520, 3) := by decide +kernel
theorem x_420_197 : decode (q_code 420) 197 = .ok (.ifCond .eq 7, 3) := by decide +kernel
theorem x_420_200 : decode (q_code 420) 200 = .ok (.iconst 1, 1) := by decide +kernel
theorem x_420_201 : decode (q_code 420) 201 = .ok (.goto 4, 3) := by decide +kernel
theorem x_420_204 : decode (q_code 420) 204 = .ok (.iconst 0, 1) := by decide +kernel
theorem x_420_205 : decode (q_code 420) 205 = .ok (.iadd, 1) := by decide +kernel
theorem x_420_206 : decode (q_code 420) 206 = .ok (.istore 8, 2) := by decide +kernel
theorem x_420_208 : decode (q_code 420) 208 = .ok (.iload 6, 2) := by decide +kernel
theorem x_420_210 : decode (q_code 420) 210 = .ok (.aload_n 0, 1) := by decide +kernel
theorem x_420_211 : decode (q_code 420) 211 = .ok (.ldc_w 451, 3) := by decide +kernel
theorem x_420_214 : decode (q_code 420) 214 = .ok (.invokevirtual 145, 3) := by decide +kernel
theorem x_420_217 : decode (q_code 420) 217 = .ok (.aload_n 0, 1) := by decide +kernel
theorem x_420_218 : decode (q_code 420) 218 = .ok (.aload_n 0, 1) := by decide +kernel
theorem x_420_219 : decode (q_code 420) 219 = .ok (.iload_n 2, 1) := by decide +kernel
theorem x_420_220 : decode (q_code 420) 220 = .ok (.iload 9, 2) := by decide +kernel
theorem x_420_222 : decode (q_code 420) 222 = .ok (.invokevirtual 912, 3) := by decide +kernel
theorem x_420_225 : decode (q_code 420) 225 = .ok (.invokevirtual 145, 3) := by decide +kernel
theorem x_420_228 : decode (q_code 420) 228 = .ok (.isub, 1) := by decide +kernel
theorem x_420_229 : decode (q_code 420) 229 = .ok (.iadd, 1) := by decide +kernel
theorem x_420_230 : decode (q_code 420) 230 = .ok (.istore 6, 2) := by decide +kernel
theorem x_420_232 : decode (q_code 420) 232 = .ok (.iconst 4, 1) := by decide +kernel
theorem x_420_233 : decode (q_code 420) 233 = .ok (.iload_n 2, 1) := by decide +kernel
theorem x_420_234 : decode (q_code 420) 234 = .ok (.imul, 1) := by decide +kernel
theorem x_420_235 : decode (q_code 420) 235 = .ok (.istore 10, 2) := by decide +kernel
theorem x_420_237 : decode (q_code 420) 237 = .ok (.iload 10, 2) := by decide +kernel
theorem x_420_239 : decode (q_code 420) 239 = .ok (.iconst 4, 1) := by decide +kernel
theorem x_420_240 : decode (q_code 420) 240 = .ok (.iload_n 2, 1) := by decide +kernel
theorem x_420_241 : decode (q_code 420) 241 = .ok (.imul, 1) := by decide +kernel
theorem x_420_242 : decode (q_code 420) 242 = .ok (.iconst 4, 1) := by decide +kernel
theorem x_420_243 : decode (q_code 420) 243 = .ok (.iadd, 1) := by decide +kernel
theorem x_420_244 : decode (q_code 420) 244 = .ok (.if_icmp .ge 83, 3) := by decide +kernel
theorem x_420_247 : decode (q_code 420) 247 = .ok (.aload_n 0, 1) := by decide +kernel
theorem x_420_248 : decode (q_code 420) 248 = .ok (.getfield 520, 3) := by decide +kernel
theorem x_420_251 : decode (q_code 420) 251 = .ok (.ifCond .eq 76, 3) := by decide +kernel
theorem x_420_254 : decode (q_code 420) 254 = .ok (.aload_n 0, 1) := by decide +kernel
theorem x_420_255 : decode (q_code 420) 255 = .ok (.getfield 43, 3) := by decide +kernel
theorem x_420_258 : decode (q_code 420) 258 = .ok (.iload 10, 2) := by decide +kernel
theorem x_420_260 : decode (q_code 420) 260 = .ok (.baload, 1) := by decide +kernel
theorem x_420_261 : decode (q_code 420) 261 = .ok (.ifCond .ne 6, 3) := by decide +kernel
theorem x_420_264 : decode (q_code 420) 264 = .ok (.goto 57, 3) := by decide +kernel
theorem x_420_267 : decode (q_code 420) 267 = .ok (.aload_n 0, 1) := by decide +kernel
theorem x_420_268 : decode (q_code 420) 268 = .ok (.getfield 133, 3) := by decide +kernel
theorem x_420_271 : decode (q_code 420) 271 = .ok (.iload 10, 2) := by decide +kernel
theorem x_420_273 : decode (q_code 420) 273 = .ok (.dup2, 1) := by decide +kernel
theorem x_420_274 : decode (q_code 420) 274 = .ok (.iaload, 1) := by decide +kernel
theorem x_420_275 : decode (q_code 420) 275 = .ok (.aload_n 0, 1) := by decide +kernel
theorem x_420_276 : decode (q_code 420) 276 = .ok (.iload 10, 2) := by decide +kernel
theorem x_420_278 : decode (q_code 420) 278 = .ok (.aload_n 0, 1) := by decide +kernel
theorem x_420_279 : decode (q_code 420) 279 = .ok (.iload_n 2, 1) := by decide +kernel
theorem x_420_280 : decode (q_code 420) 280 = .ok (.iload 9, 2) := by decide +kernel
theorem x_420_282 : decode (q_code 420) 282 = .ok (.invokevirtual 912, 3) := by decide +kernel
theorem x_420_285 : decode (q_code 420) 285 = .ok (.invokevirtual 736, 3) := by decide +kernel
theorem x_420_288 : decode (q_code 420) 288 = .ok (.isub, 1) := by decide +kernel
theorem x_420_289 : decode (q_code 420) 289 = .ok (.iastore, 1) := by decide +kernel
theorem x_420_290 : decode (q_code 420) 290 = .ok (.aload_n 0, 1) := by decide +kernel
theorem x_420_291 : decode (q_code 420) 291 = .ok (.iload 7, 2) := by decide +kernel
theorem x_420_293 : decode (q_code 420) 293 = .ok (.putfield 297, 3) := by decide +kernel
theorem x_420_296 : decode (q_code 420) 296 = .ok (.aload_n 0, 1) := by decide +kernel
theorem x_420_297 : decode (q_code 420) 297 = .ok (.getfield 133, 3) := by decide +kernel
theorem x_420_300 : decode (q_code 420) 300 = .ok (.iload 10, 2) := by decide +kernel
theorem x_420_302 : decode (q_code 420) 302 = .ok (.dup2, 1) := by decide +kernel
theorem x_420_303 : decode (q_code 420) 303 = .ok (.iaload, 1) := by decide +kernel
theorem x_420_304 : decode (q_code 420) 304 = .ok (.aload_n 0, 1) := by decide +kernel
theorem x_420_305 : decode (q_code 420) 305 = .ok (.iload 10, 2) := by decide +kernel
theorem x_420_307 : decode (q_code 420) 307 = .ok (.ldc_w 451, 3) := by decide +kernel
theorem x_420_310 : decode (q_code 420) 310 = .ok (.invokevirtual 736, 3) := by decide +kernel
theorem x_420_313 : decode (q_code 420) 313 = .ok (.iadd, 1) := by decide +kernel
theorem x_420_314 : decode (q_code 420) 314 = .ok (.iastore, 1) := by decide +kernel
theorem x_420_315 : decode (q_code 420) 315 = .ok (.aload_n 0, 1) := by decide +kernel
theorem x_420_316 : decode (q_code 420) 316 = .ok (.iload 7, 2) := by decide +kernel
theorem x_420_318 : decode (q_code 420) 318 = .ok (.putfield 297, 3) := by decide +kernel
theorem x_420_321 : decode (q_code 420) 321 = .ok (.iinc 10 1, 3) := by decide +kernel
theorem x_420_324 : decode (q_code 420) 324 = .ok (.goto (-87), 3) := by decide +kernel
theorem x_420_327 : decode (q_code 420) 327 = .ok (.iinc 9 1, 3) := by decide +kernel
theorem x_420_330 : decode (q_code 420) 330 = .ok (.goto (-226), 3) := by decide +kernel
theorem x_420_333 : decode (q_code 420) 333 = .ok (.iload 6, 2) := by decide +kernel
theorem x_420_335 : decode (q_code 420) 335 = .ok (.ldc_w 621, 3) := by decide +kernel
theorem x_420_338 : decode (q_code 420) 338 = .ok (.if_icmp .gt 14, 3) := by decide +kernel
theorem x_420_341 : decode (q_code 420) 341 = .ok (.aload_n 0, 1) := by decide +kernel
theorem x_420_342 : decode (q_code 420) 342 = .ok (.getfield 712, 3) := by decide +kernel
theorem x_420_345 : decode (q_code 420) 345 = .ok (.ifCond .ne 7, 3) := by decide +kernel
theorem x_420_348 : decode (q_code 420) 348 = .ok (.iconst 1, 1) := by decide +kernel
theorem x_420_349 : decode (q_code 420) 349 = .ok (.goto 4, 3) := by decide +kernel
theorem x_420_352 : decode (q_code 420) 352 = .ok (.iconst 0, 1) := by decide +kernel
theorem x_420_353 : decode (q_code 420) 353 = .ok (.istore 9, 2) := by decide +kernel
theorem x_420_355 : decode (q_code 420) 355 = .ok (.iconst 4, 1) := by decide +kernel
theorem x_420_356 : decode (q_code 420) 356 = .ok (.iload_n 2, 1) := by decide +kernel
theorem x_420_357 : decode (q_code 420) 357 = .ok (.imul, 1) := by decide +kernel
theorem x_420_358 : decode (q_code 420) 358 = .ok (.istore 10, 2) := by decide +kernel
theorem x_420_360 : decode (q_code 420) 360 = .ok (.iload 10, 2) := by decide +kernel
theorem x_420_362 : decode (q_code 420) 362 = .ok (.iconst 4, 1) := by decide +kernel
theorem x_420_363 : decode (q_code 420) 363 = .ok (.iload_n 2, 1) := by decide +kernel
theorem x_420_364 : decode (q_code 420) 364 = .ok (.imul, 1) := by decide +kernel
theorem x_420_365 : decode (q_code 420) 365 = .ok (.iconst 4, 1) := by decide +kernel
theorem x_420_366 : decode (q_code 420) 366 = .ok (.iadd, 1) := by decide +kernel
theorem x_420_367 : decode (q_code 420) 367 = .ok (.if_icmp .ge 42, 3) := by decide +kernel
theorem x_420_370 : decode (q_code 420) 370 = .ok (.iload 9, 2) := by decide +kernel
theorem x_420_372 : decode (q_code 420) 372 = .ok (.aload_n 0, 1) := by decide +kernel
theorem x_420_373 : decode (q_code 420) 373 = .ok (.getfield 43, 3) := by decide +kernel
theorem x_420_376 : decode (q_code 420) 376 = .ok (.iload 10, 2) := by decide +kernel
theorem x_420_378 : decode (q_code 420) 378 = .ok (.baload, 1) := by decide +kernel
theorem x_420_379 : decode (q_code 420) 379 = .ok (.ifCond .eq 16, 3) := by decide +kernel
theorem x_420_382 : decode (q_code 420) 382 = .ok (.aload_n 0, 1) := by decide +kernel
theorem x_420_383 : decode (q_code 420) 383 = .ok (.getfield 133, 3) := by decide +kernel
theorem x_420_386 : decode (q_code 420) 386 = .ok (.iload 10, 2) := by decide +kernel
theorem x_420_388 : decode (q_code 420) 388 = .ok (.iaload, 1) := by decide +kernel
theorem x_420_389 : decode (q_code 420) 389 = .ok (.sipush 1000, 3) := by decide +kernel
theorem x_420_392 : decode (q_code 420) 392 = .ok (.if_icmp .gt 7, 3) := by decide +kernel
theorem x_420_395 : decode (q_code 420) 395 = .ok (.iconst 1, 1) := by decide +kernel
theorem x_420_396 : decode (q_code 420) 396 = .ok (.goto 4, 3) := by decide +kernel
theorem x_420_399 : decode (q_code 420) 399 = .ok (.iconst 0, 1) := by decide +kernel
theorem x_420_400 : decode (q_code 420) 400 = .ok (.iand, 1) := by decide +kernel
theorem x_420_401 : decode (q_code 420) 401 = .ok (.istore 9, 2) := by decide +kernel
theorem x_420_403 : decode (q_code 420) 403 = .ok (.iinc 10 1, 3) := by decide +kernel
theorem x_420_406 : decode (q_code 420) 406 = .ok (.goto (-46), 3) := by decide +kernel
theorem x_420_409 : decode (q_code 420) 409 = .ok (.iload 9, 2) := by decide +kernel
theorem x_420_411 : decode (q_code 420) 411 = .ok (.ifCond .ne 11, 3) := by decide +kernel
theorem x_420_414 : decode (q_code 420) 414 = .ok (.aload_n 0, 1) := by decide +kernel
theorem x_420_415 : decode (q_code 420) 415 = .ok (.bipush 40, 2) := by decide +kernel
theorem x_420_417 : decode (q_code 420) 417 = .ok (.iconst (-1), 1) := by decide +kernel
theorem x_420_418 : decode (q_code 420) 418 = .ok (.invokevirtual 868, 3) := by decide +kernel
theorem x_420_421 : decode (q_code 420) 421 = .ok (.ireturn, 1) := by decide +kernel
theorem x_420_422 : decode (q_code 420) 422 = .ok (.aload_n 0, 1) := by decide +kernel
theorem x_420_423 : decode (q_code 420) 423 = .ok (.getfield 112, 3) := by decide +kernel
theorem x_420_426 : decode (q_code 420) 426 = .ok (.iload_n 2, 1) := by decide +kernel
theorem x_420_427 : decode (q_code 420) 427 = .ok (.iload 6, 2) := by decide +kernel
theorem x_420_429 : decode (q_code 420) 429 = .ok (.iastore, 1) := by decide +kernel
theorem x_420_430 : decode (q_code 420) 430 = .ok (.iconst 0, 1) := by decide +kernel
theorem x_420_431 : decode (q_code 420) 431 = .ok (.istore 10, 2) := by decide +kernel
theorem x_420_433 : decode (q_code 420) 433 = .ok (.iload 10, 2) := by decide +kernel
theorem x_420_435 : decode (q_code 420) 435 = .ok (.aload_n 0, 1) := by decide +kernel
theorem x_420_436 : decode (q_code 420) 436 = .ok (.getfield 109, 3) := by decide +kernel
theorem x_420_439 : decode (q_code 420) 439 = .ok (.iload_n 2, 1) := by decide +kernel
theorem x_420_440 : decode (q_code 420) 440 = .ok (.iaload, 1) := by decide +kernel
theorem x_420_441 : decode (q_code 420) 441 = .ok (.if_icmp .ge 77, 3) := by decide +kernel
theorem x_420_444 : decode (q_code 420) 444 = .ok (.iconst 4, 1) := by decide +kernel
theorem x_420_445 : decode (q_code 420) 445 = .ok (.iload_n 2, 1) := by decide +kernel
theorem x_420_446 : decode (q_code 420) 446 = .ok (.imul, 1) := by decide +kernel
theorem x_420_447 : decode (q_code 420) 447 = .ok (.istore 11, 2) := by decide +kernel
theorem x_420_449 : decode (q_code 420) 449 = .ok (.iload 11, 2) := by decide +kernel
theorem x_420_451 : decode (q_code 420) 451 = .ok (.iconst 4, 1) := by decide +kernel
theorem x_420_452 : decode (q_code 420) 452 = .ok (.iload_n 2, 1) := by decide +kernel
theorem x_420_453 : decode (q_code 420) 453 = .ok (.imul, 1) := by decide +kernel
theorem x_420_454 : decode (q_code 420) 454 = .ok (.iconst 4, 1) := by decide +kernel
theorem x_420_455 : decode (q_code 420) 455 = .ok (.iadd, 1) := by decide +kernel
theorem x_420_456 : decode (q_code 420) 456 = .ok (.if_icmp .ge 56, 3) := by decide +kernel
theorem x_420_459 : decode (q_code 420) 459 = .ok (.aload_n 0, 1) := by decide +kernel
theorem x_420_460 : decode (q_code 420) 460 = .ok (.getfield 130, 3) := by decide +kernel
theorem x_420_463 : decode (q_code 420) 463 = .ok (.iload 10, 2) := by decide +kernel
theorem x_420_465 : decode (q_code 420) 465 = .ok (.baload, 1) := by decide +kernel
theorem x_420_466 : decode (q_code 420) 466 = .ok (.ifCond .eq 40, 3) := by decide +kernel
theorem x_420_469 : decode (q_code 420) 469 = .ok (.aload_n 0, 1) := by decide +kernel
theorem x_420_470 : decode (q_code 420) 470 = .ok (.getfield 43, 3) := by decide +kernel
theorem x_420_473 : decode (q_code 420) 473 = .ok (.iload 11, 2) := by decide +kernel
theorem x_420_475 : decode (q_code 420) 475 = .ok (.baload, 1) := by decide +kernel
theorem x_420_476 : decode (q_code 420) 476 = .ok (.ifCond .eq 30, 3) := by decide +kernel
theorem x_420_479 : decode (q_code 420) 479 = .ok (.aload_n 0, 1) := by decide +kernel
theorem x_420_480 : decode (q_code 420) 480 = .ok (.iload 11, 2) := by decide +kernel
theorem x_420_482 : decode (q_code 420) 482 = .ok (.aload_n 0, 1) := by decide +kernel
theorem x_420_483 : decode (q_code 420) 483 = .ok (.iload_n 2, 1) := by decide +kernel
theorem x_420_484 : decode (q_code 420) 484 = .ok (.iload 10, 2) := by decide +kernel
theorem x_420_486 : decode (q_code 420) 486 = .ok (.invokevirtual 912, 3) := by decide +kernel
theorem x_420_489 : decode (q_code 420) 489 = .ok (.aload_n 0, 1) := by decide +kernel
theorem x_420_490 : decode (q_code 420) 490 = .ok (.getfield 121, 3) := by decide +kernel
theorem x_420_493 : decode (q_code 420) 493 = .ok (.sipush 200, 3) := by decide +kernel
theorem x_420_496 : decode (q_code 420) 496 = .ok (.iload_n 2, 1) := by decide +kernel
theorem x_420_497 : decode (q_code 420) 497 = .ok (.imul, 1) := by decide +kernel
theorem x_420_498 : decode (q_code 420) 498 = .ok (.iload 10, 2) := by decide +kernel
theorem x_420_500 : decode (q_code 420) 500 = .ok (.iadd, 1) := by decide +kernel
theorem x_420_501 : decode (q_code 420) 501 = .ok (.iaload, 1) := by decide +kernel
theorem x_420_502 : decode (q_code 420) 502 = .ok (.iconst 0, 1) := by decide +kernel
theorem x_420_503 : decode (q_code 420) 503 = .ok (.invokevirtual 961, 3) := by decide +kernel
theorem x_420_506 : decode (q_code 420) 506 = .ok (.iinc 11 1, 3) := by decide +kernel
theorem x_420_509 : decode (q_code 420) 509 = .ok (.goto (-60), 3) := by decide +kernel
theorem x_420_512 : decode (q_code 420) 512 = .ok (.iinc 10 1, 3) := by decide +kernel
theorem x_420_515 : decode (q_code 420) 515 = .ok (.goto (-82), 3) := by decide +kernel
theorem x_420_518 : decode (q_code 420) 518 = .ok (.iconst 0, 1) := by decide +kernel
theorem x_420_519 : decode (q_code 420) 519 = .ok (.istore 10, 2) := by decide +kernel
theorem x_420_521 : decode (q_code 420) 521 = .ok (.iload 10, 2) := by decide +kernel
theorem x_420_523 : decode (q_code 420) 523 = .ok (.aload_n 0, 1) := by decide +kernel
theorem x_420_524 : decode (q_code 420) 524 = .ok (.getfield 109, 3) := by decide +kernel
theorem x_420_527 : decode (q_code 420) 527 = .ok (.iload_n 2, 1) := by decide +kernel
theorem x_420_528 : decode (q_code 420) 528 = .ok (.iaload, 1) := by decide +kernel
theorem x_420_529 : decode (q_code 420) 529 = .ok (.if_icmp .ge 57, 3) := by decide +kernel
theorem x_420_532 : decode (q_code 420) 532 = .ok (.aload_n 0, 1) := by decide +kernel
theorem x_420_533 : decode (q_code 420) 533 = .ok (.getfield 130, 3) := by decide +kernel
theorem x_420_536 : decode (q_code 420) 536 = .ok (.iload 10, 2) := by decide +kernel
theorem x_420_538 : decode (q_code 420) 538 = .ok (.baload, 1) := by decide +kernel
theorem x_420_539 : decode (q_code 420) 539 = .ok (.ifCond .ne 6, 3) := by decide +kernel
theorem x_420_542 : decode (q_code 420) 542 = .ok (.goto 38, 3) := by decide +kernel
theorem x_420_545 : decode (q_code 420) 545 = .ok (.aload_n 0, 1) := by decide +kernel
theorem x_420_546 : decode (q_code 420) 546 = .ok (.iload 4, 2) := by decide +kernel
theorem x_420_548 : decode (q_code 420) 548 = .ok (.aload_n 0, 1) := by decide +kernel
theorem x_420_549 : decode (q_code 420) 549 = .ok (.iload_n 2, 1) := by decide +kernel
theorem x_420_550 : decode (q_code 420) 550 = .ok (.iload 10, 2) := by decide +kernel
theorem x_420_552 : decode (q_code 420) 552 = .ok (.invokevirtual 912, 3) := by decide +kernel
theorem x_420_555 : decode (q_code 420) 555 = .ok (.invokevirtual 971, 3) := by decide +kernel
theorem x_420_558 : decode (q_code 420) 558 = .ok (.pop, 1) := by decide +kernel
theorem x_420_559 : decode (q_code 420) 559 = .ok (.aload_n 0, 1) := by decide +kernel
theorem x_420_560 : decode (q_code 420) 560 = .ok (.ldc_w 451, 3) := by decide +kernel
theorem x_420_563 : decode (q_code 420) 563 = .ok (.aload_n 0, 1) := by decide +kernel
theorem x_420_564 : decode (q_code 420) 564 = .ok (.iload_n 2, 1) := by decide +kernel
theorem x_420_565 : decode (q_code 420) 565 = .ok (.iload 10, 2) := by decide +kernel
theorem x_420_567 : decode (q_code 420) 567 = .ok (.invokevirtual 912, 3) := by decide +kernel
theorem x_420_570 : decode (q_code 420) 570 = .ok (.aload_n 0, 1) := by decide +kernel
theorem x_420_571 : decode (q_code 420) 571 = .ok (.ldc_w 451, 3) := by decide +kernel
theorem x_420_574 : decode (q_code 420) 574 = .ok (.invokevirtual 145, 3) := by decide +kernel
theorem x_420_577 : decode (q_code 420) 577 = .ok (.invokevirtual 517, 3) := by decide +kernel
theorem x_420_580 : decode (q_code 420) 580 = .ok (.iinc 10 1, 3) := by decide +kernel
theorem x_420_583 : decode (q_code 420) 583 = .ok (.goto (-62), 3) := by decide +kernel
theorem x_420_586 : decode (q_code 420) 586 = .ok (.iconst 0, 1) := by decide +kernel
theorem x_420_587 : decode (q_code 420) 587 = .ok (.istore 10, 2) := by decide +kernel
theorem x_420_589 : decode (q_code 420) 589 = .ok (.iload 10, 2) := by decide +kernel
theorem x_420_591 : decode (q_code 420) 591 = .ok (.aload_n 0, 1) := by decide +kernel
theorem x_420_592 : decode (q_code 420) 592 = .ok (.getfield 109, 3) := by decide +kernel
theorem x_420_595 : decode (q_code 420) 595 = .ok (.iload_n 2, 1) := by decide +kernel
theorem x_420_596 : decode (q_code 420) 596 = .ok (.iaload, 1) := by decide +kernel
theorem x_420_597 : decode (q_code 420) 597 = .ok (.if_icmp .ge 93, 3) := by decide +kernel
theorem x_420_600 : decode (q_code 420) 600 = .ok (.iconst 4, 1) := by decide +kernel
theorem x_420_601 : decode (q_code 420) 601 = .ok (.iload_n 2, 1) := by decide +kernel
theorem x_420_602 : decode (q_code 420) 602 = .ok (.imul, 1) := by decide +kernel
theorem x_420_603 : decode (q_code 420) 603 = .ok (.istore 11, 2) := by decide +kernel
theorem x_420_605 : decode (q_code 420) 605 = .ok (.iload 11, 2) := by decide +kernel
theorem x_420_607 : decode (q_code 420) 607 = .ok (.iconst 4, 1) := by decide +kernel
theorem x_420_608 : decode (q_code 420) 608 = .ok (.iload_n 2, 1) := by decide +kernel
theorem x_420_609 : decode (q_code 420) 609 = .ok (.imul, 1) := by decide +kernel
theorem x_420_610 : decode (q_code 420) 610 = .ok (.iconst 4, 1) := by decide +kernel
theorem x_420_611 : decode (q_code 420) 611 = .ok (.iadd, 1) := by decide +kernel
theorem x_420_612 : decode (q_code 420) 612 = .ok (.if_icmp .ge 72, 3) := by decide +kernel
theorem x_420_615 : decode (q_code 420) 615 = .ok (.aload_n 0, 1) := by decide +kernel
theorem x_420_616 : decode (q_code 420) 616 = .ok (.getfield 130, 3) := by decide +kernel
theorem x_420_619 : decode (q_code 420) 619 = .ok (.iload 10, 2) := by decide +kernel
theorem x_420_621 : decode (q_code 420) 621 = .ok (.baload, 1) := by decide +kernel
theorem x_420_622 : decode (q_code 420) 622 = .ok (.ifCond .eq 56, 3) := by decide +kernel
theorem x_420_625 : decode (q_code 420) 625 = .ok (.aload_n 0, 1) := by decide +kernel
theorem x_420_626 : decode (q_code 420) 626 = .ok (.getfield 43, 3) := by decide +kernel
theorem x_420_629 : decode (q_code 420) 629 = .ok (.iload 11, 2) := by decide +kernel
theorem x_420_631 : decode (q_code 420) 631 = .ok (.baload, 1) := by decide +kernel
theorem x_420_632 : decode (q_code 420) 632 = .ok (.ifCond .ne 6, 3) := by decide +kernel
theorem x_420_635 : decode (q_code 420) 635 = .ok (.goto 43, 3) := by decide +kernel
theorem x_420_638 : decode (q_code 420) 638 = .ok (.aload_n 0, 1) := by decide +kernel
theorem x_420_639 : decode (q_code 420) 639 = .ok (.iload 11, 2) := by decide +kernel
theorem x_420_641 : decode (q_code 420) 641 = .ok (.aload_n 0, 1) := by decide +kernel
theorem x_420_642 : decode (q_code 420) 642 = .ok (.iload_n 2, 1) := by decide +kernel
theorem x_420_643 : decode (q_code 420) 643 = .ok (.iload 10, 2) := by decide +kernel
theorem x_420_645 : decode (q_code 420) 645 = .ok (.invokevirtual 912, 3) := by decide +kernel
theorem x_420_648 : decode (q_code 420) 648 = .ok (.invokevirtual 965, 3) := by decide +kernel
theorem x_420_651 : decode (q_code 420) 651 = .ok (.aload_n 0, 1) := by decide +kernel
theorem x_420_652 : decode (q_code 420) 652 = .ok (.iload 11, 2) := by decide +kernel
theorem x_420_654 : decode (q_code 420) 654 = .ok (.aload_n 0, 1) := by decide +kernel
theorem x_420_655 : decode (q_code 420) 655 = .ok (.iload_n 2, 1) := by decide +kernel
theorem x_420_656 : decode (q_code 420) 656 = .ok (.iload 10, 2) := by decide +kernel
theorem x_420_658 : decode (q_code 420) 658 = .ok (.invokevirtual 912, 3) := by decide +kernel
theorem x_420_661 : decode (q_code 420) 661 = .ok (.aload_n 0, 1) := by decide +kernel
theorem x_420_662 : decode (q_code 420) 662 = .ok (.getfield 121, 3) := by decide +kernel
theorem x_420_665 : decode (q_code 420) 665 = .ok (.sipush 200, 3) := by decide +kernel
theorem x_420_668 : decode (q_code 420) 668 = .ok (.iload_n 2, 1) := by decide +kernel
theorem x_420_669 : decode (q_code 420) 669 = .ok (.imul, 1) := by decide +kernel
theorem x_420_670 : decode (q_code 420) 670 = .ok (.iload 10, 2) := by decide +kernel
theorem x_420_672 : decode (q_code 420) 672 = .ok (.iadd, 1) := by decide +kernel
theorem x_420_673 : decode (q_code 420) 673 = .ok (.iaload, 1) := by decide +kernel
theorem x_420_674 : decode (q_code 420) 674 = .ok (.iconst 1, 1) := by decide +kernel
theorem x_420_675 : decode (q_code 420) 675 = .ok (.invokevirtual 961, 3) := by decide +kernel
theorem x_420_678 : decode (q_code 420) 678 = .ok (.iinc 11 1, 3) := by decide +kernel
theorem x_420_681 : decode (q_code 420) 681 = .ok (.goto (-76), 3) := by decide +kernel
theorem x_420_684 : decode (q_code 420) 684 = .ok (.iinc 10 1, 3) := by decide +kernel
theorem x_420_687 : decode (q_code 420) 687 = .ok (.goto (-98), 3) := by decide +kernel
theorem x_420_690 : decode (q_code 420) 690 = .ok (.aload_n 0, 1) := by decide +kernel
theorem x_420_691 : decode (q_code 420) 691 = .ok (.invokevirtual 940, 3) := by decide +kernel
theorem x_420_694 : decode (q_code 420) 694 = .ok (.aload_n 0, 1) := by decide +kernel
theorem x_420_695 : decode (q_code 420) 695 = .ok (.ldc_w 943, 3) := by decide +kernel
theorem x_420_698 : decode (q_code 420) 698 = .ok (.iload 5, 2) := by decide +kernel
theorem x_420_700 : decode (q_code 420) 700 = .ok (.invokevirtual 944, 3) := by decide +kernel
theorem x_420_703 : decode (q_code 420) 703 = .ok (.aload_n 0, 1) := by decide +kernel
theorem x_420_704 : decode (q_code 420) 704 = .ok (.ldc_w 973, 3) := by decide +kernel
theorem x_420_707 : decode (q_code 420) 707 = .ok (.iload 8, 2) := by decide +kernel
theorem x_420_709 : decode (q_code 420) 709 = .ok (.invokevirtual 944, 3) := by decide +kernel
theorem x_420_712 : decode (q_code 420) 712 = .ok (.aload_n 0, 1) := by decide +kernel
theorem x_420_713 : decode (q_code 420) 713 = .ok (.invokevirtual 954, 3) := by decide +kernel
theorem x_420_716 : decode (q_code 420) 716 = .ok (.ireturn, 1) := by decide +kernel
theorem x_421_0 : decode (q_code 421) 0 = .ok (.iconst 4, 1) := by decide +kernel
theorem x_421_1 : decode (q_code 421) 1 = .ok (.iload_n 2, 1) := by decide +kernel
theorem x_421_2 : decode (q_code 421) 2 = .ok (.imul, 1) := by decide +kernel
theorem x_421_3 : decode (q_code 421) 3 = .ok (.istore_n 3, 1) := by decide +kernel
theorem x_421_4 : decode (q_code 421) 4 = .ok (.iload_n 3, 1) := by decide +kernel
theorem x_421_5 : decode (q_code 421) 5 = .ok (.iconst 4, 1) := by decide +kernel
theorem x_421_6 : decode (q_code 421) 6 = .ok (.iload_n 2, 1) := by decide +kernel
theorem x_421_7 : decode (q_code 421) 7 = .ok (.imul, 1) := by decide +kernel
theorem x_421_8 : decode (q_code 421) 8 = .ok (.iconst 4, 1) := by decide +kernel
theorem x_421_9 : decode (q_code 421) 9 = .ok (.iadd, 1) := by decide +kernel
theorem x_421_10 : decode (q_code 421) 10 = .ok (.if_icmp .ge 18, 3) := by decide +kernel
theorem x_421_13 : decode (q_code 421) 13 = .ok (.aload_n 0, 1) := by decide +kernel
theorem x_421_14 : decode (q_code 421) 14 = .ok (.getfield 43, 3) := by decide +kernel
theorem x_421_17 : decode (q_code 421) 17 = .ok (.iload_n 3, 1) := by decide +kernel
theorem x_421_18 : decode (q_code 421) 18 = .ok (.baload, 1) := by decide +kernel
theorem x_421_19 : decode (q_code 421) 19 = .ok (.ifCond .eq 9, 3) := by decide +kernel
theorem x_421_22 : decode (q_code 421) 22 = .ok (.iinc 3 1, 3) := by decide +kernel
theorem x_421_25 : decode (q_code 421) 25 = .ok (.goto (-21), 3) := by decide +kernel
theorem x_421_28 : decode (q_code 421) 28 = .ok (.iload_n 3, 1) := by decide +kernel
theorem x_421_29 : decode (q_code 421) 29 = .ok (.iconst 4, 1) := by decide +kernel
theorem x_421_30 : decode (q_code 421) 30 = .ok (.iload_n 2, 1) := by decide +kernel
theorem x_421_31 : decode (q_code 421) 31 = .ok (.imul, 1) := by decide +kernel
theorem x_421_32 : decode (q_code 421) 32 = .ok (.iconst 4, 1) := by decide +kernel
theorem x_421_33 : decode (q_code 421) 33 = .ok (.iadd, 1) := by decide +kernel
theorem x_421_34 : decode (q_code 421) 34 = .ok (.if_icmp .ne 11, 3) := by decide +kernel
theorem x_421_37 : decode (q_code 421) 37 = .ok (.aload_n 0, 1) := by decide +kernel
theorem x_421_38 : decode (q_code 421) 38 = .ok (.bipush 40, 2) := by decide +kernel
theorem x_421_40 : decode (q_code 421) 40 = .ok (.iconst (-1), 1) := by decide +kernel
theorem x_421_41 : decode (q_code 421) 41 = .ok (.invokevirtual 868, 3) := by decide +kernel
theorem x_421_44 : decode (q_code 421) 44 = .ok (.ireturn, 1) := by decide +kernel
theorem x_421_45 : decode (q_code 421) 45 = .ok (.aload_n 0, 1) := by decide +kernel
theorem x_421_46 : decode (q_code 421) 46 = .ok (.aload_n 0, 1) := by decide +kernel
theorem x_421_47 : decode (q_code 421) 47 = .ok (.iconst 0, 1) := by decide +kernel
theorem x_421_48 : decode (q_code 421) 48 = .ok (.iconst 2, 1) := by decide +kernel
theorem x_421_49 : decode (q_code 421) 49 = .ok (.invokevirtual 320, 3) := by decide +kernel
theorem x_421_52 : decode (q_code 421) 52 = .ok (.invokevirtual 163, 3) := by decide +kernel
theorem x_421_55 : decode (q_code 421) 55 = .ok (.istore 4, 2) := by decide +kernel
theorem x_421_57 : decode (q_code 421) 57 = .ok (.aload_n 0, 1) := by decide +kernel
theorem x_421_58 : decode (q_code 421) 58 = .ok (.getfield 47, 3) := by decide +kernel
theorem x_421_61 : decode (q_code 421) 61 = .ok (.iload_n 3, 1) := by decide +kernel
theorem x_421_62 : decode (q_code 421) 62 = .ok (.aload_n 0, 1) := by decide +kernel
theorem x_421_63 : decode (q_code 421) 63 = .ok (.aload_n 0, 1) := by decide +kernel
theorem x_421_64 : decode (q_code 421) 64 = .ok (.iload_n 1, 1) := by decide +kernel
theorem x_421_65 : decode (q_code 421) 65 = .ok (.invokevirtual 163, 3) := by decide +kernel
theorem x_421_68 : decode (q_code 421) 68 = .ok (.invokevirtual 360, 3) := by decide +kernel
theorem x_421_71 : decode (q_code 421) 71 = .ok (.iastore, 1) := by decide +kernel
theorem x_421_72 : decode (q_code 421) 72 = .ok (.iconst 0, 1) := by decide +kernel
theorem x_421_73 : decode (q_code 421) 73 = .ok (.istore 5, 2) := by decide +kernel
theorem x_421_75 : decode (q_code 421) 75 = .ok (.iload 5, 2) := by decide +kernel
theorem x_421_77 : decode (q_code 421) 77 = .ok (.iconst 2, 1) := by decide +kernel
theorem x_421_78 : decode (q_code 421) 78 = .ok (.if_icmp .ge 155, 3) := by decide +kernel
theorem x_421_81 : decode (q_code 421) 81 = .ok (.aload_n 0, 1) := by decide +kernel
theorem x_421_82 : decode (q_code 421) 82 = .ok (.getfield 56, 3) := by decide +kernel
theorem x_421_85 : decode (q_code 421) 85 = .ok (.iconst 2, 1) := by decide +kernel
theorem x_421_86 : decode (q_code 421) 86 = .ok (.iload_n 3, 1) := by decide +kernel
theorem x_421_87 : decode (q_code 421) 87 = .ok (.imul, 1) := by decide +kernel
theorem x_421_88 : decode (q_code 421) 88 = .ok (.iload 5, 2) := by decide +kernel
theorem x_421_90 : decode (q_code 421) 90 = .ok (.iadd, 1) := by decide +kernel
theorem x_421_91 : decode (q_code 421) 91 = .ok (.iconst 0, 1) := by decide +kernel
theorem x_421_92 : decode (q_code 421) 92 = .ok (.bastore, 1) := by decide +kernel
theorem x_421_93 : decode (q_code 421) 93 = .ok (.aload_n 0, 1) := by decide +kernel
theorem x_421_94 : decode (q_code 421) 94 = .ok (.getfield 53, 3) := by decide +kernel
theorem x_421_97 : decode (q_code 421) 97 = .ok (.iconst 2, 1) := by decide +kernel
theorem x_421_98 : decode (q_code 421) 98 = .ok (.iload_n 3, 1) := by decide +kernel
theorem x_421_99 : decode (q_code 421) 99 = .ok (.imul, 1) := by decide +kernel
theorem x_421_100 : decode (q_code 421) 100 = .ok (.iload 5, 2) := by decide +kernel
theorem x_421_102 : decode (q_code 421) 102 = .ok (.iadd, 1) := by decide +kernel
theorem x_421_103 : decode (q_code 421) 103 = .ok (.iconst 0, 1) := by decide +kernel
theorem x_421_104 : decode (q_code 421) 104 = .ok (.bastore, 1) := by decide +kernel
theorem x_421_105 : decode (q_code 421) 105 = .ok (.iload 5, 2) := by decide +kernel
theorem x_421_107 : decode (q_code 421) 107 = .ok (.aload_n 0, 1) := by decide +kernel
theorem x_421_108 : decode (q_code 421) 108 = .ok (.getfield 47, 3) := by decide +kernel
theorem x_421_111 : decode (q_code 421) 111 = .ok (.iload_n 3, 1) := by decide +kernel
theorem x_421_112 : decode (q_code 421) 112 = .ok (.iaload, 1) := by decide +kernel
theorem x_421_113 : decode (q_code 421) 113 = .ok (.if_icmp .ne 6, 3) := by decide +kernel
theorem x_421_116 : decode (q_code 421) 116 = .ok (.goto 111, 3) := by decide +kernel
theorem x_421_119 : decode (q_code 421) 119 = .ok (.aload_n 0, 1) := by decide +kernel
theorem x_421_120 : decode (q_code 421) 120 = .ok (.aload_n 0, 1) := by decide +kernel
theorem x_421_121 : decode (q_code 421) 121 = .ok (.iload_n 1, 1) := by decide +kernel
theorem x_421_122 : decode (q_code 421) 122 = .ok (.invokevirtual 163, 3) := by decide +kernel
theorem x_421_125 : decode (q_code 421) 125 = .ok (.iload 5, 2) := by decide +kernel
theorem x_421_127 : decode (q_code 421) 127 = .ok (.invokevirtual 320, 3) := by decide +kernel
theorem x_421_130 : decode (q_code 421) 130 = .ok (.istore 6, 2) := by decide +kernel
theorem x_421_132 : decode (q_code 421) 132 = .ok (.aload_n 0, 1) := by decide +kernel
theorem x_421_133 : decode (q_code 421) 133 = .ok (.iload 6, 2) := by decide +kernel
theorem x_421_135 : decode (q_code 421) 135 = .ok (.invokevirtual 527, 3) := by decide +kernel
theorem x_421_138 : decode (q_code 421) 138 = .ok (.aload_n 0, 1) := by decide +kernel
theorem x_421_139 : decode (q_code 421) 139 = .ok (.iload 6, 2) := by decide +kernel
theorem x_421_141 : decode (q_code 421) 141 = .ok (.invokevirtual 163, 3) := by decide +kernel
theorem x_421_144 : decode (q_code 421) 144 = .ok (.isub, 1) := by decide +kernel
theorem x_421_145 : decode (q_code 421) 145 = .ok (.iconst 4, 1) := by decide +kernel
theorem x_421_146 : decode (q_code 421) 146 = .ok (.isub, 1) := by decide +kernel
theorem x_421_147 : decode (q_code 421) 147 = .ok (.istore 7, 2) := by decide +kernel
theorem x_421_149 : decode (q_code 421) 149 = .ok (.aload_n 0, 1) := by decide +kernel
theorem x_421_150 : decode (q_code 421) 150 = .ok (.aload_n 0, 1) := by decide +kernel
theorem x_421_151 : decode (q_code 421) 151 = .ok (.iload 6, 2) := by decide +kernel
theorem x_421_153 : decode (q_code 421) 153 = .ok (.invokevirtual 163, 3) := by decide +kernel
theorem x_421_156 : decode (q_code 421) 156 = .ok (.iconst 4, 1) := by decide +kernel
theorem x_421_157 : decode (q_code 421) 157 = .ok (.iadd, 1) := by decide +kernel
theorem x_421_158 : decode (q_code 421) 158 = .ok (.aload_n 0, 1) := by decide +kernel
theorem x_421_159 : decode (q_code 421) 159 = .ok (.iload_n 3, 1) := by decide +kernel
theorem x_421_160 : decode (q_code 421) 160 = .ok (.iload 5, 2) := by decide +kernel
theorem x_421_162 : decode (q_code 421) 162 = .ok (.invokevirtual 718, 3) := by decide +kernel
theorem x_421_165 : decode (q_code 421) 165 = .ok (.iload 7, 2) := by decide +kernel
theorem x_421_167 : decode (q_code 421) 167 = .ok (.invokevirtual 517, 3) := by decide +kernel
theorem x_421_170 : decode (q_code 421) 170 = .ok (.aload_n 0, 1) := by decide +kernel
theorem x_421_171 : decode (q_code 421) 171 = .ok (.getfield 50, 3) := by decide +kernel
theorem x_421_174 : decode (q_code 421) 174 = .ok (.iconst 2, 1) := by decide +kernel
theorem x_421_175 : decode (q_code 421) 175 = .ok (.iload_n 3, 1) := by decide +kernel
theorem x_421_176 : decode (q_code 421) 176 = .ok (.imul, 1) := by decide +kernel
theorem x_421_177 : decode (q_code 421) 177 = .ok (.iload 5, 2) := by decide +kernel
theorem x_421_179 : decode (q_code 421) 179 = .ok (.iadd, 1) := by decide +kernel
theorem x_421_180 : decode (q_code 421) 180 = .ok (.aload_n 0, 1) := by decide +kernel
theorem x_421_181 : decode (q_code 421) 181 = .ok (.iload_n 3, 1) := by decide +kernel
theorem x_421_182 : decode (q_code 421) 182 = .ok (.iload 5, 2) := by decide +kernel
theorem x_421_184 : decode (q_code 421) 184 = .ok (.invokevirtual 718, 3) := by decide +kernel
theorem x_421_187 : decode (q_code 421) 187 = .ok (.iload 7, 2) := by decide +kernel
theorem x_421_189 : decode (q_code 421) 189 = .ok (.iadd, 1) := by decide +kernel
theorem x_421_190 : decode (q_code 421) 190 = .ok (.iastore, 1) := by decide +kernel
theorem x_421_191 : decode (q_code 421) 191 = .ok (.aload_n 0, 1) := by decide +kernel
theorem x_421_192 : decode (q_code 421) 192 = .ok (.getfield 53, 3) := by decide +kernel
theorem x_421_195 : decode (q_code 421) 195 = .ok (.iconst 2, 1) := by decide +kernel
theorem x_421_196 : decode (q_code 421) 196 = .ok (.iload_n 3, 1) := by decide +kernel
theorem x_421_197 : decode (q_code 421) 197 = .ok (.imul, 1) := by decide +kernel
theorem x_421_198 : decode (q_code 421) 198 = .ok (.iload 5, 2) := by decide +kernel
theorem x_421_200 : decode (q_code 421) 200 = .ok (.iadd, 1) := by decide +kernel
theorem x_421_201 : decode (q_code 421) 201 = .ok (.aload_n 0, 1) := by decide +kernel
theorem x_421_202 : decode (q_code 421) 202 = .ok (.aload_n 0, 1) := by decide +kernel
theorem x_421_203 : decode (q_code 421) 203 = .ok (.aload_n 0, 1) := by decide +kernel
theorem x_421_204 : decode (q_code 421) 204 = .ok (.iload 4, 2) := by decide +kernel
theorem x_421_206 : decode (q_code 421) 206 = .ok (.iload 5, 2) := by decide +kernel
theorem x_421_208 : decode (q_code 421) 208 = .ok (.invokevirtual 320, 3) := by decide +kernel
theorem x_421_211 : decode (q_code 421) 211 = .ok (.invokevirtual 163, 3) := by decide +kernel
theorem x_421_214 : decode (q_code 421) 214 = .ok (.invokevirtual 141, 3) := by decide +kernel
theorem x_421_217 : decode (q_code 421) 217 = .ok (.iconst 1, 1) := by decide +kernel
theorem x_421_218 : decode (q_code 421) 218 = .ok (.if_icmp .ne 7, 3) := by decide +kernel
theorem x_421_221 : decode (q_code 421) 221 = .ok (.iconst 1, 1) := by decide +kernel
theorem x_421_222 : decode (q_code 421) 222 = .ok (.goto 4, 3) := by decide +kernel
theorem x_421_225 : decode (q_code 421) 225 = .ok (.iconst 0, 1) := by decide +kernel
theorem x_421_226 : decode (q_code 421) 226 = .ok (.bastore, 1) := by decide +kernel
theorem x_421_227 : decode (q_code 421) 227 = .ok (.iinc 5 1, 3) := by decide +kernel
theorem x_421_230 : decode (q_code 421) 230 = .ok (.goto (-155), 3) := by decide +kernel
theorem x_421_233 : decode (q_code 421) 233 = .ok (.iconst 0, 1) := by decide +kernel
theorem x_421_234 : decode (q_code 421) 234 = .ok (.istore 5, 2) := by decide +kernel
theorem x_421_236 : decode (q_code 421) 236 = .ok (.aload_n 0, 1) := by decide +kernel
theorem x_421_237 : decode (q_code 421) 237 = .ok (.getfield 297, 3) := by decide +kernel
theorem x_421_240 : decode (q_code 421) 240 = .ok (.istore 6, 2) := by decide +kernel
theorem x_421_242 : decode (q_code 421) 242 = .ok (.aload_n 0, 1) := by decide +kernel
theorem x_421_243 : decode (q_code 421) 243 = .ok (.iconst 0, 1) := by decide +kernel
theorem x_421_244 : decode (q_code 421) 244 = .ok (.putfield 712, 3) := by decide +kernel
theorem x_421_247 : decode (q_code 421) 247 = .ok (.iconst 0, 1) := by decide +kernel
theorem x_421_248 : decode (q_code 421) 248 = .ok (.istore 7, 2) := by decide +kernel
theorem x_421_250 : decode (q_code 421) 250 = .ok (.iload 7, 2) := by decide +kernel
theorem x_421_252 : decode (q_code 421) 252 = .ok (.aload_n 0, 1) := by decide +kernel
theorem x_421_253 : decode (q_code 421) 253 = .ok (.getfield 109, 3) := by decide +kernel
theorem x_421_256 : decode (q_code 421) 256 = .ok (.iload_n 2, 1) := by decide +kernel
theorem x_421_257 : decode (q_code 421) 257 = .ok (.iaload, 1) := by decide +kernel
theorem x_421_258 : decode (q_code 421) 258 = .ok (.if_icmp .ge 32, 3) := by decide +kernel
theorem x_421_261 : decode (q_code 421) 261 = .ok (.iload 5, 2) := by decide +kernel
theorem x_421_263 : decode (q_code 421) 263 = .ok (.aload_n 0, 1) := by decide +kernel
theorem x_421_264 : decode (q_code 421) 264 = .ok (.iload_n 3, 1) := by decide +kernel
theorem x_421_265 : decode (q_code 421) 265 = .ok (.aload_n 0, 1) := by decide +kernel
theorem x_421_266 : decode (q_code 421) 266 = .ok (.iload_n 2, 1) := by decide +kernel
theorem x_421_267 : decode (q_code 421) 267 = .ok (.iload 7, 2) := by decide +kernel
theorem x_421_269 : decode (q_code 421) 269 = .ok (.invokevirtual 912, 3) := by decide +kernel
theorem x_421_272 : decode (q_code 421) 272 = .ok (.invokevirtual 736, 3) := by decide +kernel
theorem x_421_275 : decode (q_code 421) 275 = .ok (.iadd, 1) := by decide +kernel
theorem x_421_276 : decode (q_code 421) 276 = .ok (.istore 5, 2) := by decide +kernel
theorem x_421_278 : decode (q_code 421) 278 = .ok (.aload_n 0, 1) := by decide +kernel
theorem x_421_279 : decode (q_code 421) 279 = .ok (.iload 6, 2) := by decide +kernel
theorem x_421_281 : decode (q_code 421) 281 = .ok (.putfield 297, 3) := by decide +kernel
theorem x_421_284 : decode (q_code 421) 284 = .ok (.iinc 7 1, 3) := by decide +kernel
theorem x_421_287 : decode (q_code 421) 287 = .ok (.goto (-37), 3) := by decide +kernel
theorem x_421_290 : decode (q_code 421) 290 = .ok (.iload 5, 2) := by decide +kernel
theorem x_421_292 : decode (q_code 421) 292 = .ok (.sipush 1000, 3) := by decide +kernel
theorem x_421_295 : decode (q_code 421) 295 = .ok (.if_icmp .gt 10, 3) := by decide +kernel
theorem x_421_298 : decode (q_code 421) 298 = .ok (.aload_n 0, 1) := by decide +kernel
theorem x_421_299 : decode (q_code 421) 299 = .ok (.getfield 712, 3) := by decide +kernel
theorem x_421_302 : decode (q_code 421) 302 = .ok (.ifCond .eq 11, 3) := by decide +kernel
theorem x_421_305 : decode (q_code 421) 305 = .ok (.aload_n 0, 1) := by decide +kernel
theorem x_421_306 : decode (q_code 421) 306 = .ok (.bipush 40, 2) := by decide +kernel
theorem x_421_308 : decode (q_code 421) 308 = .ok (.iconst (-1), 1) := by decide +kernel
theorem x_421_309 : decode (q_code 421) 309 = .ok (.invokevirtual 868, 3) := by decide +kernel
theorem x_421_312 : decode (q_code 421) 312 = .ok (.ireturn, 1) := by decide +kernel
theorem x_421_313 : decode (q_code 421) 313 = .ok (.aload_n 0, 1) := by decide +kernel
theorem x_421_314 : decode (q_code 421) 314 = .ok (.getfield 43, 3) := by decide +kernel
theorem x_421_317 : decode (q_code 421) 317 = .ok (.iload_n 3, 1) := by decide +kernel
theorem x_421_318 : decode (q_code 421) 318 = .ok (.iconst 1, 1) := by decide +kernel
theorem x_421_319 : decode (q_code 421) 319 = .ok (.bastore, 1) := by decide +kernel
theorem x_421_320 : decode (q_code 421) 320 = .ok (.aload_n 0, 1) := by decide +kernel
theorem x_421_321 : decode (q_code 421) 321 = .ok (.iload_n 3, 1) := by decide +kernel
theorem x_421_322 : decode (q_code 421) 322 = .ok (.invokevirtual 137, 3) := by decide +kernel
theorem x_421_325 : decode (q_code 421) 325 = .ok (.iconst 0, 1) := by decide +kernel
theorem x_421_326 : decode (q_code 421) 326 = .ok (.istore 7, 2) := by decide +kernel
theorem x_421_328 : decode (q_code 421) 328 = .ok (.iload 7, 2) := by decide +kernel
theorem x_421_330 : decode (q_code 421) 330 = .ok (.aload_n 0, 1) := by decide +kernel
theorem x_421_331 : decode (q_code 421) 331 = .ok (.getfield 109, 3) := by decide +kernel
theorem x_421_334 : decode (q_code 421) 334 = .ok (.iload_n 2, 1) := by decide +kernel
theorem x_421_335 : decode (q_code 421) 335 = .ok (.iaload, 1) := by decide +kernel
theorem x_421_336 : decode (q_code 421) 336 = .ok (.if_icmp .ge 47, 3) := by decide +kernel
theorem x_421_339 : decode (q_code 421) 339 = .ok (.aload_n 0, 1) := by decide +kernel
theorem x_421_340 : decode (q_code 421) 340 = .ok (.iload_n 3, 1) := by decide +kernel
theorem x_421_341 : decode (q_code 421) 341 = .ok (.aload_n 0, 1) := by decide +kernel
theorem x_421_342 : decode (q_code 421) 342 = .ok (.iload_n 2, 1) := by decide +kernel
theorem x_421_343 : decode (q_code 421) 343 = .ok (.iload 7, 2) := by decide +kernel
theorem x_421_345 : decode (q_code 421) 345 = .ok (.invokevirtual 912, 3) := by decide +kernel
theorem x_421_348 : decode (q_code 421) 348 = .ok (.invokevirtual 965, 3) := by decide +kernel
theorem x_421_351 : decode (q_code 421) 351 = .ok (.aload_n 0, 1) := by decide +kernel
theorem x_421_352 : decode (q_code 421) 352 = .ok (.iload_n 3, 1) := by decide +kernel
theorem x_421_353 : decode (q_code 421) 353 = .ok (.aload_n 0, 1) := by decide +kernel
theorem x_421_354 : decode (q_code 421) 354 = .ok (.iload_n 2, 1) := by decide +kernel
theorem x_421_355 : decode (q_code 421) 355 = .ok (.iload 7, 2) := by decide +kernel
theorem x_421_357 : decode (q_code 421) 357 = .ok (.invokevirtual 912, 3) := by decide +kernel
theorem x_421_360 : decode (q_code 421) 360 = .ok (.aload_n 0, 1) := by decide +kernel
theorem x_421_361 : decode (q_code 421) 361 = .ok (.getfield 121, 3) := by decide +kernel
theorem x_421_364 : decode (q_code 421) 364 = .ok (.sipush 200, 3) := by decide +kernel
theorem x_421_367 : decode (q_code 421) 367 = .ok (.iload_n 2, 1) := by decide +kernel
theorem x_421_368 : decode (q_code 421) 368 = .ok (.imul, 1) := by decide +kernel
theorem x_421_369 : decode (q_code 421) 369 = .ok (.iload 7, 2) := by decide +kernel
theorem x_421_371 : decode (q_code 421) 371 = .ok (.iadd, 1) := by decide +kernel
theorem x_421_372 : decode (q_code 421) 372 = .ok (.iaload, 1) := by decide +kernel
theorem x_421_373 : decode (q_code 421) 373 = .ok (.iconst 1, 1) := by decide +kernel
theorem x_421_374 : decode (q_code 421) 374 = .ok (.invokevirtual 961, 3) := by decide +kernel
theorem x_421_377 : decode (q_code 421) 377 = .ok (.iinc 7 1, 3) := by decide +kernel
theorem x_421_380 : decode (q_code 421) 380 = .ok (.goto (-52), 3) := by decide +kernel
theorem x_421_383 : decode (q_code 421) 383 = .ok (.aload_n 0, 1) := by decide +kernel
theorem x_421_384 : decode (q_code 421) 384 = .ok (.invokevirtual 940, 3) := by decide +kernel
theorem x_421_387 : decode (q_code 421) 387 = .ok (.aload_n 0, 1) := by decide +kernel
theorem x_421_388 : decode (q_code 421) 388 = .ok (.ldc_w 895, 3) := by decide +kernel
theorem x_421_391 : decode (q_code 421) 391 = .ok (.iload_n 3, 1) := by decide +kernel
theorem x_421_392 : decode (q_code 421) 392 = .ok (.iconst 4, 1) := by decide +kernel
theorem x_421_393 : decode (q_code 421) 393 = .ok (.iload_n 2, 1) := by decide +kernel
theorem x_421_394 : decode (q_code 421) 394 = .ok (.imul, 1) := by decide +kernel
theorem x_421_395 : decode (q_code 421) 395 = .ok (.isub, 1) := by decide +kernel
theorem x_421_396 : decode (q_code 421) 396 = .ok (.invokevirtual 944, 3) := by decide +kernel
theorem x_421_399 : decode (q_code 421) 399 = .ok (.aload_n 0, 1) := by decide +kernel
theorem x_421_400 : decode (q_code 421) 400 = .ok (.invokevirtual 954, 3) := by decide +kernel
theorem x_421_403 : decode (q_code 421) 403 = .ok (.ireturn, 1) := by decide +kernel
theorem x_422_0 : decode (q_code 422) 0 = .ok (.aload_n 0, 1) := by decide +kernel
theorem x_422_1 : decode (q_code 422) 1 = .ok (.iload_n 1, 1) := by decide +kernel
theorem x_422_2 : decode (q_code 422) 2 = .ok (.invokevirtual 273, 3) := by decide +kernel
theorem x_422_5 : decode (q_code 422) 5 = .ok (.lstore_n 3, 1) := by decide +kernel
theorem x_422_6 : decode (q_code 422) 6 = .ok (.lload_n 3, 1) := by decide +kernel
theorem x_422_7 : decode (q_code 422) 7 = .ok (.lconst 0, 1) := by decide +kernel
theorem x_422_8 : decode (q_code 422) 8 = .ok (.lcmp, 1) := by decide +kernel
theorem x_422_9 : decode (q_code 422) 9 = .ok (.ifCond .lt 25, 3) := by decide +kernel
theorem x_422_12 : decode (q_code 422) 12 = .ok (.lload_n 3, 1) := by decide +kernel
theorem x_422_13 : decode (q_code 422) 13 = .ok (.ldc2_w 974, 3) := by decide +kernel
theorem x_422_16 : decode (q_code 422) 16 = .ok (.lcmp, 1) := by decide +kernel
theorem x_422_17 : decode (q_code 422) 17 = .ok (.ifCond .gt 17, 3) := by decide +kernel
theorem x_422_20 : decode (q_code 422) 20 = .ok (.aload_n 0, 1) := by decide +kernel
theorem x_422_21 : decode (q_code 422) 21 = .ok (.getfield 43, 3) := by decide +kernel
theorem x_422_24 : decode (q_code 422) 24 = .ok (.iconst 4, 1) := by decide +kernel
theorem x_422_25 : decode (q_code 422) 25 = .ok (.iload_n 2, 1) := by decide +kernel
theorem x_422_26 : decode (q_code 422) 26 = .ok (.imul, 1) := by decide +kernel
theorem x_422_27 : decode (q_code 422) 27 = .ok (.lload_n 3, 1) := by decide +kernel
theorem x_422_28 : decode (q_code 422) 28 = .ok (.l2i, 1) := by decide +kernel
theorem x_422_29 : decode (q_code 422) 29 = .ok (.iadd, 1) := by decide +kernel
theorem x_422_30 : decode (q_code 422) 30 = .ok (.baload, 1) := by decide +kernel
theorem x_422_31 : decode (q_code 422) 31 = .ok (.ifCond .ne 11, 3) := by decide +kernel
theorem x_422_34 : decode (q_code 422) 34 = .ok (.aload_n 0, 1) := by decide +kernel
theorem x_422_35 : decode (q_code 422) 35 = .ok (.bipush 41, 2) := by decide +kernel
theorem x_422_37 : decode (q_code 422) 37 = .ok (.iconst (-1), 1) := by decide +kernel
theorem x_422_38 : decode (q_code 422) 38 = .ok (.invokevirtual 868, 3) := by decide +kernel
theorem x_422_41 : decode (q_code 422) 41 = .ok (.ireturn, 1) := by decide +kernel
theorem x_422_42 : decode (q_code 422) 42 = .ok (.iconst 4, 1) := by decide +kernel
theorem x_422_43 : decode (q_code 422) 43 = .ok (.iload_n 2, 1) := by decide +kernel
theorem x_422_44 : decode (q_code 422) 44 = .ok (.imul, 1) := by decide +kernel
theorem x_422_45 : decode (q_code 422) 45 = .ok (.lload_n 3, 1) := by decide +kernel
theorem x_422_46 : decode (q_code 422) 46 = .ok (.l2i, 1) := by decide +kernel
theorem x_422_47 : decode (q_code 422) 47 = .ok (.iadd, 1) := by decide +kernel
theorem x_422_48 : decode (q_code 422) 48 = .ok (.istore 5, 2) := by decide +kernel
theorem x_422_50 : decode (q_code 422) 50 = .ok (.aload_n 0, 1) := by decide +kernel
theorem x_422_51 : decode (q_code 422) 51 = .ok (.invokevirtual 940, 3) := by decide +kernel
theorem x_422_54 : decode (q_code 422) 54 = .ok (.aload_n 0, 1) := by decide +kernel
theorem x_422_55 : decode (q_code 422) 55 = .ok (.iload_n 1, 1) := by decide +kernel
theorem x_422_56 : decode (q_code 422) 56 = .ok (.ldc_w 889, 3) := by decide +kernel
theorem x_422_59 : decode (q_code 422) 59 = .ok (.invokevirtual 325, 3) := by decide +kernel
theorem x_422_62 : decode (q_code 422) 62 = .ok (.ifCond .eq 22, 3) := by decide +kernel
theorem x_422_65 : decode (q_code 422) 65 = .ok (.aload_n 0, 1) := by decide +kernel
theorem x_422_66 : decode (q_code 422) 66 = .ok (.getfield 43, 3) := by decide +kernel
theorem x_422_69 : decode (q_code 422) 69 = .ok (.iload 5, 2) := by decide +kernel
theorem x_422_71 : decode (q_code 422) 71 = .ok (.iconst 0, 1) := by decide +kernel
theorem x_422_72 : decode (q_code 422) 72 = .ok (.bastore, 1) := by decide +kernel
theorem x_422_73 : decode (q_code 422) 73 = .ok (.aload_n 0, 1) := by decide +kernel
theorem x_422_74 : decode (q_code 422) 74 = .ok (.ldc_w 976, 3) := by decide +kernel
theorem x_422_77 : decode (q_code 422) 77 = .ok (.iconst 1, 1) := by decide +kernel
theorem x_422_78 : decode (q_code 422) 78 = .ok (.invokevirtual 978, 3) := by decide +kernel
theorem x_422_81 : decode (q_code 422) 81 = .ok (.goto 92, 3) := by decide +kernel
theorem x_422_84 : decode (q_code 422) 84 = .ok (.aload_n 0, 1) := by decide +kernel
theorem x_422_85 : decode (q_code 422) 85 = .ok (.ldc_w 982, 3) := by decide +kernel
theorem x_422_88 : decode (q_code 422) 88 = .ok (.aload_n 0, 1) := by decide +kernel
theorem x_422_89 : decode (q_code 422) 89 = .ok (.getfield 88, 3) := by decide +kernel
theorem x_422_92 : decode (q_code 422) 92 = .ok (.iload 5, 2) := by decide +kernel
theorem x_422_94 : decode (q_code 422) 94 = .ok (.iaload, 1) := by decide +kernel
theorem x_422_95 : decode (q_code 422) 95 = .ok (.invokevirtual 944, 3) := by decide +kernel
theorem x_422_98 : decode (q_code 422) 98 = .ok (.aload_n 0, 1) := by decide +kernel
theorem x_422_99 : decode (q_code 422) 99 = .ok (.ldc_w 984, 3) := by decide +kernel
theorem x_422_102 : decode (q_code 422) 102 = .ok (.aload_n 0, 1) := by decide +kernel
theorem x_422_103 : decode (q_code 422) 103 = .ok (.iload 5, 2) := by decide +kernel
theorem x_422_105 : decode (q_code 422) 105 = .ok (.invokevirtual 986, 3) := by decide +kernel
theorem x_422_108 : decode (q_code 422) 108 = .ok (.invokevirtual 944, 3) := by decide +kernel
theorem x_422_111 : decode (q_code 422) 111 = .ok (.aload_n 0, 1) := by decide +kernel
theorem x_422_112 : decode (q_code 422) 112 = .ok (.ldc_w 988, 3) := by decide +kernel
theorem x_422_115 : decode (q_code 422) 115 = .ok (.aload_n 0, 1) := by decide +kernel
theorem x_422_116 : decode (q_code 422) 116 = .ok (.iload 5, 2) := by decide +kernel
theorem x_422_118 : decode (q_code 422) 118 = .ok (.iconst 1, 1) := by decide +kernel
theorem x_422_119 : decode (q_code 422) 119 = .ok (.invokevirtual 989, 3) := by decide +kernel
theorem x_422_122 : decode (q_code 422) 122 = .ok (.invokevirtual 944, 3) := by decide +kernel
theorem x_422_125 : decode (q_code 422) 125 = .ok (.aload_n 0, 1) := by decide +kernel
theorem x_422_126 : decode (q_code 422) 126 = .ok (.ldc_w 992, 3) := by decide +kernel
theorem x_422_129 : decode (q_code 422) 129 = .ok (.aload_n 0, 1) := by decide +kernel
theorem x_422_130 : decode (q_code 422) 130 = .ok (.iload 5, 2) := by decide +kernel
theorem x_422_132 : decode (q_code 422) 132 = .ok (.iconst 0, 1) := by decide +kernel
theorem x_422_133 : decode (q_code 422) 133 = .ok (.invokevirtual 989, 3) := by decide +kernel
theorem x_422_136 : decode (q_code 422) 136 = .ok (.invokevirtual 944, 3) := by decide +kernel
theorem x_422_139 : decode (q_code 422) 139 = .ok (.aload_n 0, 1) := by decide +kernel
theorem x_422_140 : decode (q_code 422) 140 = .ok (.ldc_w 993, 3) := by decide +kernel
theorem x_422_143 : decode (q_code 422) 143 = .ok (.aload_n 0, 1) := by decide +kernel
theorem x_422_144 : decode (q_code 422) 144 = .ok (.getfield 56, 3) := by decide +kernel
theorem x_422_147 : decode (q_code 422) 147 = .ok (.iconst 2, 1) := by decide +kernel
theorem x_422_148 : decode (q_code 422) 148 = .ok (.iload 5, 2) := by decide +kernel
theorem x_422_150 : decode (q_code 422) 150 = .ok (.imul, 1) := by decide +kernel
theorem x_422_151 : decode (q_code 422) 151 = .ok (.baload, 1) := by decide +kernel
theorem x_422_152 : decode (q_code 422) 152 = .ok (.invokevirtual 978, 3) := by decide +kernel
theorem x_422_155 : decode (q_code 422) 155 = .ok (.aload_n 0, 1) := by decide +kernel
theorem x_422_156 : decode (q_code 422) 156 = .ok (.ldc_w 994, 3) := by decide +kernel
theorem x_422_159 : decode (q_code 422) 159 = .ok (.aload_n 0, 1) := by decide +kernel
theorem x_422_160 : decode (q_code 422) 160 = .ok (.getfield 56, 3) := by decide +kernel
theorem x_422_163 : decode (q_code 422) 163 = .ok (.iconst 2, 1) := by decide +kernel
theorem x_422_164 : decode (q_code 422) 164 = .ok (.iload 5, 2) := by decide +kernel
theorem x_422_166 : decode (q_code 422) 166 = .ok (.imul, 1) := by decide +kernel
theorem x_422_167 : decode (q_code 422) 167 = .ok (.iconst 1, 1) := by decide +kernel
theorem x_422_168 : decode (q_code 422) 168 = .ok (.iadd, 1) := by decide +kernel
theorem x_422_169 : decode (q_code 422) 169 = .ok (.baload, 1) := by decide +kernel
theorem x_422_170 : decode (q_code 422) 170 = .ok (.invokevirtual 978, 3) := by decide +kernel
theorem x_422_173 : decode (q_code 422) 173 = .ok (.aload_n 0, 1) := by decide +kernel
theorem x_422_174 : decode (q_code 422) 174 = .ok (.invokevirtual 954, 3) := by decide +kernel
theorem x_422_177 : decode (q_code 422) 177 = .ok (.ireturn, 1) := by decide +kernel
theorem x_423_0 : decode (q_code 423) 0 = .ok (.aload_n 0, 1) := by decide +kernel
theorem x_423_1 : decode (q_code 423) 1 = .ok (.iload_n 1, 1) := by decide +kernel
theorem x_423_2 : decode (q_code 423) 2 = .ok (.iload_n 2, 1) := by decide +kernel
theorem x_423_3 : decode (q_code 423) 3 = .ok (.invokevirtual 995, 3) := by decide +kernel
theorem x_423_6 : decode (q_code 423) 6 = .ok (.istore_n 3, 1) := by decide +kernel
theorem x_423_7 : decode (q_code 423) 7 = .ok (.iconst 0, 1) := by decide +kernel
theorem x_423_8 : decode (q_code 423) 8 = .ok (.istore 4, 2) := by decide +kernel
theorem x_423_10 : decode (q_code 423) 10 = .ok (.iconst 0, 1) := by decide +kernel
theorem x_423_11 : decode (q_code 423) 11 = .ok (.istore 5, 2) := by decide +kernel
theorem x_423_13 : decode (q_code 423) 13 = .ok (.iload 5, 2) := by decide +kernel
theorem x_423_15 : decode (q_code 423) 15 = .ok (.aload_n 0, 1) := by decide +kernel
theorem x_423_16 : decode (q_code 423) 16 = .ok (.getfield 109, 3) := by decide +kernel
theorem x_423_19 : decode (q_code 423) 19 = .ok (.iload_n 2, 1) := by decide +kernel
theorem x_423_20 : decode (q_code 423) 20 = .ok (.iaload, 1) := by decide +kernel
theorem x_423_21 : decode (q_code 423) 21 = .ok (.if_icmp .ge 40, 3) := by decide +kernel
theorem x_423_24 : decode (q_code 423) 24 = .ok (.iload 4, 2) := by decide +kernel
theorem x_423_26 : decode (q_code 423) 26 = .ok (.iload_n 3, 1) := by decide +kernel
theorem x_423_27 : decode (q_code 423) 27 = .ok (.bipush 8, 2) := by decide +kernel
theorem x_423_29 : decode (q_code 423) 29 = .ok (.if_icmp .eq 18, 3) := by decide +kernel
theorem x_423_32 : decode (q_code 423) 32 = .ok (.aload_n 0, 1) := by decide +kernel
theorem x_423_33 : decode (q_code 423) 33 = .ok (.iload_n 3, 1) := by decide +kernel
theorem x_423_34 : decode (q_code 423) 34 = .ok (.aload_n 0, 1) := by decide +kernel
theorem x_423_35 : decode (q_code 423) 35 = .ok (.iload_n 2, 1) := by decide +kernel
theorem x_423_36 : decode (q_code 423) 36 = .ok (.iload 5, 2) := by decide +kernel
theorem x_423_38 : decode (q_code 423) 38 = .ok (.invokevirtual 912, 3) := by decide +kernel
theorem x_423_41 : decode (q_code 423) 41 = .ok (.invokevirtual 998, 3) := by decide +kernel
theorem x_423_44 : decode (q_code 423) 44 = .ok (.ifCond .eq 7, 3) := by decide +kernel
theorem x_423_47 : decode (q_code 423) 47 = .ok (.iconst 1, 1) := by decide +kernel
theorem x_423_48 : decode (q_code 423) 48 = .ok (.goto 4, 3) := by decide +kernel
theorem x_423_51 : decode (q_code 423) 51 = .ok (.iconst 0, 1) := by decide +kernel
theorem x_423_52 : decode (q_code 423) 52 = .ok (.iadd, 1) := by decide +kernel
theorem x_423_53 : decode (q_code 423) 53 = .ok (.istore 4, 2) := by decide +kernel
theorem x_423_55 : decode (q_code 423) 55 = .ok (.iinc 5 1, 3) := by decide +kernel
theorem x_423_58 : decode (q_code 423) 58 = .ok (.goto (-45), 3) := by decide +kernel
theorem x_423_61 : decode (q_code 423) 61 = .ok (.aload_n 0, 1) := by decide +kernel
theorem x_423_62 : decode (q_code 423) 62 = .ok (.invokevirtual 940, 3) := by decide +kernel
theorem x_423_65 : decode (q_code 423) 65 = .ok (.aload_n 0, 1) := by decide +kernel
theorem x_423_66 : decode (q_code 423) 66 = .ok (.ldc_w 895, 3) := by decide +kernel
theorem x_423_69 : decode (q_code 423) 69 = .ok (.iload_n 3, 1) := by decide +kernel
theorem x_423_70 : decode (q_code 423) 70 = .ok (.bipush 8, 2) := by decide +kernel
theorem x_423_72 : decode (q_code 423) 72 = .ok (.if_icmp .ne 7, 3) := by decide +kernel
theorem x_423_75 : decode (q_code 423) 75 = .ok (.iconst (-1), 1) := by decide +kernel
theorem x_423_76 : decode (q_code 423) 76 = .ok (.goto 8, 3) := by decide +kernel
theorem x_423_79 : decode (q_code 423) 79 = .ok (.iload_n 3, 1) := by decide +kernel
theorem x_423_80 : decode (q_code 423) 80 = .ok (.iconst 4, 1) := by decide +kernel
theorem x_423_81 : decode (q_code 423) 81 = .ok (.iload_n 2, 1) := by decide +kernel
theorem x_423_82 : decode (q_code 423) 82 = .ok (.imul, 1) := by decide +kernel
theorem x_423_83 : decode (q_code 423) 83 = .ok (.isub, 1) := by decide +kernel
theorem x_423_84 : decode (q_code 423) 84 = .ok (.invokevirtual 944, 3) := by decide +kernel
theorem x_423_87 : decode (q_code 423) 87 = .ok (.aload_n 0, 1) := by decide +kernel
theorem x_423_88 : decode (q_code 423) 88 = .ok (.ldc_w 1001, 3) := by decide +kernel
theorem x_423_91 : decode (q_code 423) 91 = .ok (.aload_n 0, 1) := by decide +kernel
theorem x_423_92 : decode (q_code 423) 92 = .ok (.getfield 847, 3) := by decide +kernel
theorem x_423_95 : decode (q_code 423) 95 = .ok (.invokevirtual 944, 3) := by decide +kernel
theorem x_423_98 : decode (q_code 423) 98 = .ok (.aload_n 0, 1) := by decide +kernel
theorem x_423_99 : decode (q_code 423) 99 = .ok (.ldc_w 1002, 3) := by decide +kernel
theorem x_423_102 : decode (q_code 423) 102 = .ok (.aload_n 0, 1) := by decide +kernel
theorem x_423_103 : decode (q_code 423) 103 = .ok (.getfield 850, 3) := by decide +kernel
theorem x_423_106 : decode (q_code 423) 106 = .ok (.invokevirtual 944, 3) := by decide +kernel
theorem x_423_109 : decode (q_code 423) 109 = .ok (.aload_n 0, 1) := by decide +kernel
theorem x_423_110 : decode (q_code 423) 110 = .ok (.ldc_w 1003, 3) := by decide +kernel
theorem x_423_113 : decode (q_code 423) 113 = .ok (.iload 4, 2) := by decide +kernel
theorem x_423_115 : decode (q_code 423) 115 = .ok (.invokevirtual 944, 3) := by decide +kernel
theorem x_423_118 : decode (q_code 423) 118 = .ok (.aload_n 0, 1) := by decide +kernel
theorem x_423_119 : decode (q_code 423) 119 = .ok (.invokevirtual 954, 3) := by decide +kernel
theorem x_423_122 : decode (q_code 423) 122 = .ok (.ireturn, 1) := by decide +kernel
theorem x_424_0 : decode (q_code 424) 0 = .ok (.aload_n 0, 1) := by decide +kernel
theorem x_424_1 : decode (q_code 424) 1 = .ok (.aload_n 0, 1) := by decide +kernel
theorem x_424_2 : decode (q_code 424) 2 = .ok (.getfield 109, 3) := by decide +kernel
theorem x_424_5 : decode (q_code 424) 5 = .ok (.iload_n 2, 1) := by decide +kernel
theorem x_424_6 : decode (q_code 424) 6 = .ok (.iaload, 1) := by decide +kernel
theorem x_424_7 : decode (q_code 424) 7 = .ok (.putfield 622, 3) := by decide +kernel
theorem x_424_10 : decode (q_code 424) 10 = .ok (.iconst 0, 1) := by decide +kernel
theorem x_424_11 : decode (q_code 424) 11 = .ok (.istore_n 3, 1) := by decide +kernel
theorem x_424_12 : decode (q_code 424) 12 = .ok (.iload_n 3, 1) := by decide +kernel
theorem x_424_13 : decode (q_code 424) 13 = .ok (.aload_n 0, 1) := by decide +kernel
theorem x_424_14 : decode (q_code 424) 14 = .ok (.getfield 622, 3) := by decide +kernel
theorem x_424_17 : decode (q_code 424) 17 = .ok (.if_icmp .ge 21, 3) := by decide +kernel
theorem x_424_20 : decode (q_code 424) 20 = .ok (.aload_n 0, 1) := by decide +kernel
theorem x_424_21 : decode (q_code 424) 21 = .ok (.getfield 25, 3) := by decide +kernel
theorem x_424_24 : decode (q_code 424) 24 = .ok (.iload_n 3, 1) := by decide +kernel
theorem x_424_25 : decode (q_code 424) 25 = .ok (.aload_n 0, 1) := by decide +kernel
theorem x_424_26 : decode (q_code 424) 26 = .ok (.iload_n 2, 1) := by decide +kernel
theorem x_424_27 : decode (q_code 424) 27 = .ok (.iload_n 3, 1) := by decide +kernel
theorem x_424_28 : decode (q_code 424) 28 = .ok (.invokevirtual 912, 3) := by decide +kernel
theorem x_424_31 : decode (q_code 424) 31 = .ok (.iastore, 1) := by decide +kernel
theorem x_424_32 : decode (q_code 424) 32 = .ok (.iinc 3 1, 3) := by decide +kernel
theorem x_424_35 : decode (q_code 424) 35 = .ok (.goto (-23), 3) := by decide +kernel
theorem x_424_38 : decode (q_code 424) 38 = .ok (.aload_n 0, 1) := by decide +kernel
theorem x_424_39 : decode (q_code 424) 39 = .ok (.aload_n 0, 1) := by decide +kernel
theorem x_424_40 : decode (q_code 424) 40 = .ok (.getfield 109, 3) := by decide +kernel
theorem x_424_43 : decode (q_code 424) 43 = .ok (.iconst 1, 1) := by decide +kernel
theorem x_424_44 : decode (q_code 424) 44 = .ok (.iload_n 2, 1) := by decide +kernel
theorem x_424_45 : decode (q_code 424) 45 = .ok (.isub, 1) := by decide +kernel
theorem x_424_46 : decode (q_code 424) 46 = .ok (.iaload, 1) := by decide +kernel
theorem x_424_47 : decode (q_code 424) 47 = .ok (.putfield 671, 3) := by decide +kernel
theorem x_424_50 : decode (q_code 424) 50 = .ok (.iconst 0, 1) := by decide +kernel
theorem x_424_51 : decode (q_code 424) 51 = .ok (.istore_n 3, 1) := by decide +kernel
theorem x_424_52 : decode (q_code 424) 52 = .ok (.iload_n 3, 1) := by decide +kernel
theorem x_424_53 : decode (q_code 424) 53 = .ok (.aload_n 0, 1) := by decide +kernel
theorem x_424_54 : decode (q_code 424) 54 = .ok (.getfield 671, 3) := by decide +kernel
theorem x_424_57 : decode (q_code 424) 57 = .ok (.if_icmp .ge 23, 3) := by decide +kernel
theorem x_424_60 : decode (q_code 424) 60 = .ok (.aload_n 0, 1) := by decide +kernel
theorem x_424_61 : decode (q_code 424) 61 = .ok (.getfield 28, 3) := by decide +kernel
theorem x_424_64 : decode (q_code 424) 64 = .ok (.iload_n 3, 1) := by decide +kernel
theorem x_424_65 : decode (q_code 424) 65 = .ok (.aload_n 0, 1) := by decide +kernel
theorem x_424_66 : decode (q_code 424) 66 = .ok (.iconst 1, 1) := by decide +kernel
theorem x_424_67 : decode (q_code 424) 67 = .ok (.iload_n 2, 1) := by decide +kernel
theorem x_424_68 : decode (q_code 424) 68 = .ok (.isub, 1) := by decide +kernel
theorem x_424_69 : decode (q_code 424) 69 = .ok (.iload_n 3, 1) := by decide +kernel
theorem x_424_70 : decode (q_code 424) 70 = .ok (.invokevirtual 912, 3) := by decide +kernel
theorem x_424_73 : decode (q_code 424) 73 = .ok (.iastore, 1) := by decide +kernel
theorem x_424_74 : decode (q_code 424) 74 = .ok (.iinc 3 1, 3) := by decide +kernel
theorem x_424_77 : decode (q_code 424) 77 = .ok (.goto (-25), 3) := by decide +kernel
theorem x_424_80 : decode (q_code 424) 80 = .ok (.iload_n 1, 1) := by decide +kernel
theorem x_424_81 : decode (q_code 424) 81 = .ok (.invokestatic 174, 3) := by decide +kernel
theorem x_424_84 : decode (q_code 424) 84 = .ok (.istore_n 3, 1) := by decide +kernel
theorem x_424_85 : decode (q_code 424) 85 = .ok (.iload_n 3, 1) := by decide +kernel
theorem x_424_86 : decode (q_code 424) 86 = .ok (.aload_n 0, 1) := by decide +kernel
theorem x_424_87 : decode (q_code 424) 87 = .ok (.iload_n 1, 1) := by decide +kernel
theorem x_424_88 : decode (q_code 424) 88 = .ok (.invokevirtual 177, 3) := by decide +kernel
theorem x_424_91 : decode (q_code 424) 91 = .ok (.if_icmp .ge 188, 3) := by decide +kernel
theorem x_424_94 : decode (q_code 424) 94 = .ok (.aload_n 0, 1) := by decide +kernel
theorem x_424_95 : decode (q_code 424) 95 = .ok (.iload_n 3, 1) := by decide +kernel
theorem x_424_96 : decode (q_code 424) 96 = .ok (.invokevirtual 163, 3) := by decide +kernel
theorem x_424_99 : decode (q_code 424) 99 = .ok (.invokestatic 174, 3) := by decide +kernel
theorem x_424_102 : decode (q_code 424) 102 = .ok (.istore 4, 2) := by decide +kernel
theorem x_424_104 : decode (q_code 424) 104 = .ok (.aload_n 0, 1) := by decide +kernel
theorem x_424_105 : decode (q_code 424) 105 = .ok (.aload_n 0, 1) := by decide +kernel
theorem x_424_106 : decode (q_code 424) 106 = .ok (.iload_n 3, 1) := by decide +kernel
theorem x_424_107 : decode (q_code 424) 107 = .ok (.invokevirtual 163, 3) := by decide +kernel
theorem x_424_110 : decode (q_code 424) 110 = .ok (.invokevirtual 360, 3) := by decide +kernel
theorem x_424_113 : decode (q_code 424) 113 = .ok (.iconst 1, 1) := by decide +kernel
theorem x_424_114 : decode (q_code 424) 114 = .ok (.if_icmp .ne 111, 3) := by decide +kernel
theorem x_424_117 : decode (q_code 424) 117 = .ok (.aload_n 0, 1) := by decide +kernel
theorem x_424_118 : decode (q_code 424) 118 = .ok (.iload 4, 2) := by decide +kernel
theorem x_424_120 : decode (q_code 424) 120 = .ok (.ldc_w 1005, 3) := by decide +kernel
theorem x_424_123 : decode (q_code 424) 123 = .ok (.invokevirtual 325, 3) := by decide +kernel
theorem x_424_126 : decode (q_code 424) 126 = .ok (.ifCond .eq 99, 3) := by decide +kernel
theorem x_424_129 : decode (q_code 424) 129 = .ok (.aload_n 0, 1) := by decide +kernel
theorem x_424_130 : decode (q_code 424) 130 = .ok (.getfield 10, 3) := by decide +kernel
theorem x_424_133 : decode (q_code 424) 133 = .ok (.iload 4, 2) := by decide +kernel
theorem x_424_135 : decode (q_code 424) 135 = .ok (.baload, 1) := by decide +kernel
theorem x_424_136 : decode (q_code 424) 136 = .ok (.iconst 3, 1) := by decide +kernel
theorem x_424_137 : decode (q_code 424) 137 = .ok (.if_icmp .ne 88, 3) := by decide +kernel
theorem x_424_140 : decode (q_code 424) 140 = .ok (.aload_n 0, 1) := by decide +kernel
theorem x_424_141 : decode (q_code 424) 141 = .ok (.aload_n 0, 1) := by decide +kernel
theorem x_424_142 : decode (q_code 424) 142 = .ok (.iload 4, 2) := by decide +kernel
theorem x_424_144 : decode (q_code 424) 144 = .ok (.invokevirtual 163, 3) := by decide +kernel
theorem x_424_147 : decode (q_code 424) 147 = .ok (.invokevirtual 930, 3) := by decide +kernel
theorem x_424_150 : decode (q_code 424) 150 = .ok (.ifCond .ne 5, 3) := by decide +kernel
theorem x_424_153 : decode (q_code 424) 153 = .ok (.iconst 0, 1) := by decide +kernel
theorem x_424_154 : decode (q_code 424) 154 = .ok (.ireturn, 1) := by decide +kernel
theorem x_424_155 : decode (q_code 424) 155 = .ok (.iconst 0, 1) := by decide +kernel
theorem x_424_156 : decode (q_code 424) 156 = .ok (.istore 5, 2) := by decide +kernel
theorem x_424_158 : decode (q_code 424) 158 = .ok (.iconst 0, 1) := by decide +kernel
theorem x_424_159 : decode (q_code 424) 159 = .ok (.istore 6, 2) := by decide +kernel
theorem x_424_161 : decode (q_code 424) 161 = .ok (.iload 6, 2) := by decide +kernel
theorem x_424_163 : decode (q_code 424) 163 = .ok (.aload_n 0, 1) := by decide +kernel
theorem x_424_164 : decode (q_code 424) 164 = .ok (.getfield 622, 3) := by decide +kernel
theorem x_424_167 : decode (q_code 424) 167 = .ok (.if_icmp .ge 49, 3) := by decide +kernel
theorem x_424_170 : decode (q_code 424) 170 = .ok (.aload_n 0, 1) := by decide +kernel
theorem x_424_171 : decode (q_code 424) 171 = .ok (.aload_n 0, 1) := by decide +kernel
theorem x_424_172 : decode (q_code 424) 172 = .ok (.iload 4, 2) := by decide +kernel
theorem x_424_174 : decode (q_code 424) 174 = .ok (.invokevirtual 163, 3) := by decide +kernel
theorem x_424_177 : decode (q_code 424) 177 = .ok (.aload_n 0, 1) := by decide +kernel
theorem x_424_178 : decode (q_code 424) 178 = .ok (.getfield 25, 3) := by decide +kernel
theorem x_424_181 : decode (q_code 424) 181 = .ok (.iload 6, 2) := by decide +kernel
theorem x_424_183 : decode (q_code 424) 183 = .ok (.iaload, 1) := by decide +kernel
theorem x_424_184 : decode (q_code 424) 184 = .ok (.invokevirtual 402, 3) := by decide +kernel
theorem x_424_187 : decode (q_code 424) 187 = .ok (.ifCond .ne 6, 3) := by decide +kernel
theorem x_424_190 : decode (q_code 424) 190 = .ok (.goto 20, 3) := by decide +kernel
theorem x_424_193 : decode (q_code 424) 193 = .ok (.aload_n 0, 1) := by decide +kernel
theorem x_424_194 : decode (q_code 424) 194 = .ok (.getfield 25, 3) := by decide +kernel
theorem x_424_197 : decode (q_code 424) 197 = .ok (.iload 5, 2) := by decide +kernel
theorem x_424_199 : decode (q_code 424) 199 = .ok (.aload_n 0, 1) := by decide +kernel
theorem x_424_200 : decode (q_code 424) 200 = .ok (.getfield 25, 3) := by decide +kernel
theorem x_424_203 : decode (q_code 424) 203 = .ok (.iload 6, 2) := by decide +kernel
theorem x_424_205 : decode (q_code 424) 205 = .ok (.iaload, 1) := by decide +kernel
theorem x_424_206 : decode (q_code 424) 206 = .ok (.iastore, 1) := by decide +kernel
theorem x_424_207 : decode (q_code 424) 207 = .ok (.iinc 5 1, 3) := by decide +kernel
theorem x_424_210 : decode (q_code 424) 210 = .ok (.iinc 6 1, 3) := by decide +kernel
theorem x_424_213 : decode (q_code 424) 213 = .ok (.goto (-52), 3) := by decide +kernel
theorem x_424_216 : decode (q_code 424) 216 = .ok (.aload_n 0, 1) := by decide +kernel
theorem x_424_217 : decode (q_code 424) 217 = .ok (.iload 5, 2) := by decide +kernel
theorem x_424_219 : decode (q_code 424) 219 = .ok (.putfield 622, 3) := by decide +kernel
theorem x_424_222 : decode (q_code 424) 222 = .ok (.goto 48, 3) := by decide +kernel
theorem x_424_225 : decode (q_code 424) 225 = .ok (.aload_n 0, 1) := by decide +kernel
theorem x_424_226 : decode (q_code 424) 226 = .ok (.aload_n 0, 1) := by decide +kernel
theorem x_424_227 : decode (q_code 424) 227 = .ok (.iload_n 3, 1) := by decide +kernel
theorem x_424_228 : decode (q_code 424) 228 = .ok (.invokevirtual 163, 3) := by decide +kernel
theorem x_424_231 : decode (q_code 424) 231 = .ok (.invokevirtual 1007, 3) := by decide +kernel
theorem x_424_234 : decode (q_code 424) 234 = .ok (.istore 5, 2) := by decide +kernel
theorem x_424_236 : decode (q_code 424) 236 = .ok (.iload 5, 2) := by decide +kernel
theorem x_424_238 : decode (q_code 424) 238 = .ok (.ifCond .ne 12, 3) := by decide +kernel
theorem x_424_241 : decode (q_code 424) 241 = .ok (.aload_n 0, 1) := by decide +kernel
theorem x_424_242 : decode (q_code 424) 242 = .ok (.iload 4, 2) := by decide +kernel
theorem x_424_244 : decode (q_code 424) 244 = .ok (.invokevirtual 1010, 3) := by decide +kernel
theorem x_424_247 : decode (q_code 424) 247 = .ok (.goto 5, 3) := by decide +kernel
theorem x_424_250 : decode (q_code 424) 250 = .ok (.iload 5, 2) := by decide +kernel
theorem x_424_252 : decode (q_code 424) 252 = .ok (.istore 5, 2) := by decide +kernel
theorem x_424_254 : decode (q_code 424) 254 = .ok (.iload 5, 2) := by decide +kernel
theorem x_424_256 : decode (q_code 424) 256 = .ok (.ifCond .le 14, 3) := by decide +kernel
theorem x_424_259 : decode (q_code 424) 259 = .ok (.aload_n 0, 1) := by decide +kernel
theorem x_424_260 : decode (q_code 424) 260 = .ok (.bipush 30, 2) := by decide +kernel
theorem x_424_262 : decode (q_code 424) 262 = .ok (.iload 5, 2) := by decide +kernel
theorem x_424_264 : decode (q_code 424) 264 = .ok (.iadd, 1) := by decide +kernel
theorem x_424_265 : decode (q_code 424) 265 = .ok (.iload_n 3, 1) := by decide +kernel
theorem x_424_266 : decode (q_code 424) 266 = .ok (.invokevirtual 868, 3) := by decide +kernel
theorem x_424_269 : decode (q_code 424) 269 = .ok (.ireturn, 1) := by decide +kernel
theorem x_424_270 : decode (q_code 424) 270 = .ok (.aload_n 0, 1) := by decide +kernel
theorem x_424_271 : decode (q_code 424) 271 = .ok (.iload_n 3, 1) := by decide +kernel
theorem x_424_272 : decode (q_code 424) 272 = .ok (.invokevirtual 180, 3) := by decide +kernel
theorem x_424_275 : decode (q_code 424) 275 = .ok (.istore_n 3, 1) := by decide +kernel
theorem x_424_276 : decode (q_code 424) 276 = .ok (.goto (-191), 3) := by decide +kernel
theorem x_424_279 : decode (q_code 424) 279 = .ok (.aload_n 0, 1) := by decide +kernel
theorem x_424_280 : decode (q_code 424) 280 = .ok (.invokevirtual 940, 3) := by decide +kernel
theorem x_424_283 : decode (q_code 424) 283 = .ok (.aload_n 0, 1) := by decide +kernel
theorem x_424_284 : decode (q_code 424) 284 = .ok (.ldc_w 943, 3) := by decide +kernel
theorem x_424_287 : decode (q_code 424) 287 = .ok (.aload_n 0, 1) := by decide +kernel
theorem x_424_288 : decode (q_code 424) 288 = .ok (.getfield 622, 3) := by decide +kernel
theorem x_424_291 : decode (q_code 424) 291 = .ok (.invokevirtual 944, 3) := by decide +kernel
theorem x_424_294 : decode (q_code 424) 294 = .ok (.aload_n 0, 1) := by decide +kernel
theorem x_424_295 : decode (q_code 424) 295 = .ok (.iconst 4, 1) := by decide +kernel
theorem x_424_296 : decode (q_code 424) 296 = .ok (.invokevirtual 204, 3) := by decide +kernel
theorem x_424_299 : decode (q_code 424) 299 = .ok (.aload_n 0, 1) := by decide +kernel
theorem x_424_300 : decode (q_code 424) 300 = .ok (.ldc_w 958, 3) := by decide +kernel
theorem x_424_303 : decode (q_code 424) 303 = .ok (.invokevirtual 220, 3) := by decide +kernel
theorem x_424_306 : decode (q_code 424) 306 = .ok (.aload_n 0, 1) := by decide +kernel
theorem x_424_307 : decode (q_code 424) 307 = .ok (.invokevirtual 508, 3) := by decide +kernel
theorem x_424_310 : decode (q_code 424) 310 = .ok (.istore_n 3, 1) := by decide +kernel
theorem x_424_311 : decode (q_code 424) 311 = .ok (.iconst 0, 1) := by decide +kernel
theorem x_424_312 : decode (q_code 424) 312 = .ok (.istore 4, 2) := by decide +kernel
theorem x_424_314 : decode (q_code 424) 314 = .ok (.iload 4, 2) := by decide +kernel
theorem x_424_316 : decode (q_code 424) 316 = .ok (.aload_n 0, 1) := by decide +kernel
theorem x_424_317 : decode (q_code 424) 317 = .ok (.getfield 622, 3) := by decide +kernel
theorem x_424_320 : decode (q_code 424) 320 = .ok (.if_icmp .ge 50, 3) := by decide +kernel
theorem x_424_323 : decode (q_code 424) 323 = .ok (.aload_n 0, 1) := by decide +kernel
theorem x_424_324 : decode (q_code 424) 324 = .ok (.iconst 3, 1) := by decide +kernel
theorem x_424_325 : decode (q_code 424) 325 = .ok (.invokevirtual 204, 3) := by decide +kernel
theorem x_424_328 : decode (q_code 424) 328 = .ok (.aload_n 0, 1) := by decide +kernel
theorem x_424_329 : decode (q_code 424) 329 = .ok (.iload 4, 2) := by decide +kernel
theorem x_424_331 : decode (q_code 424) 331 = .ok (.invokevirtual 511, 3) := by decide +kernel
theorem x_424_334 : decode (q_code 424) 334 = .ok (.aload_n 0, 1) := by decide +kernel
theorem x_424_335 : decode (q_code 424) 335 = .ok (.aload_n 0, 1) := by decide +kernel
theorem x_424_336 : decode (q_code 424) 336 = .ok (.getfield 25, 3) := by decide +kernel
theorem x_424_339 : decode (q_code 424) 339 = .ok (.iload 4, 2) := by decide +kernel
theorem x_424_341 : decode (q_code 424) 341 = .ok (.iaload, 1) := by decide +kernel
theorem x_424_342 : decode (q_code 424) 342 = .ok (.aload_n 0, 1) := by decide +kernel
theorem x_424_343 : decode (q_code 424) 343 = .ok (.getfield 25, 3) := by decide +kernel
theorem x_424_346 : decode (q_code 424) 346 = .ok (.iload 4, 2) := by decide +kernel
theorem x_424_348 : decode (q_code 424) 348 = .ok (.iaload, 1) := by decide +kernel
theorem x_424_349 : decode (q_code 424) 349 = .ok (.aload_n 0, 1) := by decide +kernel
theorem x_424_350 : decode (q_code 424) 350 = .ok (.aload_n 0, 1) := by decide +kernel
theorem x_424_351 : decode (q_code 424) 351 = .ok (.getfield 25, 3) := by decide +kernel
theorem x_424_354 : decode (q_code 424) 354 = .ok (.iload 4, 2) := by decide +kernel
theorem x_424_356 : decode (q_code 424) 356 = .ok (.iaload, 1) := by decide +kernel
theorem x_424_357 : decode (q_code 424) 357 = .ok (.invokevirtual 145, 3) := by decide +kernel
theorem x_424_360 : decode (q_code 424) 360 = .ok (.iadd, 1) := by decide +kernel
theorem x_424_361 : decode (q_code 424) 361 = .ok (.invokevirtual 214, 3) := by decide +kernel
theorem x_424_364 : decode (q_code 424) 364 = .ok (.iinc 4 1, 3) := by decide +kernel
theorem x_424_367 : decode (q_code 424) 367 = .ok (.goto (-53), 3) := by decide +kernel
theorem x_424_370 : decode (q_code 424) 370 = .ok (.aload_n 0, 1) := by decide +kernel
theorem x_424_371 : decode (q_code 424) 371 = .ok (.iload_n 3, 1) := by decide +kernel
theorem x_424_372 : decode (q_code 424) 372 = .ok (.invokevirtual 514, 3) := by decide +kernel
theorem x_424_375 : decode (q_code 424) 375 = .ok (.aload_n 0, 1) := by decide +kernel
theorem x_424_376 : decode (q_code 424) 376 = .ok (.invokevirtual 954, 3) := by decide +kernel
theorem x_424_379 : decode (q_code 424) 379 = .ok (.ireturn, 1) := by decide +kernel
theorem x_425_0 : decode (q_code 425) 0 = .ok (.aload_n 0, 1) := by decide +kernel
theorem x_425_1 : decode (q_code 425) 1 = .ok (.getfield 1013, 3) := by decide +kernel
theorem x_425_4 : decode (q_code 425) 4 = .ok (.bipush 20, 2) := by decide +kernel
theorem x_425_6 : decode (q_code 425) 6 = .ok (.iadd, 1) := by decide +kernel
theorem x_425_7 : decode (q_code 425) 7 = .ok (.sipush 2000, 3) := by decide +kernel
theorem x_425_10 : decode (q_code 425) 10 = .ok (.if_icmp .le 5, 3) := by decide +kernel
theorem x_425_13 : decode (q_code 425) 13 = .ok (.iconst (-1), 1) := by decide +kernel
theorem x_425_14 : decode (q_code 425) 14 = .ok (.ireturn, 1) := by decide +kernel
theorem x_425_15 : decode (q_code 425) 15 = .ok (.iconst 0, 1) := by decide +kernel
theorem x_425_16 : decode (q_code 425) 16 = .ok (.istore 6, 2) := by decide +kernel
theorem x_425_18 : decode (q_code 425) 18 = .ok (.iload 6, 2) := by decide +kernel
theorem x_425_20 : decode (q_code 425) 20 = .ok (.bipush 20, 2) := by decide +kernel
theorem x_425_22 : decode (q_code 425) 22 = .ok (.if_icmp .ge 93, 3) := by decide +kernel
theorem x_425_25 : decode (q_code 425) 25 = .ok (.iload 6, 2) := by decide +kernel
theorem x_425_27 : decode (q_code 425) 27 = .ok (.iconst 4, 1) := by decide +kernel
theorem x_425_28 : decode (q_code 425) 28 = .ok (.if_icmp .ge 7, 3) := by decide +kernel
theorem x_425_31 : decode (q_code 425) 31 = .ok (.iload_n 1, 1) := by decide +kernel
theorem x_425_32 : decode (q_code 425) 32 = .ok (.goto 39, 3) := by decide +kernel
theorem x_425_35 : decode (q_code 425) 35 = .ok (.iload 6, 2) := by decide +kernel
theorem x_425_37 : decode (q_code 425) 37 = .ok (.bipush 8, 2) := by decide +kernel
theorem x_425_39 : decode (q_code 425) 39 = .ok (.if_icmp .ge 7, 3) := by decide +kernel
theorem x_425_42 : decode (q_code 425) 42 = .ok (.iload_n 2, 1) := by decide +kernel
theorem x_425_43 : decode (q_code 425) 43 = .ok (.goto 28, 3) := by decide +kernel
theorem x_425_46 : decode (q_code 425) 46 = .ok (.iload 6, 2) := by decide +kernel
theorem x_425_48 : decode (q_code 425) 48 = .ok (.bipush 12, 2) := by decide +kernel
theorem x_425_50 : decode (q_code 425) 50 = .ok (.if_icmp .ge 7, 3) := by decide +kernel
theorem x_425_53 : decode (q_code 425) 53 = .ok (.iload_n 3, 1) := by decide +kernel
theorem x_425_54 : decode (q_code 425) 54 = .ok (.goto 17, 3) := by decide +kernel
theorem x_425_57 : decode (q_code 425) 57 = .ok (.iload 6, 2) := by decide +kernel
theorem x_425_59 : decode (q_code 425) 59 = .ok (.bipush 16, 2) := by decide +kernel
theorem x_425_61 : decode (q_code 425) 61 = .ok (.if_icmp .ge 8, 3) := by decide +kernel
theorem x_425_64 : decode (q_code 425) 64 = .ok (.iload 4, 2) := by decide +kernel
theorem x_425_66 : decode (q_code 425) 66 = .ok (.goto 5, 3) := by decide +kernel
theorem x_425_69 : decode (q_code 425) 69 = .ok (.iload 5, 2) := by decide +kernel
theorem x_425_71 : decode (q_code 425) 71 = .ok (.istore 7, 2) := by decide +kernel
theorem x_425_73 : decode (q_code 425) 73 = .ok (.aload_n 0, 1) := by decide +kernel
theorem x_425_74 : decode (q_code 425) 74 = .ok (.getfield 14, 3) := by decide +kernel
theorem x_425_77 : decode (q_code 425) 77 = .ok (.aload_n 0, 1) := by decide +kernel
theorem x_425_78 : decode (q_code 425) 78 = .ok (.getfield 1013, 3) := by decide +kernel
theorem x_425_81 : decode (q_code 425) 81 = .ok (.iload 7, 2) := by decide +kernel
theorem x_425_83 : decode (q_code 425) 83 = .ok (.bipush 24, 2) := by decide +kernel
theorem x_425_85 : decode (q_code 425) 85 = .ok (.bipush 8, 2) := by decide +kernel
theorem x_425_87 : decode (q_code 425) 87 = .ok (.iload 6, 2) := by decide +kernel
theorem x_425_89 : decode (q_code 425) 89 = .ok (.iconst 4, 1) := by decide +kernel
theorem x_425_90 : decode (q_code 425) 90 = .ok (.irem, 1) := by decide +kernel
theorem x_425_91 : decode (q_code 425) 91 = .ok (.imul, 1) := by decide +kernel
theorem x_425_92 : decode (q_code 425) 92 = .ok (.isub, 1) := by decide +kernel
theorem x_425_93 : decode (q_code 425) 93 = .ok (.ishr, 1) := by decide +kernel
theorem x_425_94 : decode (q_code 425) 94 = .ok (.sipush 255, 3) := by decide +kernel
theorem x_425_97 : decode (q_code 425) 97 = .ok (.iand, 1) := by decide +kernel
theorem x_425_98 : decode (q_code 425) 98 = .ok (.iastore, 1) := by decide +kernel
theorem x_425_99 : decode (q_code 425) 99 = .ok (.aload_n 0, 1) := by decide +kernel
theorem x_425_100 : decode (q_code 425) 100 = .ok (.dup, 1) := by decide +kernel
theorem x_425_101 : decode (q_code 425) 101 = .ok (.getfield 1013, 3) := by decide +kernel
theorem x_425_104 : decode (q_code 425) 104 = .ok (.iconst 1, 1) := by decide +kernel
theorem x_425_105 : decode (q_code 425) 105 = .ok (.iadd, 1) := by decide +kernel
theorem x_425_106 : decode (q_code 425) 106 = .ok (.putfield 1013, 3) := by decide +kernel
theorem x_425_109 : decode (q_code 425) 109 = .ok (.iinc 6 1, 3) := by decide +kernel
theorem x_425_112 : decode (q_code 425) 112 = .ok (.goto (-94), 3) := by decide +kernel
theorem x_425_115 : decode (q_code 425) 115 = .ok (.aload_n 0, 1) := by decide +kernel
theorem x_425_116 : decode (q_code 425) 116 = .ok (.getfield 1013, 3) := by decide +kernel
theorem x_425_119 : decode (q_code 425) 119 = .ok (.ireturn, 1) := by decide +kernel
theorem x_426_0 : decode (q_code 426) 0 = .ok (.iload_n 1, 1) := by decide +kernel
theorem x_426_1 : decode (q_code 426) 1 = .ok (.ifCond .lt 11, 3) := by decide +kernel
theorem x_426_4 : decode (q_code 426) 4 = .ok (.iload_n 1, 1) := by decide +kernel
theorem x_426_5 : decode (q_code 426) 5 = .ok (.aload_n 0, 1) := by decide +kernel
theorem x_426_6 : decode (q_code 426) 6 = .ok (.getfield 1013, 3) := by decide +kernel
theorem x_426_9 : decode (q_code 426) 9 = .ok (.if_icmp .le 5, 3) := by decide +kernel
theorem x_426_12 : decode (q_code 426) 12 = .ok (.iconst (-1), 1) := by decide +kernel
theorem x_426_13 : decode (q_code 426) 13 = .ok (.ireturn, 1) := by decide +kernel
theorem x_426_14 : decode (q_code 426) 14 = .ok (.iconst 0, 1) := by decide +kernel
theorem x_426_15 : decode (q_code 426) 15 = .ok (.istore_n 2, 1) := by decide +kernel
theorem x_426_16 : decode (q_code 426) 16 = .ok (.iload_n 2, 1) := by decide +kernel
theorem x_426_17 : decode (q_code 426) 17 = .ok (.iload_n 1, 1) := by decide +kernel
theorem x_426_18 : decode (q_code 426) 18 = .ok (.if_icmp .ge 24, 3) := by decide +kernel
theorem x_426_21 : decode (q_code 426) 21 = .ok (.aload_n 0, 1) := by decide +kernel
theorem x_426_22 : decode (q_code 426) 22 = .ok (.getfield 10, 3) := by decide +kernel
theorem x_426_25 : decode (q_code 426) 25 = .ok (.iconst 0, 1) := by decide +kernel
theorem x_426_26 : decode (q_code 426) 26 = .ok (.iload_n 2, 1) := by decide +kernel
theorem x_426_27 : decode (q_code 426) 27 = .ok (.iadd, 1) := by decide +kernel
theorem x_426_28 : decode (q_code 426) 28 = .ok (.aload_n 0, 1) := by decide +kernel
theorem x_426_29 : decode (q_code 426) 29 = .ok (.getfield 14, 3) := by decide +kernel
theorem x_426_32 : decode (q_code 426) 32 = .ok (.iload_n 2, 1) := by decide +kernel
theorem x_426_33 : decode (q_code 426) 33 = .ok (.iaload, 1) := by decide +kernel
theorem x_426_34 : decode (q_code 426) 34 = .ok (.i2b, 1) := by decide +kernel
theorem x_426_35 : decode (q_code 426) 35 = .ok (.bastore, 1) := by decide +kernel
theorem x_426_36 : decode (q_code 426) 36 = .ok (.iinc 2 1, 3) := by decide +kernel
theorem x_426_39 : decode (q_code 426) 39 = .ok (.goto (-23), 3) := by decide +kernel
theorem x_426_42 : decode (q_code 426) 42 = .ok (.aload_n 0, 1) := by decide +kernel
theorem x_426_43 : decode (q_code 426) 43 = .ok (.iconst 0, 1) := by decide +kernel
theorem x_426_44 : decode (q_code 426) 44 = .ok (.putfield 1013, 3) := by decide +kernel
theorem x_426_47 : decode (q_code 426) 47 = .ok (.aload_n 0, 1) := by decide +kernel
theorem x_426_48 : decode (q_code 426) 48 = .ok (.iconst 0, 1) := by decide +kernel
theorem x_426_49 : decode (q_code 426) 49 = .ok (.putfield 297, 3) := by decide +kernel
theorem x_426_52 : decode (q_code 426) 52 = .ok (.aload_n 0, 1) := by decide +kernel
theorem x_426_53 : decode (q_code 426) 53 = .ok (.iload_n 1, 1) := by decide +kernel
theorem x_426_54 : decode (q_code 426) 54 = .ok (.invokevirtual 1016, 3) := by decide +kernel
theorem x_426_57 : decode (q_code 426) 57 = .ok (.ifCond .eq 17, 3) := by decide +kernel
theorem x_426_60 : decode (q_code 426) 60 = .ok (.aload_n 0, 1) := by decide +kernel
theorem x_426_61 : decode (q_code 426) 61 = .ok (.invokevirtual 1019, 3) := by decide +kernel
theorem x_426_64 : decode (q_code 426) 64 = .ok (.ifCond .eq 10, 3) := by decide +kernel
theorem x_426_67 : decode (q_code 426) 67 = .ok (.aload_n 0, 1) := by decide +kernel
theorem x_426_68 : decode (q_code 426) 68 = .ok (.invokevirtual 1022, 3) := by decide +kernel
theorem x_426_71 : decode (q_code 426) 71 = .ok (.ifCond .ne 34, 3) := by decide +kernel
theorem x_426_74 : decode (q_code 426) 74 = .ok (.aload_n 0, 1) := by decide +kernel
theorem x_426_75 : decode (q_code 426) 75 = .ok (.invokevirtual 940, 3) := by decide +kernel
theorem x_426_78 : decode (q_code 426) 78 = .ok (.aload_n 0, 1) := by decide +kernel
theorem x_426_79 : decode (q_code 426) 79 = .ok (.ldc_w 1025, 3) := by decide +kernel
theorem x_426_82 : decode (q_code 426) 82 = .ok (.aload_n 0, 1) := by decide +kernel
theorem x_426_83 : decode (q_code 426) 83 = .ok (.getfield 224, 3) := by decide +kernel
theorem x_426_86 : decode (q_code 426) 86 = .ok (.invokevirtual 944, 3) := by decide +kernel
theorem x_426_89 : decode (q_code 426) 89 = .ok (.aload_n 0, 1) := by decide +kernel
theorem x_426_90 : decode (q_code 426) 90 = .ok (.ldc_w 1026, 3) := by decide +kernel
theorem x_426_93 : decode (q_code 426) 93 = .ok (.aload_n 0, 1) := by decide +kernel
theorem x_426_94 : decode (q_code 426) 94 = .ok (.getfield 227, 3) := by decide +kernel
theorem x_426_97 : decode (q_code 426) 97 = .ok (.invokevirtual 944, 3) := by decide +kernel
theorem x_426_100 : decode (q_code 426) 100 = .ok (.aload_n 0, 1) := by decide +kernel
theorem x_426_101 : decode (q_code 426) 101 = .ok (.invokevirtual 954, 3) := by decide +kernel
theorem x_426_104 : decode (q_code 426) 104 = .ok (.pop, 1) := by decide +kernel
theorem x_426_105 : decode (q_code 426) 105 = .ok (.aload_n 0, 1) := by decide +kernel
theorem x_426_106 : decode (q_code 426) 106 = .ok (.aload_n 0, 1) := by decide +kernel
theorem x_426_107 : decode (q_code 426) 107 = .ok (.ldc_w 915, 3) := by decide +kernel
theorem x_426_110 : decode (q_code 426) 110 = .ok (.invokevirtual 145, 3) := by decide +kernel
theorem x_426_113 : decode (q_code 426) 113 = .ok (.putfield 1027, 3) := by decide +kernel
theorem x_426_116 : decode (q_code 426) 116 = .ok (.aload_n 0, 1) := by decide +kernel
theorem x_426_117 : decode (q_code 426) 117 = .ok (.getfield 1027, 3) := by decide +kernel
theorem x_426_120 : decode (q_code 426) 120 = .ok (.ireturn, 1) := by decide +kernel
theorem x_427_0 : decode (q_code 427) 0 = .ok (.iload_n 1, 1) := by decide +kernel
theorem x_427_1 : decode (q_code 427) 1 = .ok (.ifCond .lt 23, 3) := by decide +kernel
theorem x_427_4 : decode (q_code 427) 4 = .ok (.iload_n 1, 1) := by decide +kernel
theorem x_427_5 : decode (q_code 427) 5 = .ok (.aload_n 0, 1) := by decide +kernel
theorem x_427_6 : decode (q_code 427) 6 = .ok (.getfield 1027, 3) := by decide +kernel
theorem x_427_9 : decode (q_code 427) 9 = .ok (.if_icmp .ge 15, 3) := by decide +kernel
theorem x_427_12 : decode (q_code 427) 12 = .ok (.aload_n 0, 1) := by decide +kernel
theorem x_427_13 : decode (q_code 427) 13 = .ok (.ldc_w 915, 3) := by decide +kernel
theorem x_427_16 : decode (q_code 427) 16 = .ok (.iload_n 1, 1) := by decide +kernel
theorem x_427_17 : decode (q_code 427) 17 = .ok (.iadd, 1) := by decide +kernel
theorem x_427_18 : decode (q_code 427) 18 = .ok (.invokevirtual 141, 3) := by decide +kernel
theorem x_427_21 : decode (q_code 427) 21 = .ok (.goto 4, 3) := by decide +kernel
theorem x_427_24 : decode (q_code 427) 24 = .ok (.iconst (-1), 1) := by decide +kernel
theorem x_427_25 : decode (q_code 427) 25 = .ok (.ireturn, 1) := by decide +kernel
theorem x_428_0 : decode (q_code 428) 0 = .ok (.iload_n 1, 1) := by decide +kernel
theorem x_428_1 : decode (q_code 428) 1 = .ok (.ifCond .eq 8, 3) := by decide +kernel
theorem x_428_4 : decode (q_code 428) 4 = .ok (.iload_n 1, 1) := by decide +kernel
theorem x_428_5 : decode (q_code 428) 5 = .ok (.iconst 1, 1) := by decide +kernel
theorem x_428_6 : decode (q_code 428) 6 = .ok (.if_icmp .ne 10, 3) := by decide +kernel
theorem x_428_9 : decode (q_code 428) 9 = .ok (.aload_n 0, 1) := by decide +kernel
theorem x_428_10 : decode (q_code 428) 10 = .ok (.getfield 109, 3) := by decide +kernel
theorem x_428_13 : decode (q_code 428) 13 = .ok (.iload_n 1, 1) := by decide +kernel
theorem x_428_14 : decode (q_code 428) 14 = .ok (.iaload, 1) := by decide +kernel
theorem x_428_15 : decode (q_code 428) 15 = .ok (.ireturn, 1) := by decide +kernel
theorem x_428_16 : decode (q_code 428) 16 = .ok (.iload_n 1, 1) := by decide +kernel
theorem x_428_17 : decode (q_code 428) 17 = .ok (.iconst 2, 1) := by decide +kernel
theorem x_428_18 : decode (q_code 428) 18 = .ok (.if_icmp .eq 8, 3) := by decide +kernel
theorem x_428_21 : decode (q_code 428) 21 = .ok (.iload_n 1, 1) := by decide +kernel
theorem x_428_22 : decode (q_code 428) 22 = .ok (.iconst 3, 1) := by decide +kernel
theorem x_428_23 : decode (q_code 428) 23 = .ok (.if_icmp .ne 12, 3) := by decide +kernel
theorem x_428_26 : decode (q_code 428) 26 = .ok (.aload_n 0, 1) := by decide +kernel
theorem x_428_27 : decode (q_code 428) 27 = .ok (.getfield 112, 3) := by decide +kernel
theorem x_428_30 : decode (q_code 428) 30 = .ok (.iload_n 1, 1) := by decide +kernel
theorem x_428_31 : decode (q_code 428) 31 = .ok (.iconst 2, 1) := by decide +kernel
theorem x_428_32 : decode (q_code 428) 32 = .ok (.isub, 1) := by decide +kernel
theorem x_428_33 : decode (q_code 428) 33 = .ok (.iaload, 1) := by decide +kernel
theorem x_428_34 : decode (q_code 428) 34 = .ok (.ireturn, 1) := by decide +kernel
theorem x_428_35 : decode (q_code 428) 35 = .ok (.iload_n 1, 1) := by decide +kernel
theorem x_428_36 : decode (q_code 428) 36 = .ok (.bipush 6, 2) := by decide +kernel
theorem x_428_38 : decode (q_code 428) 38 = .ok (.if_icmp .ne 8, 3) := by decide +kernel
theorem x_428_41 : decode (q_code 428) 41 = .ok (.aload_n 0, 1) := by decide +kernel
theorem x_428_42 : decode (q_code 428) 42 = .ok (.getfield 1027, 3) := by decide +kernel
theorem x_428_45 : decode (q_code 428) 45 = .ok (.ireturn, 1) := by decide +kernel
theorem x_428_46 : decode (q_code 428) 46 = .ok (.iload_n 1, 1) := by decide +kernel
theorem x_428_47 : decode (q_code 428) 47 = .ok (.bipush 7, 2) := by decide +kernel
theorem x_428_49 : decode (q_code 428) 49 = .ok (.if_icmp .ne 8, 3) := by decide +kernel
theorem x_428_52 : decode (q_code 428) 52 = .ok (.aload_n 0, 1) := by decide +kernel
theorem x_428_53 : decode (q_code 428) 53 = .ok (.getfield 1013, 3) := by decide +kernel
theorem x_428_56 : decode (q_code 428) 56 = .ok (.ireturn, 1) := by decide +kernel
theorem x_428_57 : decode (q_code 428) 57 = .ok (.iload_n 1, 1) := by decide +kernel
theorem x_428_58 : decode (q_code 428) 58 = .ok (.iconst 4, 1) := by decide +kernel
theorem x_428_59 : decode (q_code 428) 59 = .ok (.if_icmp .eq 10, 3) := by decide +kernel
theorem x_428_62 : decode (q_code 428) 62 = .ok (.iload_n 1, 1) := by decide +kernel
theorem x_428_63 : decode (q_code 428) 63 = .ok (.iconst 5, 1) := by decide +kernel
theorem x_428_64 : decode (q_code 428) 64 = .ok (.if_icmp .eq 5, 3) := by decide +kernel
theorem x_428_67 : decode (q_code 428) 67 = .ok (.iconst (-1), 1) := by decide +kernel
theorem x_428_68 : decode (q_code 428) 68 = .ok (.ireturn, 1) := by decide +kernel
theorem x_428_69 : decode (q_code 428) 69 = .ok (.iconst 0, 1) := by decide +kernel
theorem x_428_70 : decode (q_code 428) 70 = .ok (.istore_n 2, 1) := by decide +kernel
theorem x_428_71 : decode (q_code 428) 71 = .ok (.iconst 4, 1) := by decide +kernel
theorem x_428_72 : decode (q_code 428) 72 = .ok (.iload_n 1, 1) := by decide +kernel
theorem x_428_73 : decode (q_code 428) 73 = .ok (.iconst 4, 1) := by decide +kernel
theorem x_428_74 : decode (q_code 428) 74 = .ok (.isub, 1) := by decide +kernel
theorem x_428_75 : decode (q_code 428) 75 = .ok (.imul, 1) := by decide +kernel
theorem x_428_76 : decode (q_code 428) 76 = .ok (.istore_n 3, 1) := by decide +kernel
theorem x_428_77 : decode (q_code 428) 77 = .ok (.iload_n 3, 1) := by decide +kernel
theorem x_428_78 : decode (q_code 428) 78 = .ok (.iconst 4, 1) := by decide +kernel
theorem x_428_79 : decode (q_code 428) 79 = .ok (.iload_n 1, 1) := by decide +kernel
theorem x_428_80 : decode (q_code 428) 80 = .ok (.iconst 4, 1) := by decide +kernel
theorem x_428_81 : decode (q_code 428) 81 = .ok (.isub, 1) := by decide +kernel
theorem x_428_82 : decode (q_code 428) 82 = .ok (.imul, 1) := by decide +kernel
theorem x_428_83 : decode (q_code 428) 83 = .ok (.iconst 4, 1) := by decide +kernel
theorem x_428_84 : decode (q_code 428) 84 = .ok (.iadd, 1) := by decide +kernel
theorem x_428_85 : decode (q_code 428) 85 = .ok (.if_icmp .ge 26, 3) := by decide +kernel
theorem x_428_88 : decode (q_code 428) 88 = .ok (.iload_n 2, 1) := by decide +kernel
theorem x_428_89 : decode (q_code 428) 89 = .ok (.aload_n 0, 1) := by decide +kernel
theorem x_428_90 : decode (q_code 428) 90 = .ok (.getfield 43, 3) := by decide +kernel
theorem x_428_93 : decode (q_code 428) 93 = .ok (.iload_n 3, 1) := by decide +kernel
theorem x_428_94 : decode (q_code 428) 94 = .ok (.baload, 1) := by decide +kernel
theorem x_428_95 : decode (q_code 428) 95 = .ok (.ifCond .eq 7, 3) := by decide +kernel
theorem x_428_98 : decode (q_code 428) 98 = .ok (.iconst 1, 1) := by decide +kernel
theorem x_428_99 : decode (q_code 428) 99 = .ok (.goto 4, 3) := by decide +kernel
theorem x_428_102 : decode (q_code 428) 102 = .ok (.iconst 0, 1) := by decide +kernel
theorem x_428_103 : decode (q_code 428) 103 = .ok (.iadd, 1) := by decide +kernel
theorem x_428_104 : decode (q_code 428) 104 = .ok (.istore_n 2, 1) := by decide +kernel
theorem x_428_105 : decode (q_code 428) 105 = .ok (.iinc 3 1, 3) := by decide +kernel
theorem x_428_108 : decode (q_code 428) 108 = .ok (.goto (-31), 3) := by decide +kernel
theorem x_428_111 : decode (q_code 428) 111 = .ok (.iload_n 2, 1) := by decide +kernel
theorem x_428_112 : decode (q_code 428) 112 = .ok (.ireturn, 1) := by decide +kernel
theorem x_429_0 : decode (q_code 429) 0 = .ok (.iload_n 1, 1) := by decide +kernel
theorem x_429_1 : decode (q_code 429) 1 = .ok (.ifCond .eq 8, 3) := by decide +kernel
theorem x_429_4 : decode (q_code 429) 4 = .ok (.iload_n 1, 1) := by decide +kernel
theorem x_429_5 : decode (q_code 429) 5 = .ok (.iconst 1, 1) := by decide +kernel
theorem x_429_6 : decode (q_code 429) 6 = .ok (.if_icmp .ne 21, 3) := by decide +kernel
theorem x_429_9 : decode (q_code 429) 9 = .ok (.iload_n 2, 1) := by decide +kernel
theorem x_429_10 : decode (q_code 429) 10 = .ok (.ifCond .lt 17, 3) := by decide +kernel
theorem x_429_13 : decode (q_code 429) 13 = .ok (.iload_n 2, 1) := by decide +kernel
theorem x_429_14 : decode (q_code 429) 14 = .ok (.aload_n 0, 1) := by decide +kernel
theorem x_429_15 : decode (q_code 429) 15 = .ok (.getfield 109, 3) := by decide +kernel
theorem x_429_18 : decode (q_code 429) 18 = .ok (.iload_n 1, 1) := by decide +kernel
theorem x_429_19 : decode (q_code 429) 19 = .ok (.iaload, 1) := by decide +kernel
theorem x_429_20 : decode (q_code 429) 20 = .ok (.if_icmp .ge 7, 3) := by decide +kernel
theorem x_429_23 : decode (q_code 429) 23 = .ok (.iconst 1, 1) := by decide +kernel
theorem x_429_24 : decode (q_code 429) 24 = .ok (.goto 4, 3) := by decide +kernel
theorem x_429_27 : decode (q_code 429) 27 = .ok (.iconst 0, 1) := by decide +kernel
theorem x_429_28 : decode (q_code 429) 28 = .ok (.ireturn, 1) := by decide +kernel
theorem x_430_0 : decode (q_code 430) 0 = .ok (.aload_n 0, 1) := by decide +kernel
theorem x_430_1 : decode (q_code 430) 1 = .ok (.iload_n 1, 1) := by decide +kernel
theorem x_430_2 : decode (q_code 430) 2 = .ok (.iload_n 2, 1) := by decide +kernel
theorem x_430_3 : decode (q_code 430) 3 = .ok (.invokevirtual 1030, 3) := by decide +kernel
theorem x_430_6 : decode (q_code 430) 6 = .ok (.ifCond .eq 18, 3) := by decide +kernel
theorem x_430_9 : decode (q_code 430) 9 = .ok (.aload_n 0, 1) := by decide +kernel
theorem x_430_10 : decode (q_code 430) 10 = .ok (.getfield 121, 3) := by decide +kernel
theorem x_430_13 : decode (q_code 430) 13 = .ok (.sipush 200, 3) := by decide +kernel
theorem x_430_16 : decode (q_code 430) 16 = .ok (.iload_n 1, 1) := by decide +kernel
theorem x_430_17 : decode (q_code 430) 17 = .ok (.imul, 1) := by decide +kernel
theorem x_430_18 : decode (q_code 430) 18 = .ok (.iload_n 2, 1) := by decide +kernel
theorem x_430_19 : decode (q_code 430) 19 = .ok (.iadd, 1) := by decide +kernel
theorem x_430_20 : decode (q_code 430) 20 = .ok (.iaload, 1) := by decide +kernel
theorem x_430_21 : decode (q_code 430) 21 = .ok (.goto 4, 3) := by decide +kernel
theorem x_430_24 : decode (q_code 430) 24 = .ok (.iconst 0, 1) := by decide +kernel
theorem x_430_25 : decode (q_code 430) 25 = .ok (.ireturn, 1) := by decide +kernel
theorem x_431_0 : decode (q_code 431) 0 = .ok (.aload_n 0, 1) := by decide +kernel
theorem x_431_1 : decode (q_code 431) 1 = .ok (.iload_n 1, 1) := by decide +kernel
theorem x_431_2 : decode (q_code 431) 2 = .ok (.iload_n 2, 1) := by decide +kernel
theorem x_431_3 : decode (q_code 431) 3 = .ok (.invokevirtual 1030, 3) := by decide +kernel
theorem x_431_6 : decode (q_code 431) 6 = .ok (.ifCond .eq 16, 3) := by decide +kernel
theorem x_431_9 : decode (q_code 431) 9 = .ok (.aload_n 0, 1) := by decide +kernel
theorem x_431_10 : decode (q_code 431) 10 = .ok (.aload_n 0, 1) := by decide +kernel
theorem x_431_11 : decode (q_code 431) 11 = .ok (.iload_n 1, 1) := by decide +kernel
theorem x_431_12 : decode (q_code 431) 12 = .ok (.iload_n 2, 1) := by decide +kernel
theorem x_431_13 : decode (q_code 431) 13 = .ok (.invokevirtual 912, 3) := by decide +kernel
theorem x_431_16 : decode (q_code 431) 16 = .ok (.invokevirtual 145, 3) := by decide +kernel
theorem x_431_19 : decode (q_code 431) 19 = .ok (.goto 4, 3) := by decide +kernel
theorem x_431_22 : decode (q_code 431) 22 = .ok (.iconst (-1), 1) := by decide +kernel
theorem x_431_23 : decode (q_code 431) 23 = .ok (.ireturn, 1) := by decide +kernel
theorem x_432_0 : decode (q_code 432) 0 = .ok (.aload_n 0, 1) := by decide +kernel
theorem x_432_1 : decode (q_code 432) 1 = .ok (.iload_n 1, 1) := by decide +kernel
theorem x_432_2 : decode (q_code 432) 2 = .ok (.iload_n 2, 1) := by decide +kernel
theorem x_432_3 : decode (q_code 432) 3 = .ok (.invokevirtual 1030, 3) := by decide +kernel
theorem x_432_6 : decode (q_code 432) 6 = .ok (.ifCond .eq 36, 3) := by decide +kernel
theorem x_432_9 : decode (q_code 432) 9 = .ok (.iload_n 3, 1) := by decide +kernel
theorem x_432_10 : decode (q_code 432) 10 = .ok (.ifCond .lt 32, 3) := by decide +kernel
theorem x_432_13 : decode (q_code 432) 13 = .ok (.iload_n 3, 1) := by decide +kernel
theorem x_432_14 : decode (q_code 432) 14 = .ok (.aload_n 0, 1) := by decide +kernel
theorem x_432_15 : decode (q_code 432) 15 = .ok (.aload_n 0, 1) := by decide +kernel
theorem x_432_16 : decode (q_code 432) 16 = .ok (.iload_n 1, 1) := by decide +kernel
theorem x_432_17 : decode (q_code 432) 17 = .ok (.iload_n 2, 1) := by decide +kernel
theorem x_432_18 : decode (q_code 432) 18 = .ok (.invokevirtual 912, 3) := by decide +kernel
theorem x_432_21 : decode (q_code 432) 21 = .ok (.invokevirtual 145, 3) := by decide +kernel
theorem x_432_24 : decode (q_code 432) 24 = .ok (.if_icmp .ge 18, 3) := by decide +kernel
theorem x_432_27 : decode (q_code 432) 27 = .ok (.aload_n 0, 1) := by decide +kernel
theorem x_432_28 : decode (q_code 432) 28 = .ok (.aload_n 0, 1) := by decide +kernel
theorem x_432_29 : decode (q_code 432) 29 = .ok (.iload_n 1, 1) := by decide +kernel
theorem x_432_30 : decode (q_code 432) 30 = .ok (.iload_n 2, 1) := by decide +kernel
theorem x_432_31 : decode (q_code 432) 31 = .ok (.invokevirtual 912, 3) := by decide +kernel
theorem x_432_34 : decode (q_code 432) 34 = .ok (.iload_n 3, 1) := by decide +kernel
theorem x_432_35 : decode (q_code 432) 35 = .ok (.iadd, 1) := by decide +kernel
theorem x_432_36 : decode (q_code 432) 36 = .ok (.invokevirtual 141, 3) := by decide +kernel
theorem x_432_39 : decode (q_code 432) 39 = .ok (.goto 4, 3) := by decide +kernel
theorem x_432_42 : decode (q_code 432) 42 = .ok (.iconst (-1), 1) := by decide +kernel
theorem x_432_43 : decode (q_code 432) 43 = .ok (.ireturn, 1) := by decide +kernel
theorem m_X12_join {d : Nat} {M : g_M} {Q : g_M → Prop} {a0 : Nat} {v1 : Int} (hv1 : g_InR v1) {v2 : Int} (hv2 : g_InR v2) {v3 : Int} (hv3 : g_InR v3) (h : g_ok M → g_O M a0 12 ∧ ∃ b2, g_r M a0 51 = some b2 ∧ g_Call d 369 [.ref a0, g_n v1, g_n v2, g_n v3] M (g_qI fun r7 M4 => g_ext M M4 → g_ok M4 → g_InR r7 → ∃ n9, g_A M4 b2 1 n9 ∧ ((0 : Int) ≤ r7 ∧ (r7 : Int) < n9) ∧ ∃ b12, g_r M4 a0 51 = some b12 ∧ g_InR (v3 + 1) ∧ g_Call d 369 [.ref a0, g_n v1, g_n v2, g_n (v3 + 1)] M4 (g_qI fun r18 M15 => g_ext M4 M15 → g_ok M15 → g_InR r18 → ∃ n20, g_A M15 b12 1 n20 ∧ ((0 : Int) ≤ r18 ∧ (r18 : Int) < n20) ∧ g_Call d 367 [.ref a0, g_n v1, g_n (g_i M15 b12 r18)] M15 (g_qI fun r26 M23 => g_ext M15 M23 → g_ok M23 → g_InR r26 → g_Run d 382 42 [(0, .ref a0), (1, g_n v1), (2, g_n v2), (3, g_n v3), (4, g_n (g_i M4 b2 r7)), (5, g_n (g_i M15 b12 r18)), (6, g_n r26), (7, g_n 0)] [] M23 (g_qV Q))))) : g_Call (d + 1) 382 [.ref a0, g_n v1, g_n v2, g_n v3] M (g_qV Q) := by
  refine g_Call.ok fun hok0 => ?_
  replace h := h hok0
  refine r_body rfl (lv := [(0, .ref a0), (1, g_n v1), (2, g_n v2), (3, g_n v3)]) rfl ?_
  refine g_Run.ok fun hok => ?_
  refine r_aload_n x_382_0 rfl ?_
  obtain ⟨hO1, h⟩ := h
  obtain ⟨b2, hb3, h⟩ := h
  refine r_getR x_382_1 rfl (ci := 12) (k := 51) (ns := 0) (by decide +kernel) (by decide) rfl (kz := 51) rfl hO1 hb3 ?_
  refine r_aload_n x_382_4 rfl ?_
  refine r_iload_n x_382_5 rfl ?_
  refine r_iload_n x_382_6 rfl ?_
  refine r_iload_n x_382_7 rfl ?_
  refine r_invV x_382_8 (z := 369) (ns := 0) (by decide +kernel) (as := [g_n v1, g_n v2, g_n v3]) (r := [.ref b2]) rfl rfl rfl hO1 rfl rfl ?_
  refine r_callI h fun r7 M4 hx5 hok6 hr8 h => ?_
  replace h := h hx5 hok6 hr8
  replace hO1 := hO1.up hx5
  obtain ⟨n9, hA10, h⟩ := h
  obtain ⟨h11, h⟩ := h
  refine r_iald x_382_11 hA10 hr8 h11.1 h11.2 ?_
  refine r_istore x_382_12 (by decide +kernel) rfl (lv1 := [(0, .ref a0), (1, g_n v1), (2, g_n v2), (3, g_n v3), (4, g_n (g_i M4 b2 r7))]) rfl ?_
  refine r_aload_n x_382_14 rfl ?_
  obtain ⟨b12, hb13, h⟩ := h
  refine r_getR x_382_15 rfl (ci := 12) (k := 51) (ns := 0) (by decide +kernel) (by decide) rfl (kz := 51) rfl hO1 hb13 ?_
  refine r_aload_n x_382_18 rfl ?_
  refine r_iload_n x_382_19 rfl ?_
  refine r_iload_n x_382_20 rfl ?_
  refine r_iload_n x_382_21 rfl ?_
  refine r_iconst x_382_22 ?_
  refine r_iadd x_382_23 ?_
  obtain ⟨h14, h⟩ := h
  refine r_invV x_382_24 (z := 369) (ns := 0) (by decide +kernel) (as := [g_n v1, g_n v2, g_n (v3 + 1)]) (r := [.ref b12]) rfl rfl rfl hO1 rfl rfl ?_
  refine r_callI h fun r18 M15 hx16 hok17 hr19 h => ?_
  replace h := h hx16 hok17 hr19
  replace hO1 := hO1.up hx16
  replace hA10 := hA10.up hx16
  obtain ⟨n20, hA21, h⟩ := h
  obtain ⟨h22, h⟩ := h
  refine r_iald x_382_27 hA21 hr19 h22.1 h22.2 ?_
  refine r_istore x_382_28 (by decide +kernel) rfl (lv1 := [(0, .ref a0), (1, g_n v1), (2, g_n v2), (3, g_n v3), (4, g_n (g_i M4 b2 r7)), (5, g_n (g_i M15 b12 r18))]) rfl ?_
  refine r_aload_n x_382_30 rfl ?_
  refine r_iload_n x_382_31 rfl ?_
  refine r_iload x_382_32 rfl ?_
  refine r_invV x_382_34 (z := 367) (ns := 0) (by decide +kernel) (as := [g_n v1, g_n (g_i M15 b12 r18)]) (r := []) rfl rfl rfl hO1 rfl rfl ?_
  refine r_callI h fun r26 M23 hx24 hok25 hr27 h => ?_
  replace h := h hx24 hok25 hr27
  replace hO1 := hO1.up hx24
  replace hA10 := hA10.up hx24
  replace hA21 := hA21.up hx24
  refine r_istore x_382_37 (by decide +kernel) rfl (lv1 := [(0, .ref a0), (1, g_n v1), (2, g_n v2), (3, g_n v3), (4, g_n (g_i M4 b2 r7)), (5, g_n (g_i M15 b12 r18)), (6, g_n r26)]) rfl ?_
  refine r_iconst x_382_39 ?_
  refine r_istore x_382_40 (by decide +kernel) rfl (lv1 := [(0, .ref a0), (1, g_n v1), (2, g_n v2), (3, g_n v3), (4, g_n (g_i M4 b2 r7)), (5, g_n (g_i M15 b12 r18)), (6, g_n r26), (7, g_n 0)]) rfl ?_
  exact h
theorem s_X12_join_42 {d : Nat} {M : g_M} {Q : g_M → Prop} {a0 : Nat} {v1 : Int} (hv1 : g_InR v1) {v2 : Int} (hv2 : g_InR v2) {v3 : Int} (hv3 : g_InR v3) {v4 : Int} (hv4 : g_InR v4) {v5 : Int} (hv5 : g_InR v5) {v6 : Int} (hv6 : g_InR v6) {v7 : Int} (hv7 : g_InR v7) (h : g_ok M → ((v7 < v6 → g_O M a0 12 ∧ g_Call d 367 [.ref a0, g_n v1, g_n v4] M (g_qI fun r21 M18 => g_ext M M18 → g_ok M18 → g_InR r21 → ∃ b23, g_r M18 a0 51 = some b23 ∧ g_Call d 369 [.ref a0, g_n v1, g_n v5, g_n v7] M18 (g_qI fun r28 M25 => g_ext M18 M25 → g_ok M25 → g_InR r28 → ∃ n30, g_A M25 b23 1 n30 ∧ ((0 : Int) ≤ r28 ∧ (r28 : Int) < n30) ∧ ((v7 = 0 → ∃ b47, g_r M25 a0 52 = some b47 ∧ g_InR (v3 + 1) ∧ g_Call d 369 [.ref a0, g_n v1, g_n v2, g_n (v3 + 1)] M25 (g_qI fun r53 M50 => g_ext M25 M50 → g_ok M50 → g_InR r53 → ∃ n55, g_A M50 b47 1 n55 ∧ ((0 : Int) ≤ r53 ∧ (r53 : Int) < n55) ∧ g_Call d 372 [.ref a0, g_n v1, g_n v4, g_n r21, g_n (g_i M25 b23 r28), g_n (g_i M50 b47 r53)] M50 (g_qV fun M58 => g_ext M50 M58 → g_ok M58 → g_InR (v7 + 1) ∧ g_Run d 382 42 [(0, .ref a0), (1, g_n v1), (2, g_n v2), (3, g_n v3), (4, g_n v4), (5, g_n v5), (6, g_n v6), (7, g_n (v7 + 1))] [] M58 (g_qV Q)))) ∧ (¬ v7 = 0 → ∃ b33, g_r M25 a0 52 = some b33 ∧ g_Call d 369 [.ref a0, g_n v1, g_n v5, g_n v7] M25 (g_qI fun r38 M35 => g_ext M25 M35 → g_ok M35 → g_InR r38 → ∃ n40, g_A M35 b33 1 n40 ∧ ((0 : Int) ≤ r38 ∧ (r38 : Int) < n40) ∧ g_Call d 372 [.ref a0, g_n v1, g_n v4, g_n r21, g_n (g_i M25 b23 r28), g_n (g_i M35 b33 r38)] M35 (g_qV fun M43 => g_ext M35 M43 → g_ok M43 → g_InR (v7 + 1) ∧ g_Run d 382 42 [(0, .ref a0), (1, g_n v1), (2, g_n v2), (3, g_n v3), (4, g_n v4), (5, g_n v5), (6, g_n v6), (7, g_n (v7 + 1))] [] M43 (g_qV Q)))))))) ∧ (¬ v7 < v6 → g_O M a0 12 ∧ ∃ b2, g_r M a0 48 = some b2 ∧ g_InR (v1 * 600) ∧ g_InR ((v1 * 600) + v5) ∧ ∃ n6, g_A M b2 2 n6 ∧ ((0 : Int) ≤ (v1 * 600) + v5 ∧ ((v1 * 600) + v5 : Int) < n6) ∧ (∀ M9, M9 = g_wi M b2 ((v1 * 600) + v5) 0 → g_ok M9 → g_InR (v3 + 1) ∧ g_Call d 373 [.ref a0, g_n v1, g_n v2, g_n (v3 + 1)] M9 (g_qV fun M14 => g_ext M9 M14 → g_ok M14 → Q M14))))) : g_Run d 382 42 [(0, .ref a0), (1, g_n v1), (2, g_n v2), (3, g_n v3), (4, g_n v4), (5, g_n v5), (6, g_n v6), (7, g_n v7)] [] M (g_qV Q) := by
  refine g_Run.ok fun hok => ?_
  replace h := h hok
  refine r_iload x_382_42 rfl ?_
  refine r_iload x_382_44 rfl ?_
  refine r_ic_ge x_382_46 (t := 119) (by decide +kernel) hv7 hv6 (fun hc => ?_) (fun hc => ?_)
  · replace h := h.2 hc
    refine r_aload_n x_382_119 rfl ?_
    obtain ⟨hO1, h⟩ := h
    obtain ⟨b2, hb3, h⟩ := h
    refine r_getR x_382_120 rfl (ci := 12) (k := 48) (ns := 0) (by decide +kernel) (by decide) rfl (kz := 48) rfl hO1 hb3 ?_
    refine r_iload_n x_382_123 rfl ?_
    refine r_sipush x_382_124 (x := 600) rfl ?_
    refine r_imul x_382_127 ?_
    obtain ⟨h4, h⟩ := h
    refine r_iload x_382_128 rfl ?_
    refine r_iadd x_382_130 ?_
    obtain ⟨h5, h⟩ := h
    refine r_iconst x_382_131 ?_
    obtain ⟨n6, hA7, h⟩ := h
    obtain ⟨h8, h⟩ := h
    refine r_bast2 x_382_132 hA7 h5 h8.1 h8.2 (Or.inl rfl) ?_
    obtain ⟨M9, hM10⟩ : ∃ Mz, Mz = g_wi M b2 ((v1 * 600) + v5) 0 := ⟨_, rfl⟩
    rw [← hM10]
    refine g_Run.ok fun hok11 => ?_
    replace h := h M9 hM10 hok11
    have hx12 := g_extW hM10
    replace hO1 := hO1.up hx12
    replace hA7 := hA7.up hx12
    refine r_aload_n x_382_133 rfl ?_
    refine r_iload_n x_382_134 rfl ?_
    refine r_iload_n x_382_135 rfl ?_
    refine r_iload_n x_382_136 rfl ?_
    refine r_iconst x_382_137 ?_
    refine r_iadd x_382_138 ?_
    obtain ⟨h13, h⟩ := h
    refine r_invV x_382_139 (z := 373) (ns := 0) (by decide +kernel) (as := [g_n v1, g_n v2, g_n (v3 + 1)]) (r := []) rfl rfl rfl hO1 rfl rfl ?_
    refine r_callV h fun M14 hx15 hok16 h => ?_
    replace h := h hx15 hok16
    replace hO1 := hO1.up hx15
    replace hA7 := hA7.up hx15
    exact r_retV x_382_142 rfl h
  · replace h := h.1 hc
    refine r_aload_n x_382_49 rfl ?_
    refine r_iload_n x_382_50 rfl ?_
    refine r_iload x_382_51 rfl ?_
    refine r_aload_n x_382_53 rfl ?_
    refine r_iload_n x_382_54 rfl ?_
    refine r_iload x_382_55 rfl ?_
    obtain ⟨hO17, h⟩ := h
    refine r_invV x_382_57 (z := 367) (ns := 0) (by decide +kernel) (as := [g_n v1, g_n v4]) (r := [g_n v4, g_n v1, .ref a0]) rfl rfl rfl hO17 rfl rfl ?_
    refine r_callI h fun r21 M18 hx19 hok20 hr22 h => ?_
    replace h := h hx19 hok20 hr22
    replace hO17 := hO17.up hx19
    refine r_aload_n x_382_60 rfl ?_
    obtain ⟨b23, hb24, h⟩ := h
    refine r_getR x_382_61 rfl (ci := 12) (k := 51) (ns := 0) (by decide +kernel) (by decide) rfl (kz := 51) rfl hO17 hb24 ?_
    refine r_aload_n x_382_64 rfl ?_
    refine r_iload_n x_382_65 rfl ?_
    refine r_iload x_382_66 rfl ?_
    refine r_iload x_382_68 rfl ?_
    refine r_invV x_382_70 (z := 369) (ns := 0) (by decide +kernel) (as := [g_n v1, g_n v5, g_n v7]) (r := [.ref b23, g_n r21, g_n v4, g_n v1, .ref a0]) rfl rfl rfl hO17 rfl rfl ?_
    refine r_callI h fun r28 M25 hx26 hok27 hr29 h => ?_
    replace h := h hx26 hok27 hr29
    replace hO17 := hO17.up hx26
    obtain ⟨n30, hA31, h⟩ := h
    obtain ⟨h32, h⟩ := h
    refine r_iald x_382_73 hA31 hr29 h32.1 h32.2 ?_
    refine r_iload x_382_74 rfl ?_
    refine r_if_ne x_382_76 (t := 96) (by decide +kernel) hv7 (fun hc => ?_) (fun hc => ?_)
    · replace h := h.2 hc
      refine r_aload_n x_382_96 rfl ?_
      obtain ⟨b33, hb34, h⟩ := h
      refine r_getR x_382_97 rfl (ci := 12) (k := 52) (ns := 0) (by decide +kernel) (by decide) rfl (kz := 52) rfl hO17 hb34 ?_
      refine r_aload_n x_382_100 rfl ?_
      refine r_iload_n x_382_101 rfl ?_
      refine r_iload x_382_102 rfl ?_
      refine r_iload x_382_104 rfl ?_
      refine r_invV x_382_106 (z := 369) (ns := 0) (by decide +kernel) (as := [g_n v1, g_n v5, g_n v7]) (r := [.ref b33, g_n (g_i M25 b23 r28), g_n r21, g_n v4, g_n v1, .ref a0]) rfl rfl rfl hO17 rfl rfl ?_
      refine r_callI h fun r38 M35 hx36 hok37 hr39 h => ?_
      replace h := h hx36 hok37 hr39
      replace hO17 := hO17.up hx36
      replace hA31 := hA31.up hx36
      obtain ⟨n40, hA41, h⟩ := h
      obtain ⟨h42, h⟩ := h
      refine r_iald x_382_109 hA41 hr39 h42.1 h42.2 ?_
      refine r_invV x_382_110 (z := 372) (ns := 0) (by decide +kernel) (as := [g_n v1, g_n v4, g_n r21, g_n (g_i M25 b23 r28), g_n (g_i M35 b33 r38)]) (r := []) rfl rfl rfl hO17 rfl rfl ?_
      refine r_callV h fun M43 hx44 hok45 h => ?_
      replace h := h hx44 hok45
      replace hO17 := hO17.up hx44
      replace hA31 := hA31.up hx44
      replace hA41 := hA41.up hx44
      obtain ⟨h46, h⟩ := h
      refine r_iinc x_382_113 (by decide +kernel) rfl rfl (lv1 := [(0, .ref a0), (1, g_n v1), (2, g_n v2), (3, g_n v3), (4, g_n v4), (5, g_n v5), (6, g_n v6), (7, g_n (v7 + 1))]) rfl ?_
      refine r_goto x_382_116 (t := 42) (by decide +kernel) ?_
      exact h
    · replace h := h.1 hc
      refine r_aload_n x_382_79 rfl ?_
      obtain ⟨b47, hb48, h⟩ := h
      refine r_getR x_382_80 rfl (ci := 12) (k := 52) (ns := 0) (by decide +kernel) (by decide) rfl (kz := 52) rfl hO17 hb48 ?_
      refine r_aload_n x_382_83 rfl ?_
      refine r_iload_n x_382_84 rfl ?_
      refine r_iload_n x_382_85 rfl ?_
      refine r_iload_n x_382_86 rfl ?_
      refine r_iconst x_382_87 ?_
      refine r_iadd x_382_88 ?_
      obtain ⟨h49, h⟩ := h
      refine r_invV x_382_89 (z := 369) (ns := 0) (by decide +kernel) (as := [g_n v1, g_n v2, g_n (v3 + 1)]) (r := [.ref b47, g_n (g_i M25 b23 r28), g_n r21, g_n v4, g_n v1, .ref a0]) rfl rfl rfl hO17 rfl rfl ?_
      refine r_callI h fun r53 M50 hx51 hok52 hr54 h => ?_
      replace h := h hx51 hok52 hr54
      replace hO17 := hO17.up hx51
      replace hA31 := hA31.up hx51
      obtain ⟨n55, hA56, h⟩ := h
      obtain ⟨h57, h⟩ := h
      refine r_iald x_382_92 hA56 hr54 h57.1 h57.2 ?_
      refine r_goto x_382_93 (t := 110) (by decide +kernel) ?_
      refine r_invV x_382_110 (z := 372) (ns := 0) (by decide +kernel) (as := [g_n v1, g_n v4, g_n r21, g_n (g_i M25 b23 r28), g_n (g_i M50 b47 r53)]) (r := []) rfl rfl rfl hO17 rfl rfl ?_
      refine r_callV h fun M58 hx59 hok60 h => ?_
      replace h := h hx59 hok60
      replace hO17 := hO17.up hx59
      replace hA31 := hA31.up hx59
      replace hA56 := hA56.up hx59
      obtain ⟨h61, h⟩ := h
      refine r_iinc x_382_113 (by decide +kernel) rfl rfl (lv1 := [(0, .ref a0), (1, g_n v1), (2, g_n v2), (3, g_n v3), (4, g_n v4), (5, g_n v5), (6, g_n v6), (7, g_n (v7 + 1))]) rfl ?_
      refine r_goto x_382_116 (t := 42) (by decide +kernel) ?_
      exact h
theorem m_X12_leave {d : Nat} {M : g_M} {Q : g_M → Prop} {a0 : Nat} {v1 : Int} (hv1 : g_InR v1) {v2 : Int} (hv2 : g_InR v2) {v3 : Int} (hv3 : g_InR v3) {v4 : Int} (hv4 : g_InR v4) (h : g_ok M → g_O M a0 12 ∧ g_Call d 364 [.ref a0, g_n v1, g_n v2, g_n v3, g_n v4] M (g_qI fun r5 M2 => g_ext M M2 → g_ok M2 → g_InR r5 → ∃ b7, g_r M2 a0 53 = some b7 ∧ ∃ n9, g_A M2 b7 1 n9 ∧ ((0 : Int) ≤ v1 ∧ (v1 : Int) < n9) ∧ g_Call d 379 [.ref a0, g_n v1, g_n (g_i M2 b7 v1), g_n r5] M2 (g_qV fun M12 => g_ext M2 M12 → g_ok M12 → ∃ b15, g_r M12 a0 45 = some b15 ∧ g_InR (v1 * 1500) ∧ g_InR ((v1 * 1500) + r5) ∧ ∃ n19, g_A M12 b15 2 n19 ∧ ((0 : Int) ≤ (v1 * 1500) + r5 ∧ ((v1 * 1500) + r5 : Int) < n19) ∧ (∀ M22, M22 = g_wi M12 b15 ((v1 * 1500) + r5) 0 → g_ok M22 → ∃ b26, g_r M22 a0 53 = some b26 ∧ ∃ n28, g_A M22 b26 1 n28 ∧ ((0 : Int) ≤ v1 ∧ (v1 : Int) < n28) ∧ g_Call d 376 [.ref a0, g_n v1, g_n (g_i M22 b26 v1)] M22 (g_qI fun r34 M31 => g_ext M22 M31 → g_ok M31 → g_InR r34 → ((r34 = 0 → g_Call d 367 [.ref a0, g_n v1, g_n (g_i M22 b26 v1)] M31 (g_qI fun r50 M47 => g_ext M31 M47 → g_ok M47 → g_InR r50 → ((r50 = 1 → ∃ b63, g_r M47 a0 53 = some b63 ∧ ∃ b65, g_r M47 a0 51 = some b65 ∧ g_Call d 369 [.ref a0, g_n v1, g_n (g_i M22 b26 v1), g_n 0] M47 (g_qI fun r70 M67 => g_ext M47 M67 → g_ok M67 → g_InR r70 → ∃ n72, g_A M67 b65 1 n72 ∧ ((0 : Int) ≤ r70 ∧ (r70 : Int) < n72) ∧ ∃ n75, g_A M67 b63 1 n75 ∧ ((0 : Int) ≤ v1 ∧ (v1 : Int) < n75) ∧ (∀ M78, M78 = g_wi M67 b63 v1 (g_i M67 b65 r70) → g_ok M78 → ∃ b82, g_r M78 a0 48 = some b82 ∧ g_InR (v1 * 600) ∧ g_InR ((v1 * 600) + (g_i M22 b26 v1)) ∧ ∃ n86, g_A M78 b82 2 n86 ∧ ((0 : Int) ≤ (v1 * 600) + (g_i M22 b26 v1) ∧ ((v1 * 600) + (g_i M22 b26 v1) : Int) < n86) ∧ (∀ M89, M89 = g_wi M78 b82 ((v1 * 600) + (g_i M22 b26 v1)) 0 → g_ok M89 → ∃ b93, g_r M89 a0 54 = some b93 ∧ ∃ n95, g_A M89 b93 1 n95 ∧ ((0 : Int) ≤ v1 ∧ (v1 : Int) < n95) ∧ g_InR ((g_i M89 b93 v1) - 1) ∧ ((0 : Int) ≤ v1 ∧ (v1 : Int) < n95) ∧ (∀ M100, M100 = g_wi M89 b93 v1 ((g_i M89 b93 v1) - 1) → g_ok M100 → Q M100))))) ∧ (¬ r50 = 1 → ∃ b52, g_r M47 a0 54 = some b52 ∧ ∃ n54, g_A M47 b52 1 n54 ∧ ((0 : Int) ≤ v1 ∧ (v1 : Int) < n54) ∧ g_InR ((g_i M47 b52 v1) - 1) ∧ ((0 : Int) ≤ v1 ∧ (v1 : Int) < n54) ∧ (∀ M59, M59 = g_wi M47 b52 v1 ((g_i M47 b52 v1) - 1) → g_ok M59 → Q M59))))) ∧ (¬ r34 = 0 → ∃ b36, g_r M31 a0 54 = some b36 ∧ ∃ n38, g_A M31 b36 1 n38 ∧ ((0 : Int) ≤ v1 ∧ (v1 : Int) < n38) ∧ g_InR ((g_i M31 b36 v1) - 1) ∧ ((0 : Int) ≤ v1 ∧ (v1 : Int) < n38) ∧ (∀ M43, M43 = g_wi M31 b36 v1 ((g_i M31 b36 v1) - 1) → g_ok M43 → Q M43)))))))) : g_Call (d + 1) 383 [.ref a0, g_n v1, g_n v2, g_n v3, g_n v4] M (g_qV Q) := by
  refine g_Call.ok fun hok0 => ?_
  replace h := h hok0
  refine r_body rfl (lv := [(0, .ref a0), (1, g_n v1), (2, g_n v2), (3, g_n v3), (4, g_n v4)]) rfl ?_
  refine g_Run.ok fun hok => ?_
  refine r_aload_n x_383_0 rfl ?_
  refine r_iload_n x_383_1 rfl ?_
  refine r_iload_n x_383_2 rfl ?_
  refine r_iload_n x_383_3 rfl ?_
  refine r_iload x_383_4 rfl ?_
  obtain ⟨hO1, h⟩ := h
  refine r_invV x_383_6 (z := 364) (ns := 0) (by decide +kernel) (as := [g_n v1, g_n v2, g_n v3, g_n v4]) (r := []) rfl rfl rfl hO1 rfl rfl ?_
  refine r_callI h fun r5 M2 hx3 hok4 hr6 h => ?_
  replace h := h hx3 hok4 hr6
  replace hO1 := hO1.up hx3
  refine r_istore x_383_9 (by decide +kernel) rfl (lv1 := [(0, .ref a0), (1, g_n v1), (2, g_n v2), (3, g_n v3), (4, g_n v4), (5, g_n r5)]) rfl ?_
  refine r_aload_n x_383_11 rfl ?_
  refine r_iload_n x_383_12 rfl ?_
  refine r_aload_n x_383_13 rfl ?_
  obtain ⟨b7, hb8, h⟩ := h
  refine r_getR x_383_14 rfl (ci := 12) (k := 53) (ns := 0) (by decide +kernel) (by decide) rfl (kz := 53) rfl hO1 hb8 ?_
  refine r_iload_n x_383_17 rfl ?_
  obtain ⟨n9, hA10, h⟩ := h
  obtain ⟨h11, h⟩ := h
  refine r_iald x_383_18 hA10 hv1 h11.1 h11.2 ?_
  refine r_iload x_383_19 rfl ?_
  refine r_invV x_383_21 (z := 379) (ns := 0) (by decide +kernel) (as := [g_n v1, g_n (g_i M2 b7 v1), g_n r5]) (r := []) rfl rfl rfl hO1 rfl rfl ?_
  refine r_callV h fun M12 hx13 hok14 h => ?_
  replace h := h hx13 hok14
  replace hO1 := hO1.up hx13
  replace hA10 := hA10.up hx13
  refine r_aload_n x_383_24 rfl ?_
  obtain ⟨b15, hb16, h⟩ := h
  refine r_getR x_383_25 rfl (ci := 12) (k := 45) (ns := 0) (by decide +kernel) (by decide) rfl (kz := 45) rfl hO1 hb16 ?_
  refine r_iload_n x_383_28 rfl ?_
  refine r_sipush x_383_29 (x := 1500) rfl ?_
  refine r_imul x_383_32 ?_
  obtain ⟨h17, h⟩ := h
  refine r_iload x_383_33 rfl ?_
  refine r_iadd x_383_35 ?_
  obtain ⟨h18, h⟩ := h
  refine r_iconst x_383_36 ?_
  obtain ⟨n19, hA20, h⟩ := h
  obtain ⟨h21, h⟩ := h
  refine r_bast2 x_383_37 hA20 h18 h21.1 h21.2 (Or.inl rfl) ?_
  obtain ⟨M22, hM23⟩ : ∃ Mz, Mz = g_wi M12 b15 ((v1 * 1500) + r5) 0 := ⟨_, rfl⟩
  rw [← hM23]
  refine g_Run.ok fun hok24 => ?_
  replace h := h M22 hM23 hok24
  have hx25 := g_extW hM23
  replace hO1 := hO1.up hx25
  replace hA10 := hA10.up hx25
  replace hA20 := hA20.up hx25
  refine r_aload_n x_383_38 rfl ?_
  obtain ⟨b26, hb27, h⟩ := h
  refine r_getR x_383_39 rfl (ci := 12) (k := 53) (ns := 0) (by decide +kernel) (by decide) rfl (kz := 53) rfl hO1 hb27 ?_
  refine r_iload_n x_383_42 rfl ?_
  obtain ⟨n28, hA29, h⟩ := h
  obtain ⟨h30, h⟩ := h
  refine r_iald x_383_43 hA29 hv1 h30.1 h30.2 ?_
  refine r_istore x_383_44 (by decide +kernel) rfl (lv1 := [(0, .ref a0), (1, g_n v1), (2, g_n v2), (3, g_n v3), (4, g_n v4), (5, g_n r5), (6, g_n (g_i M22 b26 v1))]) rfl ?_
  refine r_aload_n x_383_46 rfl ?_
  refine r_iload_n x_383_47 rfl ?_
  refine r_iload x_383_48 rfl ?_
  refine r_invV x_383_50 (z := 376) (ns := 0) (by decide +kernel) (as := [g_n v1, g_n (g_i M22 b26 v1)]) (r := []) rfl rfl rfl hO1 rfl rfl ?_
  refine r_callI h fun r34 M31 hx32 hok33 hr35 h => ?_
  replace h := h hx32 hok33 hr35
  replace hO1 := hO1.up hx32
  replace hA10 := hA10.up hx32
  replace hA20 := hA20.up hx32
  replace hA29 := hA29.up hx32
  refine r_if_ne x_383_53 (t := 100) (by decide +kernel) hr35 (fun hc => ?_) (fun hc => ?_)
  · replace h := h.2 hc
    refine r_aload_n x_383_100 rfl ?_
    obtain ⟨b36, hb37, h⟩ := h
    refine r_getR x_383_101 rfl (ci := 12) (k := 54) (ns := 0) (by decide +kernel) (by decide) rfl (kz := 54) rfl hO1 hb37 ?_
    refine r_iload_n x_383_104 rfl ?_
    refine r_dup2 x_383_105 rfl rfl ?_
    obtain ⟨n38, hA39, h⟩ := h
    obtain ⟨h40, h⟩ := h
    refine r_iald x_383_106 hA39 hv1 h40.1 h40.2 ?_
    refine r_iconst x_383_107 ?_
    refine r_isub x_383_108 ?_
    obtain ⟨h41, h⟩ := h
    obtain ⟨h42, h⟩ := h
    refine r_iast x_383_109 hA39 hv1 h42.1 h42.2 h41 ?_
    obtain ⟨M43, hM44⟩ : ∃ Mz, Mz = g_wi M31 b36 v1 ((g_i M31 b36 v1) - 1) := ⟨_, rfl⟩
    rw [← hM44]
    refine g_Run.ok fun hok45 => ?_
    replace h := h M43 hM44 hok45
    have hx46 := g_extW hM44
    replace hO1 := hO1.up hx46
    replace hA10 := hA10.up hx46
    replace hA20 := hA20.up hx46
    replace hA29 := hA29.up hx46
    replace hA39 := hA39.up hx46
    exact r_retV x_383_110 rfl h
  · replace h := h.1 hc
    refine r_aload_n x_383_56 rfl ?_
    refine r_iload_n x_383_57 rfl ?_
    refine r_iload x_383_58 rfl ?_
    refine r_invV x_383_60 (z := 367) (ns := 0) (by decide +kernel) (as := [g_n v1, g_n (g_i M22 b26 v1)]) (r := []) rfl rfl rfl hO1 rfl rfl ?_
    refine r_callI h fun r50 M47 hx48 hok49 hr51 h => ?_
    replace h := h hx48 hok49 hr51
    replace hO1 := hO1.up hx48
    replace hA10 := hA10.up hx48
    replace hA20 := hA20.up hx48
    replace hA29 := hA29.up hx48
    refine r_iconst x_383_63 ?_
    refine r_ic_ne x_383_64 (t := 100) (by decide +kernel) hr51 (g_Rk rfl) (fun hc => ?_) (fun hc => ?_)
    · replace h := h.2 hc
      refine r_aload_n x_383_100 rfl ?_
      obtain ⟨b52, hb53, h⟩ := h
      refine r_getR x_383_101 rfl (ci := 12) (k := 54) (ns := 0) (by decide +kernel) (by decide) rfl (kz := 54) rfl hO1 hb53 ?_
      refine r_iload_n x_383_104 rfl ?_
      refine r_dup2 x_383_105 rfl rfl ?_
      obtain ⟨n54, hA55, h⟩ := h
      obtain ⟨h56, h⟩ := h
      refine r_iald x_383_106 hA55 hv1 h56.1 h56.2 ?_
      refine r_iconst x_383_107 ?_
      refine r_isub x_383_108 ?_
      obtain ⟨h57, h⟩ := h
      obtain ⟨h58, h⟩ := h
      refine r_iast x_383_109 hA55 hv1 h58.1 h58.2 h57 ?_
      obtain ⟨M59, hM60⟩ : ∃ Mz, Mz = g_wi M47 b52 v1 ((g_i M47 b52 v1) - 1) := ⟨_, rfl⟩
      rw [← hM60]
      refine g_Run.ok fun hok61 => ?_
      replace h := h M59 hM60 hok61
      have hx62 := g_extW hM60
      replace hO1 := hO1.up hx62
      replace hA10 := hA10.up hx62
      replace hA20 := hA20.up hx62
      replace hA29 := hA29.up hx62
      replace hA55 := hA55.up hx62
      exact r_retV x_383_110 rfl h
    · replace h := h.1 hc
      refine r_aload_n x_383_67 rfl ?_
      obtain ⟨b63, hb64, h⟩ := h
      refine r_getR x_383_68 rfl (ci := 12) (k := 53) (ns := 0) (by decide +kernel) (by decide) rfl (kz := 53) rfl hO1 hb64 ?_
      refine r_iload_n x_383_71 rfl ?_
      refine r_aload_n x_383_72 rfl ?_
      obtain ⟨b65, hb66, h⟩ := h
      refine r_getR x_383_73 rfl (ci := 12) (k := 51) (ns := 0) (by decide +kernel) (by decide) rfl (kz := 51) rfl hO1 hb66 ?_
      refine r_aload_n x_383_76 rfl ?_
      refine r_iload_n x_383_77 rfl ?_
      refine r_iload x_383_78 rfl ?_
      refine r_iconst x_383_80 ?_
      refine r_invV x_383_81 (z := 369) (ns := 0) (by decide +kernel) (as := [g_n v1, g_n (g_i M22 b26 v1), g_n 0]) (r := [.ref b65, g_n v1, .ref b63]) rfl rfl rfl hO1 rfl rfl ?_
      refine r_callI h fun r70 M67 hx68 hok69 hr71 h => ?_
      replace h := h hx68 hok69 hr71
      replace hO1 := hO1.up hx68
      replace hA10 := hA10.up hx68
      replace hA20 := hA20.up hx68
      replace hA29 := hA29.up hx68
      obtain ⟨n72, hA73, h⟩ := h
      obtain ⟨h74, h⟩ := h
      refine r_iald x_383_84 hA73 hr71 h74.1 h74.2 ?_
      obtain ⟨n75, hA76, h⟩ := h
      obtain ⟨h77, h⟩ := h
      refine r_iast x_383_85 hA76 hv1 h77.1 h77.2 (hok69.1 _ _) ?_
      obtain ⟨M78, hM79⟩ : ∃ Mz, Mz = g_wi M67 b63 v1 (g_i M67 b65 r70) := ⟨_, rfl⟩
      rw [← hM79]
      refine g_Run.ok fun hok80 => ?_
      replace h := h M78 hM79 hok80
      have hx81 := g_extW hM79
      replace hO1 := hO1.up hx81
      replace hA10 := hA10.up hx81
      replace hA20 := hA20.up hx81
      replace hA29 := hA29.up hx81
      replace hA73 := hA73.up hx81
      replace hA76 := hA76.up hx81
      refine r_aload_n x_383_86 rfl ?_
      obtain ⟨b82, hb83, h⟩ := h
      refine r_getR x_383_87 rfl (ci := 12) (k := 48) (ns := 0) (by decide +kernel) (by decide) rfl (kz := 48) rfl hO1 hb83 ?_
      refine r_iload_n x_383_90 rfl ?_
      refine r_sipush x_383_91 (x := 600) rfl ?_
      refine r_imul x_383_94 ?_
      obtain ⟨h84, h⟩ := h
      refine r_iload x_383_95 rfl ?_
      refine r_iadd x_383_97 ?_
      obtain ⟨h85, h⟩ := h
      refine r_iconst x_383_98 ?_
      obtain ⟨n86, hA87, h⟩ := h
      obtain ⟨h88, h⟩ := h
      refine r_bast2 x_383_99 hA87 h85 h88.1 h88.2 (Or.inl rfl) ?_
      obtain ⟨M89, hM90⟩ : ∃ Mz, Mz = g_wi M78 b82 ((v1 * 600) + (g_i M22 b26 v1)) 0 := ⟨_, rfl⟩
      rw [← hM90]
      refine g_Run.ok fun hok91 => ?_
      replace h := h M89 hM90 hok91
      have hx92 := g_extW hM90
      replace hO1 := hO1.up hx92
      replace hA10 := hA10.up hx92
      replace hA20 := hA20.up hx92
      replace hA29 := hA29.up hx92
      replace hA73 := hA73.up hx92
      replace hA76 := hA76.up hx92
      replace hA87 := hA87.up hx92
      refine r_aload_n x_383_100 rfl ?_
      obtain ⟨b93, hb94, h⟩ := h
      refine r_getR x_383_101 rfl (ci := 12) (k := 54) (ns := 0) (by decide +kernel) (by decide) rfl (kz := 54) rfl hO1 hb94 ?_
      refine r_iload_n x_383_104 rfl ?_
      refine r_dup2 x_383_105 rfl rfl ?_
      obtain ⟨n95, hA96, h⟩ := h
      obtain ⟨h97, h⟩ := h
      refine r_iald x_383_106 hA96 hv1 h97.1 h97.2 ?_
      refine r_iconst x_383_107 ?_
      refine r_isub x_383_108 ?_
      obtain ⟨h98, h⟩ := h
      obtain ⟨h99, h⟩ := h
      refine r_iast x_383_109 hA96 hv1 h99.1 h99.2 h98 ?_
      obtain ⟨M100, hM101⟩ : ∃ Mz, Mz = g_wi M89 b93 v1 ((g_i M89 b93 v1) - 1) := ⟨_, rfl⟩
      rw [← hM101]
      refine g_Run.ok fun hok102 => ?_
      replace h := h M100 hM101 hok102
      have hx103 := g_extW hM101
      replace hO1 := hO1.up hx103
      replace hA10 := hA10.up hx103
      replace hA20 := hA20.up hx103
      replace hA29 := hA29.up hx103
      replace hA73 := hA73.up hx103
      replace hA76 := hA76.up hx103
      replace hA87 := hA87.up hx103
      replace hA96 := hA96.up hx103
      exact r_retV x_383_110 rfl h
theorem m_X12_enterAll {d : Nat} {M : g_M} {Q : g_M → Prop} {a0 : Nat} {v1 : Int} (hv1 : g_InR v1) {v2 : Int} (hv2 : g_InR v2) {v3 : Int} (hv3 : g_InR v3) {v4 : Int} (hv4 : g_InR v4) (h : g_ok M → g_O M a0 12 ∧ g_Call d 361 [.ref a0, g_n v1, g_n v2] M (g_qI fun r5 M2 => g_ext M M2 → g_ok M2 → g_InR r5 → g_InR ((g_i M2 a0 41) + (g_i M2 a0 42)) ∧ ∃ b8, g_r M2 a0 38 = some b8 ∧ g_InR (2 * v1) ∧ ∃ n11, g_A M2 b8 2 n11 ∧ ((0 : Int) ≤ 2 * v1 ∧ (2 * v1 : Int) < n11) ∧ g_Call d 385 [.ref a0, g_n (g_i M2 a0 41), g_n ((g_i M2 a0 41) + (g_i M2 a0 42)), g_n (g_i M2 b8 (2 * v1))] M2 (g_qV fun M14 => g_ext M2 M14 → g_ok M14 → ∃ b17, g_r M14 a0 38 = some b17 ∧ g_InR (2 * v1) ∧ g_InR ((2 * v1) + 1) ∧ ∃ n21, g_A M14 b17 2 n21 ∧ ((0 : Int) ≤ (2 * v1) + 1 ∧ ((2 * v1) + 1 : Int) < n21) ∧ g_Call d 385 [.ref a0, g_n (g_i M2 a0 43), g_n (g_i M2 a0 44), g_n (g_i M14 b17 ((2 * v1) + 1))] M14 (g_qV fun M24 => g_ext M14 M24 → g_ok M24 → g_Run d 384 80 [(0, .ref a0), (1, g_n v1), (2, g_n v2), (3, g_n v3), (4, g_n v4), (5, g_n (g_i M a0 10)), (6, g_n (g_i M2 a0 41)), (7, g_n ((g_i M2 a0 41) + (g_i M2 a0 42))), (8, g_n (g_i M2 a0 43)), (9, g_n (g_i M2 a0 44)), (10, g_n (g_i M2 a0 41))] [] M24 (g_qV Q))))) : g_Call (d + 1) 384 [.ref a0, g_n v1, g_n v2, g_n v3, g_n v4] M (g_qV Q) := by
  refine g_Call.ok fun hok0 => ?_
  replace h := h hok0
  refine r_body rfl (lv := [(0, .ref a0), (1, g_n v1), (2, g_n v2), (3, g_n v3), (4, g_n v4)]) rfl ?_
  refine g_Run.ok fun hok => ?_
  refine r_aload_n x_384_0 rfl ?_
  obtain ⟨hO1, h⟩ := h
  refine r_getI x_384_1 rfl (ci := 12) (k := 10) (ns := 0) (by decide +kernel) (by decide) rfl (kz := 10) rfl hO1 ?_
  refine r_istore x_384_4 (by decide +kernel) rfl (lv1 := [(0, .ref a0), (1, g_n v1), (2, g_n v2), (3, g_n v3), (4, g_n v4), (5, g_n (g_i M a0 10))]) rfl ?_
  refine r_aload_n x_384_6 rfl ?_
  refine r_iload_n x_384_7 rfl ?_
  refine r_iload_n x_384_8 rfl ?_
  refine r_invV x_384_9 (z := 361) (ns := 0) (by decide +kernel) (as := [g_n v1, g_n v2]) (r := []) rfl rfl rfl hO1 rfl rfl ?_
  refine r_callI h fun r5 M2 hx3 hok4 hr6 h => ?_
  replace h := h hx3 hok4 hr6
  replace hO1 := hO1.up hx3
  refine r_pop x_384_12 rfl ?_
  refine r_aload_n x_384_13 rfl ?_
  refine r_getI x_384_14 rfl (ci := 12) (k := 41) (ns := 0) (by decide +kernel) (by decide) rfl (kz := 41) rfl hO1 ?_
  refine r_istore x_384_17 (by decide +kernel) rfl (lv1 := [(0, .ref a0), (1, g_n v1), (2, g_n v2), (3, g_n v3), (4, g_n v4), (5, g_n (g_i M a0 10)), (6, g_n (g_i M2 a0 41))]) rfl ?_
  refine r_aload_n x_384_19 rfl ?_
  refine r_getI x_384_20 rfl (ci := 12) (k := 41) (ns := 0) (by decide +kernel) (by decide) rfl (kz := 41) rfl hO1 ?_
  refine r_aload_n x_384_23 rfl ?_
  refine r_getI x_384_24 rfl (ci := 12) (k := 42) (ns := 0) (by decide +kernel) (by decide) rfl (kz := 42) rfl hO1 ?_
  refine r_iadd x_384_27 ?_
  obtain ⟨h7, h⟩ := h
  refine r_istore x_384_28 (by decide +kernel) rfl (lv1 := [(0, .ref a0), (1, g_n v1), (2, g_n v2), (3, g_n v3), (4, g_n v4), (5, g_n (g_i M a0 10)), (6, g_n (g_i M2 a0 41)), (7, g_n ((g_i M2 a0 41) + (g_i M2 a0 42)))]) rfl ?_
  refine r_aload_n x_384_30 rfl ?_
  refine r_getI x_384_31 rfl (ci := 12) (k := 43) (ns := 0) (by decide +kernel) (by decide) rfl (kz := 43) rfl hO1 ?_
  refine r_istore x_384_34 (by decide +kernel) rfl (lv1 := [(0, .ref a0), (1, g_n v1), (2, g_n v2), (3, g_n v3), (4, g_n v4), (5, g_n (g_i M a0 10)), (6, g_n (g_i M2 a0 41)), (7, g_n ((g_i M2 a0 41) + (g_i M2 a0 42))), (8, g_n (g_i M2 a0 43))]) rfl ?_
  refine r_aload_n x_384_36 rfl ?_
  refine r_getI x_384_37 rfl (ci := 12) (k := 44) (ns := 0) (by decide +kernel) (by decide) rfl (kz := 44) rfl hO1 ?_
  refine r_istore x_384_40 (by decide +kernel) rfl (lv1 := [(0, .ref a0), (1, g_n v1), (2, g_n v2), (3, g_n v3), (4, g_n v4), (5, g_n (g_i M a0 10)), (6, g_n (g_i M2 a0 41)), (7, g_n ((g_i M2 a0 41) + (g_i M2 a0 42))), (8, g_n (g_i M2 a0 43)), (9, g_n (g_i M2 a0 44))]) rfl ?_
  refine r_aload_n x_384_42 rfl ?_
  refine r_iload x_384_43 rfl ?_
  refine r_iload x_384_45 rfl ?_
  refine r_aload_n x_384_47 rfl ?_
  obtain ⟨b8, hb9, h⟩ := h
  refine r_getR x_384_48 rfl (ci := 12) (k := 38) (ns := 0) (by decide +kernel) (by decide) rfl (kz := 38) rfl hO1 hb9 ?_
  refine r_iconst x_384_51 ?_
  refine r_iload_n x_384_52 rfl ?_
  refine r_imul x_384_53 ?_
  obtain ⟨h10, h⟩ := h
  obtain ⟨n11, hA12, h⟩ := h
  obtain ⟨h13, h⟩ := h
  refine r_bald x_384_54 (Or.inr rfl) hA12 h10 h13.1 h13.2 ?_
  refine r_invV x_384_55 (z := 385) (ns := 0) (by decide +kernel) (as := [g_n (g_i M2 a0 41), g_n ((g_i M2 a0 41) + (g_i M2 a0 42)), g_n (g_i M2 b8 (2 * v1))]) (r := []) rfl rfl rfl hO1 rfl rfl ?_
  refine r_callV h fun M14 hx15 hok16 h => ?_
  replace h := h hx15 hok16
  replace hO1 := hO1.up hx15
  replace hA12 := hA12.up hx15
  refine r_aload_n x_384_58 rfl ?_
  refine r_iload x_384_59 rfl ?_
  refine r_iload x_384_61 rfl ?_
  refine r_aload_n x_384_63 rfl ?_
  obtain ⟨b17, hb18, h⟩ := h
  refine r_getR x_384_64 rfl (ci := 12) (k := 38) (ns := 0) (by decide +kernel) (by decide) rfl (kz := 38) rfl hO1 hb18 ?_
  refine r_iconst x_384_67 ?_
  refine r_iload_n x_384_68 rfl ?_
  refine r_imul x_384_69 ?_
  obtain ⟨h19, h⟩ := h
  refine r_iconst x_384_70 ?_
  refine r_iadd x_384_71 ?_
  obtain ⟨h20, h⟩ := h
  obtain ⟨n21, hA22, h⟩ := h
  obtain ⟨h23, h⟩ := h
  refine r_bald x_384_72 (Or.inr rfl) hA22 h20 h23.1 h23.2 ?_
  refine r_invV x_384_73 (z := 385) (ns := 0) (by decide +kernel) (as := [g_n (g_i M2 a0 43), g_n (g_i M2 a0 44), g_n (g_i M14 b17 ((2 * v1) + 1))]) (r := []) rfl rfl rfl hO1 rfl rfl ?_
  refine r_callV h fun M24 hx25 hok26 h => ?_
  replace h := h hx25 hok26
  replace hO1 := hO1.up hx25
  replace hA12 := hA12.up hx25
  replace hA22 := hA22.up hx25
  refine r_iload x_384_76 rfl ?_
  refine r_istore x_384_78 (by decide +kernel) rfl (lv1 := [(0, .ref a0), (1, g_n v1), (2, g_n v2), (3, g_n v3), (4, g_n v4), (5, g_n (g_i M a0 10)), (6, g_n (g_i M2 a0 41)), (7, g_n ((g_i M2 a0 41) + (g_i M2 a0 42))), (8, g_n (g_i M2 a0 43)), (9, g_n (g_i M2 a0 44)), (10, g_n (g_i M2 a0 41))]) rfl ?_
  exact h
theorem s_X12_enterAll_80 {d : Nat} {M : g_M} {Q : g_M → Prop} {a0 : Nat} {v1 : Int} (hv1 : g_InR v1) {v2 : Int} (hv2 : g_InR v2) {v3 : Int} (hv3 : g_InR v3) {v4 : Int} (hv4 : g_InR v4) {v5 : Int} (hv5 : g_InR v5) {v6 : Int} (hv6 : g_InR v6) {v7 : Int} (hv7 : g_InR v7) {v8 : Int} (hv8 : g_InR v8) {v9 : Int} (hv9 : g_InR v9) {v10 : Int} (hv10 : g_InR v10) (h : g_ok M → ((v10 < v7 → g_Run d 384 91 [(0, .ref a0), (1, g_n v1), (2, g_n v2), (3, g_n v3), (4, g_n v4), (5, g_n v5), (6, g_n v6), (7, g_n v7), (8, g_n v8), (9, g_n v9), (10, g_n v10), (11, g_n v8)] [] M (g_qV Q)) ∧ (¬ v10 < v7 → g_O M a0 12 ∧ (∀ M2, M2 = g_wi M a0 10 v5 → g_ok M2 → Q M2)))) : g_Run d 384 80 [(0, .ref a0), (1, g_n v1), (2, g_n v2), (3, g_n v3), (4, g_n v4), (5, g_n v5), (6, g_n v6), (7, g_n v7), (8, g_n v8), (9, g_n v9), (10, g_n v10)] [] M (g_qV Q) := by
  refine g_Run.ok fun hok => ?_
  replace h := h hok
  refine r_iload x_384_80 rfl ?_
  refine r_iload x_384_82 rfl ?_
  refine r_ic_ge x_384_84 (t := 158) (by decide +kernel) hv10 hv7 (fun hc => ?_) (fun hc => ?_)
  · replace h := h.2 hc
    refine r_aload_n x_384_158 rfl ?_
    refine r_iload x_384_159 rfl ?_
    obtain ⟨hO1, h⟩ := h
    refine r_putI x_384_161 (ci := 12) (k := 10) (ns := 0) (by decide +kernel) (by decide) (g_f0 (by decide +kernel)) rfl hv5 trivial (kz := 10) rfl hO1 ?_
    obtain ⟨M2, hM3⟩ : ∃ Mz, Mz = g_wi M a0 10 v5 := ⟨_, rfl⟩
    rw [← hM3]
    refine g_Run.ok fun hok4 => ?_
    replace h := h M2 hM3 hok4
    have hx5 := g_extW hM3
    replace hO1 := hO1.up hx5
    exact r_retV x_384_164 rfl h
  · replace h := h.1 hc
    refine r_iload x_384_87 rfl ?_
    refine r_istore x_384_89 (by decide +kernel) rfl (lv1 := [(0, .ref a0), (1, g_n v1), (2, g_n v2), (3, g_n v3), (4, g_n v4), (5, g_n v5), (6, g_n v6), (7, g_n v7), (8, g_n v8), (9, g_n v9), (10, g_n v10), (11, g_n v8)]) rfl ?_
    exact h
theorem s_X12_enterAll_91 {d : Nat} {M : g_M} {Q : g_M → Prop} {a0 : Nat} {v1 : Int} (hv1 : g_InR v1) {v2 : Int} (hv2 : g_InR v2) {v3 : Int} (hv3 : g_InR v3) {v4 : Int} (hv4 : g_InR v4) {v5 : Int} (hv5 : g_InR v5) {v6 : Int} (hv6 : g_InR v6) {v7 : Int} (hv7 : g_InR v7) {v8 : Int} (hv8 : g_InR v8) {v9 : Int} (hv9 : g_InR v9) {v10 : Int} (hv10 : g_InR v10) {v11 : Int} (hv11 : g_InR v11) (h : g_ok M → ((v11 < v9 → ((v4 = 0 → g_O M a0 12 ∧ ∃ b3, g_r M a0 9 = some b3 ∧ ∃ n5, g_A M b3 1 n5 ∧ ((0 : Int) ≤ v10 ∧ (v10 : Int) < n5) ∧ ∃ b8, g_r M a0 9 = some b8 ∧ ∃ n10, g_A M b8 1 n10 ∧ ((0 : Int) ≤ v11 ∧ (v11 : Int) < n10) ∧ g_Call d 383 [.ref a0, g_n v1, g_n (g_i M b3 v10), g_n (g_i M b8 v11), g_n v3] M (g_qV fun M13 => g_ext M M13 → g_ok M13 → g_InR (v11 + 1) ∧ g_Run d 384 91 [(0, .ref a0), (1, g_n v1), (2, g_n v2), (3, g_n v3), (4, g_n v4), (5, g_n v5), (6, g_n v6), (7, g_n v7), (8, g_n v8), (9, g_n v9), (10, g_n v10), (11, g_n (v11 + 1))] [] M13 (g_qV Q))) ∧ (¬ v4 = 0 → g_O M a0 12 ∧ ∃ b18, g_r M a0 9 = some b18 ∧ ∃ n20, g_A M b18 1 n20 ∧ ((0 : Int) ≤ v10 ∧ (v10 : Int) < n20) ∧ ∃ b23, g_r M a0 9 = some b23 ∧ ∃ n25, g_A M b23 1 n25 ∧ ((0 : Int) ≤ v11 ∧ (v11 : Int) < n25) ∧ g_Call d 378 [.ref a0, g_n v1, g_n (g_i M b18 v10), g_n (g_i M b23 v11), g_n v3] M (g_qV fun M28 => g_ext M M28 → g_ok M28 → g_InR (v11 + 1) ∧ g_Run d 384 91 [(0, .ref a0), (1, g_n v1), (2, g_n v2), (3, g_n v3), (4, g_n v4), (5, g_n v5), (6, g_n v6), (7, g_n v7), (8, g_n v8), (9, g_n v9), (10, g_n v10), (11, g_n (v11 + 1))] [] M28 (g_qV Q))))) ∧ (¬ v11 < v9 → g_InR (v10 + 1) ∧ g_Run d 384 80 [(0, .ref a0), (1, g_n v1), (2, g_n v2), (3, g_n v3), (4, g_n v4), (5, g_n v5), (6, g_n v6), (7, g_n v7), (8, g_n v8), (9, g_n v9), (10, g_n (v10 + 1))] [] M (g_qV Q)))) : g_Run d 384 91 [(0, .ref a0), (1, g_n v1), (2, g_n v2), (3, g_n v3), (4, g_n v4), (5, g_n v5), (6, g_n v6), (7, g_n v7), (8, g_n v8), (9, g_n v9), (10, g_n v10), (11, g_n v11)] [] M (g_qV Q) := by
  refine g_Run.ok fun hok => ?_
  replace h := h hok
  refine r_iload x_384_91 rfl ?_
  refine r_iload x_384_93 rfl ?_
  refine r_ic_ge x_384_95 (t := 152) (by decide +kernel) hv11 hv9 (fun hc => ?_) (fun hc => ?_)
  · replace h := h.2 hc
    obtain ⟨h1, h⟩ := h
    refine r_iinc x_384_152 (by decide +kernel) rfl rfl (lv1 := [(0, .ref a0), (1, g_n v1), (2, g_n v2), (3, g_n v3), (4, g_n v4), (5, g_n v5), (6, g_n v6), (7, g_n v7), (8, g_n v8), (9, g_n v9), (10, g_n (v10 + 1)), (11, g_n v11)]) rfl ?_
    refine r_goto x_384_155 (t := 80) (by decide +kernel) ?_
    refine g_drop [0, 1, 2, 3, 4, 5, 6, 7, 8, 9, 10] (lv1 := [(0, .ref a0), (1, g_n v1), (2, g_n v2), (3, g_n v3), (4, g_n v4), (5, g_n v5), (6, g_n v6), (7, g_n v7), (8, g_n v8), (9, g_n v9), (10, g_n (v10 + 1))]) rfl ?_
    exact h
  · replace h := h.1 hc
    refine r_iload x_384_98 rfl ?_
    refine r_if_eq x_384_100 (t := 126) (by decide +kernel) hv4 (fun hc => ?_) (fun hc => ?_)
    · replace h := h.1 hc
      refine r_aload_n x_384_126 rfl ?_
      refine r_iload_n x_384_127 rfl ?_
      refine r_aload_n x_384_128 rfl ?_
      obtain ⟨hO2, h⟩ := h
      obtain ⟨b3, hb4, h⟩ := h
      refine r_getR x_384_129 rfl (ci := 12) (k := 9) (ns := 0) (by decide +kernel) (by decide) rfl (kz := 9) rfl hO2 hb4 ?_
      refine r_iload x_384_132 rfl ?_
      obtain ⟨n5, hA6, h⟩ := h
      obtain ⟨h7, h⟩ := h
      refine r_iald x_384_134 hA6 hv10 h7.1 h7.2 ?_
      refine r_aload_n x_384_135 rfl ?_
      obtain ⟨b8, hb9, h⟩ := h
      refine r_getR x_384_136 rfl (ci := 12) (k := 9) (ns := 0) (by decide +kernel) (by decide) rfl (kz := 9) rfl hO2 hb9 ?_
      refine r_iload x_384_139 rfl ?_
      obtain ⟨n10, hA11, h⟩ := h
      obtain ⟨h12, h⟩ := h
      refine r_iald x_384_141 hA11 hv11 h12.1 h12.2 ?_
      refine r_iload_n x_384_142 rfl ?_
      refine r_invV x_384_143 (z := 383) (ns := 0) (by decide +kernel) (as := [g_n v1, g_n (g_i M b3 v10), g_n (g_i M b8 v11), g_n v3]) (r := []) rfl rfl rfl hO2 rfl rfl ?_
      refine r_callV h fun M13 hx14 hok15 h => ?_
      replace h := h hx14 hok15
      replace hO2 := hO2.up hx14
      replace hA6 := hA6.up hx14
      replace hA11 := hA11.up hx14
      obtain ⟨h16, h⟩ := h
      refine r_iinc x_384_146 (by decide +kernel) rfl rfl (lv1 := [(0, .ref a0), (1, g_n v1), (2, g_n v2), (3, g_n v3), (4, g_n v4), (5, g_n v5), (6, g_n v6), (7, g_n v7), (8, g_n v8), (9, g_n v9), (10, g_n v10), (11, g_n (v11 + 1))]) rfl ?_
      refine r_goto x_384_149 (t := 91) (by decide +kernel) ?_
      exact h
    · replace h := h.2 hc
      refine r_aload_n x_384_103 rfl ?_
      refine r_iload_n x_384_104 rfl ?_
      refine r_aload_n x_384_105 rfl ?_
      obtain ⟨hO17, h⟩ := h
      obtain ⟨b18, hb19, h⟩ := h
      refine r_getR x_384_106 rfl (ci := 12) (k := 9) (ns := 0) (by decide +kernel) (by decide) rfl (kz := 9) rfl hO17 hb19 ?_
      refine r_iload x_384_109 rfl ?_
      obtain ⟨n20, hA21, h⟩ := h
      obtain ⟨h22, h⟩ := h
      refine r_iald x_384_111 hA21 hv10 h22.1 h22.2 ?_
      refine r_aload_n x_384_112 rfl ?_
      obtain ⟨b23, hb24, h⟩ := h
      refine r_getR x_384_113 rfl (ci := 12) (k := 9) (ns := 0) (by decide +kernel) (by decide) rfl (kz := 9) rfl hO17 hb24 ?_
      refine r_iload x_384_116 rfl ?_
      obtain ⟨n25, hA26, h⟩ := h
      obtain ⟨h27, h⟩ := h
      refine r_iald x_384_118 hA26 hv11 h27.1 h27.2 ?_
      refine r_iload_n x_384_119 rfl ?_
      refine r_invV x_384_120 (z := 378) (ns := 0) (by decide +kernel) (as := [g_n v1, g_n (g_i M b18 v10), g_n (g_i M b23 v11), g_n v3]) (r := []) rfl rfl rfl hO17 rfl rfl ?_
      refine r_callV h fun M28 hx29 hok30 h => ?_
      replace h := h hx29 hok30
      replace hO17 := hO17.up hx29
      replace hA21 := hA21.up hx29
      replace hA26 := hA26.up hx29
      refine r_goto x_384_123 (t := 146) (by decide +kernel) ?_
      obtain ⟨h31, h⟩ := h
      refine r_iinc x_384_146 (by decide +kernel) rfl rfl (lv1 := [(0, .ref a0), (1, g_n v1), (2, g_n v2), (3, g_n v3), (4, g_n v4), (5, g_n v5), (6, g_n v6), (7, g_n v7), (8, g_n v8), (9, g_n v9), (10, g_n v10), (11, g_n (v11 + 1))]) rfl ?_
      refine r_goto x_384_149 (t := 91) (by decide +kernel) ?_
      exact h
theorem m_X12_arrange {d : Nat} {M : g_M} {Q : g_M → Prop} {a0 : Nat} {v1 : Int} (hv1 : g_InR v1) {v2 : Int} (hv2 : g_InR v2) {v3 : Int} (hv3 : g_InR v3) (h : g_ok M → g_InR (v1 + 1) ∧ g_Run d 385 5 [(0, .ref a0), (1, g_n v1), (2, g_n v2), (3, g_n v3), (4, g_n (v1 + 1))] [] M (g_qV Q)) : g_Call (d + 1) 385 [.ref a0, g_n v1, g_n v2, g_n v3] M (g_qV Q) := by
  refine g_Call.ok fun hok0 => ?_
  replace h := h hok0
  refine r_body rfl (lv := [(0, .ref a0), (1, g_n v1), (2, g_n v2), (3, g_n v3)]) rfl ?_
  refine g_Run.ok fun hok => ?_
  refine r_iload_n x_385_0 rfl ?_
  refine r_iconst x_385_1 ?_
  refine r_iadd x_385_2 ?_
  obtain ⟨h1, h⟩ := h
  refine r_istore x_385_3 (by decide +kernel) rfl (lv1 := [(0, .ref a0), (1, g_n v1), (2, g_n v2), (3, g_n v3), (4, g_n (v1 + 1))]) rfl ?_
  exact h
theorem s_X12_arrange_5 {d : Nat} {M : g_M} {Q : g_M → Prop} {a0 : Nat} {v1 : Int} (hv1 : g_InR v1) {v2 : Int} (hv2 : g_InR v2) {v3 : Int} (hv3 : g_InR v3) {v4 : Int} (hv4 : g_InR v4) (h : g_ok M → ((v4 < v2 → g_O M a0 12 ∧ ∃ b2, g_r M a0 9 = some b2 ∧ ∃ n4, g_A M b2 1 n4 ∧ ((0 : Int) ≤ v4 ∧ (v4 : Int) < n4) ∧ g_Run d 385 24 [(0, .ref a0), (1, g_n v1), (2, g_n v2), (3, g_n v3), (4, g_n v4), (5, g_n (g_i M b2 v4)), (6, g_n v4)] [] M (g_qV Q)) ∧ (¬ v4 < v2 → Q M))) : g_Run d 385 5 [(0, .ref a0), (1, g_n v1), (2, g_n v2), (3, g_n v3), (4, g_n v4)] [] M (g_qV Q) := by
  refine g_Run.ok fun hok => ?_
  replace h := h hok
  refine r_iload x_385_5 rfl ?_
  refine r_iload_n x_385_7 rfl ?_
  refine r_ic_ge x_385_8 (t := 110) (by decide +kernel) hv4 hv2 (fun hc => ?_) (fun hc => ?_)
  · replace h := h.2 hc
    exact r_retV x_385_110 rfl h
  · replace h := h.1 hc
    refine r_aload_n x_385_11 rfl ?_
    obtain ⟨hO1, h⟩ := h
    obtain ⟨b2, hb3, h⟩ := h
    refine r_getR x_385_12 rfl (ci := 12) (k := 9) (ns := 0) (by decide +kernel) (by decide) rfl (kz := 9) rfl hO1 hb3 ?_
    refine r_iload x_385_15 rfl ?_
    obtain ⟨n4, hA5, h⟩ := h
    obtain ⟨h6, h⟩ := h
    refine r_iald x_385_17 hA5 hv4 h6.1 h6.2 ?_
    refine r_istore x_385_18 (by decide +kernel) rfl (lv1 := [(0, .ref a0), (1, g_n v1), (2, g_n v2), (3, g_n v3), (4, g_n v4), (5, g_n (g_i M b2 v4))]) rfl ?_
    refine r_iload x_385_20 rfl ?_
    refine r_istore x_385_22 (by decide +kernel) rfl (lv1 := [(0, .ref a0), (1, g_n v1), (2, g_n v2), (3, g_n v3), (4, g_n v4), (5, g_n (g_i M b2 v4)), (6, g_n v4)]) rfl ?_
    exact h
theorem s_X12_arrange_24 {d : Nat} {M : g_M} {Q : g_M → Prop} {a0 : Nat} {v1 : Int} (hv1 : g_InR v1) {v2 : Int} (hv2 : g_InR v2) {v3 : Int} (hv3 : g_InR v3) {v4 : Int} (hv4 : g_InR v4) {v5 : Int} (hv5 : g_InR v5) {v6 : Int} (hv6 : g_InR v6) (h : g_ok M → ((v1 < v6 → ((v3 = 0 → g_O M a0 12 ∧ ∃ b13, g_r M a0 9 = some b13 ∧ g_InR (v6 - 1) ∧ ∃ n16, g_A M b13 1 n16 ∧ ((0 : Int) ≤ v6 - 1 ∧ (v6 - 1 : Int) < n16) ∧ g_Call d 269 [.ref a0, g_n (g_i M b13 (v6 - 1)), g_n v5] M (g_qI fun r22 M19 => g_ext M M19 → g_ok M19 → g_InR r22 → ((0 < r22 → g_Run d 385 73 [(0, .ref a0), (1, g_n v1), (2, g_n v2), (3, g_n v3), (4, g_n v4), (5, g_n v5), (6, g_n v6)] [] M19 (g_qV Q)) ∧ (¬ 0 < r22 → ∃ b24, g_r M19 a0 9 = some b24 ∧ ∃ n26, g_A M19 b24 1 n26 ∧ ((0 : Int) ≤ v6 ∧ (v6 : Int) < n26) ∧ (∀ M29, M29 = g_wi M19 b24 v6 v5 → g_ok M29 → g_InR (v4 + 1) ∧ g_Run d 385 5 [(0, .ref a0), (1, g_n v1), (2, g_n v2), (3, g_n v3), (4, g_n (v4 + 1))] [] M29 (g_qV Q)))))) ∧ (¬ v3 = 0 → g_O M a0 12 ∧ ∃ b35, g_r M a0 9 = some b35 ∧ g_InR (v6 - 1) ∧ ∃ n38, g_A M b35 1 n38 ∧ ((0 : Int) ≤ v6 - 1 ∧ (v6 - 1 : Int) < n38) ∧ g_Call d 269 [.ref a0, g_n (g_i M b35 (v6 - 1)), g_n v5] M (g_qI fun r44 M41 => g_ext M M41 → g_ok M41 → g_InR r44 → ((r44 < 0 → g_Run d 385 73 [(0, .ref a0), (1, g_n v1), (2, g_n v2), (3, g_n v3), (4, g_n v4), (5, g_n v5), (6, g_n v6)] [] M41 (g_qV Q)) ∧ (¬ r44 < 0 → ∃ b46, g_r M41 a0 9 = some b46 ∧ ∃ n48, g_A M41 b46 1 n48 ∧ ((0 : Int) ≤ v6 ∧ (v6 : Int) < n48) ∧ (∀ M51, M51 = g_wi M41 b46 v6 v5 → g_ok M51 → g_InR (v4 + 1) ∧ g_Run d 385 5 [(0, .ref a0), (1, g_n v1), (2, g_n v2), (3, g_n v3), (4, g_n (v4 + 1))] [] M51 (g_qV Q)))))))) ∧ (¬ v1 < v6 → g_O M a0 12 ∧ ∃ b2, g_r M a0 9 = some b2 ∧ ∃ n4, g_A M b2 1 n4 ∧ ((0 : Int) ≤ v6 ∧ (v6 : Int) < n4) ∧ (∀ M7, M7 = g_wi M b2 v6 v5 → g_ok M7 → g_InR (v4 + 1) ∧ g_Run d 385 5 [(0, .ref a0), (1, g_n v1), (2, g_n v2), (3, g_n v3), (4, g_n (v4 + 1))] [] M7 (g_qV Q))))) : g_Run d 385 24 [(0, .ref a0), (1, g_n v1), (2, g_n v2), (3, g_n v3), (4, g_n v4), (5, g_n v5), (6, g_n v6)] [] M (g_qV Q) := by
  refine g_Run.ok fun hok => ?_
  replace h := h hok
  refine r_iload x_385_24 rfl ?_
  refine r_iload_n x_385_26 rfl ?_
  refine r_ic_le x_385_27 (t := 95) (by decide +kernel) hv6 hv1 (fun hc => ?_) (fun hc => ?_)
  · replace h := h.2 hc
    refine r_aload_n x_385_95 rfl ?_
    obtain ⟨hO1, h⟩ := h
    obtain ⟨b2, hb3, h⟩ := h
    refine r_getR x_385_96 rfl (ci := 12) (k := 9) (ns := 0) (by decide +kernel) (by decide) rfl (kz := 9) rfl hO1 hb3 ?_
    refine r_iload x_385_99 rfl ?_
    refine r_iload x_385_101 rfl ?_
    obtain ⟨n4, hA5, h⟩ := h
    obtain ⟨h6, h⟩ := h
    refine r_iast x_385_103 hA5 hv6 h6.1 h6.2 hv5 ?_
    obtain ⟨M7, hM8⟩ : ∃ Mz, Mz = g_wi M b2 v6 v5 := ⟨_, rfl⟩
    rw [← hM8]
    refine g_Run.ok fun hok9 => ?_
    replace h := h M7 hM8 hok9
    have hx10 := g_extW hM8
    replace hO1 := hO1.up hx10
    replace hA5 := hA5.up hx10
    obtain ⟨h11, h⟩ := h
    refine r_iinc x_385_104 (by decide +kernel) rfl rfl (lv1 := [(0, .ref a0), (1, g_n v1), (2, g_n v2), (3, g_n v3), (4, g_n (v4 + 1)), (5, g_n v5), (6, g_n v6)]) rfl ?_
    refine r_goto x_385_107 (t := 5) (by decide +kernel) ?_
    refine g_drop [0, 1, 2, 3, 4] (lv1 := [(0, .ref a0), (1, g_n v1), (2, g_n v2), (3, g_n v3), (4, g_n (v4 + 1))]) rfl ?_
    exact h
  · replace h := h.1 hc
    refine r_iload_n x_385_30 rfl ?_
    refine r_if_eq x_385_31 (t := 55) (by decide +kernel) hv3 (fun hc => ?_) (fun hc => ?_)
    · replace h := h.1 hc
      refine r_aload_n x_385_55 rfl ?_
      refine r_aload_n x_385_56 rfl ?_
      obtain ⟨hO12, h⟩ := h
      obtain ⟨b13, hb14, h⟩ := h
      refine r_getR x_385_57 rfl (ci := 12) (k := 9) (ns := 0) (by decide +kernel) (by decide) rfl (kz := 9) rfl hO12 hb14 ?_
      refine r_iload x_385_60 rfl ?_
      refine r_iconst x_385_62 ?_
      refine r_isub x_385_63 ?_
      obtain ⟨h15, h⟩ := h
      obtain ⟨n16, hA17, h⟩ := h
      obtain ⟨h18, h⟩ := h
      refine r_iald x_385_64 hA17 h15 h18.1 h18.2 ?_
      refine r_iload x_385_65 rfl ?_
      refine r_invV x_385_67 (z := 269) (ns := 0) (by decide +kernel) (as := [g_n (g_i M b13 (v6 - 1)), g_n v5]) (r := []) rfl rfl rfl hO12 rfl rfl ?_
      refine r_callI h fun r22 M19 hx20 hok21 hr23 h => ?_
      replace h := h hx20 hok21 hr23
      replace hO12 := hO12.up hx20
      replace hA17 := hA17.up hx20
      refine r_if_le x_385_70 (t := 95) (by decide +kernel) hr23 (fun hc => ?_) (fun hc => ?_)
      · replace h := h.2 hc
        refine r_aload_n x_385_95 rfl ?_
        obtain ⟨b24, hb25, h⟩ := h
        refine r_getR x_385_96 rfl (ci := 12) (k := 9) (ns := 0) (by decide +kernel) (by decide) rfl (kz := 9) rfl hO12 hb25 ?_
        refine r_iload x_385_99 rfl ?_
        refine r_iload x_385_101 rfl ?_
        obtain ⟨n26, hA27, h⟩ := h
        obtain ⟨h28, h⟩ := h
        refine r_iast x_385_103 hA27 hv6 h28.1 h28.2 hv5 ?_
        obtain ⟨M29, hM30⟩ : ∃ Mz, Mz = g_wi M19 b24 v6 v5 := ⟨_, rfl⟩
        rw [← hM30]
        refine g_Run.ok fun hok31 => ?_
        replace h := h M29 hM30 hok31
        have hx32 := g_extW hM30
        replace hO12 := hO12.up hx32
        replace hA17 := hA17.up hx32
        replace hA27 := hA27.up hx32
        obtain ⟨h33, h⟩ := h
        refine r_iinc x_385_104 (by decide +kernel) rfl rfl (lv1 := [(0, .ref a0), (1, g_n v1), (2, g_n v2), (3, g_n v3), (4, g_n (v4 + 1)), (5, g_n v5), (6, g_n v6)]) rfl ?_
        refine r_goto x_385_107 (t := 5) (by decide +kernel) ?_
        refine g_drop [0, 1, 2, 3, 4] (lv1 := [(0, .ref a0), (1, g_n v1), (2, g_n v2), (3, g_n v3), (4, g_n (v4 + 1))]) rfl ?_
        exact h
      · replace h := h.1 hc
        exact h
    · replace h := h.2 hc
      refine r_aload_n x_385_34 rfl ?_
      refine r_aload_n x_385_35 rfl ?_
      obtain ⟨hO34, h⟩ := h
      obtain ⟨b35, hb36, h⟩ := h
      refine r_getR x_385_36 rfl (ci := 12) (k := 9) (ns := 0) (by decide +kernel) (by decide) rfl (kz := 9) rfl hO34 hb36 ?_
      refine r_iload x_385_39 rfl ?_
      refine r_iconst x_385_41 ?_
      refine r_isub x_385_42 ?_
      obtain ⟨h37, h⟩ := h
      obtain ⟨n38, hA39, h⟩ := h
      obtain ⟨h40, h⟩ := h
      refine r_iald x_385_43 hA39 h37 h40.1 h40.2 ?_
      refine r_iload x_385_44 rfl ?_
      refine r_invV x_385_46 (z := 269) (ns := 0) (by decide +kernel) (as := [g_n (g_i M b35 (v6 - 1)), g_n v5]) (r := []) rfl rfl rfl hO34 rfl rfl ?_
      refine r_callI h fun r44 M41 hx42 hok43 hr45 h => ?_
      replace h := h hx42 hok43 hr45
      replace hO34 := hO34.up hx42
      replace hA39 := hA39.up hx42
      refine r_if_ge x_385_49 (t := 95) (by decide +kernel) hr45 (fun hc => ?_) (fun hc => ?_)
      · replace h := h.2 hc
        refine r_aload_n x_385_95 rfl ?_
        obtain ⟨b46, hb47, h⟩ := h
        refine r_getR x_385_96 rfl (ci := 12) (k := 9) (ns := 0) (by decide +kernel) (by decide) rfl (kz := 9) rfl hO34 hb47 ?_
        refine r_iload x_385_99 rfl ?_
        refine r_iload x_385_101 rfl ?_
        obtain ⟨n48, hA49, h⟩ := h
        obtain ⟨h50, h⟩ := h
        refine r_iast x_385_103 hA49 hv6 h50.1 h50.2 hv5 ?_
        obtain ⟨M51, hM52⟩ : ∃ Mz, Mz = g_wi M41 b46 v6 v5 := ⟨_, rfl⟩
        rw [← hM52]
        refine g_Run.ok fun hok53 => ?_
        replace h := h M51 hM52 hok53
        have hx54 := g_extW hM52
        replace hO34 := hO34.up hx54
        replace hA39 := hA39.up hx54
        replace hA49 := hA49.up hx54
        obtain ⟨h55, h⟩ := h
        refine r_iinc x_385_104 (by decide +kernel) rfl rfl (lv1 := [(0, .ref a0), (1, g_n v1), (2, g_n v2), (3, g_n v3), (4, g_n (v4 + 1)), (5, g_n v5), (6, g_n v6)]) rfl ?_
        refine r_goto x_385_107 (t := 5) (by decide +kernel) ?_
        refine g_drop [0, 1, 2, 3, 4] (lv1 := [(0, .ref a0), (1, g_n v1), (2, g_n v2), (3, g_n v3), (4, g_n (v4 + 1))]) rfl ?_
        exact h
      · replace h := h.1 hc
        refine r_goto x_385_52 (t := 73) (by decide +kernel) ?_
        exact h
theorem s_X12_arrange_73 {d : Nat} {M : g_M} {Q : g_M → Prop} {a0 : Nat} {v1 : Int} (hv1 : g_InR v1) {v2 : Int} (hv2 : g_InR v2) {v3 : Int} (hv3 : g_InR v3) {v4 : Int} (hv4 : g_InR v4) {v5 : Int} (hv5 : g_InR v5) {v6 : Int} (hv6 : g_InR v6) (h : g_ok M → g_O M a0 12 ∧ ∃ b2, g_r M a0 9 = some b2 ∧ ∃ b4, g_r M a0 9 = some b4 ∧ g_InR (v6 - 1) ∧ ∃ n7, g_A M b4 1 n7 ∧ ((0 : Int) ≤ v6 - 1 ∧ (v6 - 1 : Int) < n7) ∧ ∃ n10, g_A M b2 1 n10 ∧ ((0 : Int) ≤ v6 ∧ (v6 : Int) < n10) ∧ (∀ M13, M13 = g_wi M b2 v6 (g_i M b4 (v6 - 1)) → g_ok M13 → g_InR (v6 + (-1)) ∧ g_Run d 385 24 [(0, .ref a0), (1, g_n v1), (2, g_n v2), (3, g_n v3), (4, g_n v4), (5, g_n v5), (6, g_n (v6 + (-1)))] [] M13 (g_qV Q))) : g_Run d 385 73 [(0, .ref a0), (1, g_n v1), (2, g_n v2), (3, g_n v3), (4, g_n v4), (5, g_n v5), (6, g_n v6)] [] M (g_qV Q) := by
  refine g_Run.ok fun hok => ?_
  replace h := h hok
  refine r_aload_n x_385_73 rfl ?_
  obtain ⟨hO1, h⟩ := h
  obtain ⟨b2, hb3, h⟩ := h
  refine r_getR x_385_74 rfl (ci := 12) (k := 9) (ns := 0) (by decide +kernel) (by decide) rfl (kz := 9) rfl hO1 hb3 ?_
  refine r_iload x_385_77 rfl ?_
  refine r_aload_n x_385_79 rfl ?_
  obtain ⟨b4, hb5, h⟩ := h
  refine r_getR x_385_80 rfl (ci := 12) (k := 9) (ns := 0) (by decide +kernel) (by decide) rfl (kz := 9) rfl hO1 hb5 ?_
  refine r_iload x_385_83 rfl ?_
  refine r_iconst x_385_85 ?_
  refine r_isub x_385_86 ?_
  obtain ⟨h6, h⟩ := h
  obtain ⟨n7, hA8, h⟩ := h
  obtain ⟨h9, h⟩ := h
  refine r_iald x_385_87 hA8 h6 h9.1 h9.2 ?_
  obtain ⟨n10, hA11, h⟩ := h
  obtain ⟨h12, h⟩ := h
  refine r_iast x_385_88 hA11 hv6 h12.1 h12.2 (hok.1 _ _) ?_
  obtain ⟨M13, hM14⟩ : ∃ Mz, Mz = g_wi M b2 v6 (g_i M b4 (v6 - 1)) := ⟨_, rfl⟩
  rw [← hM14]
  refine g_Run.ok fun hok15 => ?_
  replace h := h M13 hM14 hok15
  have hx16 := g_extW hM14
  replace hO1 := hO1.up hx16
  replace hA8 := hA8.up hx16
  replace hA11 := hA11.up hx16
  obtain ⟨h17, h⟩ := h
  refine r_iinc x_385_89 (by decide +kernel) rfl rfl (lv1 := [(0, .ref a0), (1, g_n v1), (2, g_n v2), (3, g_n v3), (4, g_n v4), (5, g_n v5), (6, g_n (v6 + (-1)))]) rfl ?_
  refine r_goto x_385_92 (t := 24) (by decide +kernel) ?_
  exact h
theorem m_X12_levels {d : Nat} {M : g_M} {Q : Int → g_M → Prop} {a0 : Nat} {v1 : Int} (hv1 : g_InR v1) (h : g_ok M → g_O M a0 12 ∧ ∃ b2, g_r M a0 53 = some b2 ∧ ∃ n4, g_A M b2 1 n4 ∧ ((0 : Int) ≤ v1 ∧ (v1 : Int) < n4) ∧ g_Run d 386 9 [(0, .ref a0), (1, g_n v1), (2, g_n (g_i M b2 v1)), (3, g_n 1)] [] M (g_qI Q)) : g_Call (d + 1) 386 [.ref a0, g_n v1] M (g_qI Q) := by
  refine g_Call.ok fun hok0 => ?_
  replace h := h hok0
  refine r_body rfl (lv := [(0, .ref a0), (1, g_n v1)]) rfl ?_
  refine g_Run.ok fun hok => ?_
  refine r_aload_n x_386_0 rfl ?_
  obtain ⟨hO1, h⟩ := h
  obtain ⟨b2, hb3, h⟩ := h
  refine r_getR x_386_1 rfl (ci := 12) (k := 53) (ns := 0) (by decide +kernel) (by decide) rfl (kz := 53) rfl hO1 hb3 ?_
  refine r_iload_n x_386_4 rfl ?_
  obtain ⟨n4, hA5, h⟩ := h
  obtain ⟨h6, h⟩ := h
  refine r_iald x_386_5 hA5 hv1 h6.1 h6.2 ?_
  refine r_istore_n x_386_6 (by decide +kernel) rfl (lv1 := [(0, .ref a0), (1, g_n v1), (2, g_n (g_i M b2 v1))]) rfl ?_
  refine r_iconst x_386_7 ?_
  refine r_istore_n x_386_8 (by decide +kernel) rfl (lv1 := [(0, .ref a0), (1, g_n v1), (2, g_n (g_i M b2 v1)), (3, g_n 1)]) rfl ?_
  exact h
theorem s_X12_levels_9 {d : Nat} {M : g_M} {Q : Int → g_M → Prop} {a0 : Nat} {v1 : Int} (hv1 : g_InR v1) {v2 : Int} (hv2 : g_InR v2) {v3 : Int} (hv3 : g_InR v3) (h : g_ok M → g_O M a0 12 ∧ g_Call d 376 [.ref a0, g_n v1, g_n v2] M (g_qI fun r5 M2 => g_ext M M2 → g_ok M2 → g_InR r5 → ((r5 = 0 → ∃ b7, g_r M2 a0 51 = some b7 ∧ g_Call d 369 [.ref a0, g_n v1, g_n v2, g_n 0] M2 (g_qI fun r12 M9 => g_ext M2 M9 → g_ok M9 → g_InR r12 → ∃ n14, g_A M9 b7 1 n14 ∧ ((0 : Int) ≤ r12 ∧ (r12 : Int) < n14) ∧ g_InR (v3 + 1) ∧ g_Run d 386 9 [(0, .ref a0), (1, g_n v1), (2, g_n (g_i M9 b7 r12)), (3, g_n (v3 + 1))] [] M9 (g_qI Q))) ∧ (¬ r5 = 0 → Q v3 M2)))) : g_Run d 386 9 [(0, .ref a0), (1, g_n v1), (2, g_n v2), (3, g_n v3)] [] M (g_qI Q) := by
  refine g_Run.ok fun hok => ?_
  replace h := h hok
  refine r_aload_n x_386_9 rfl ?_
  refine r_iload_n x_386_10 rfl ?_
  refine r_iload_n x_386_11 rfl ?_
  obtain ⟨hO1, h⟩ := h
  refine r_invV x_386_12 (z := 376) (ns := 0) (by decide +kernel) (as := [g_n v1, g_n v2]) (r := []) rfl rfl rfl hO1 rfl rfl ?_
  refine r_callI h fun r5 M2 hx3 hok4 hr6 h => ?_
  replace h := h hx3 hok4 hr6
  replace hO1 := hO1.up hx3
  refine r_if_ne x_386_15 (t := 37) (by decide +kernel) hr6 (fun hc => ?_) (fun hc => ?_)
  · replace h := h.2 hc
    refine r_iload_n x_386_37 rfl ?_
    exact r_retI x_386_38 rfl hv3 h
  · replace h := h.1 hc
    refine r_aload_n x_386_18 rfl ?_
    obtain ⟨b7, hb8, h⟩ := h
    refine r_getR x_386_19 rfl (ci := 12) (k := 51) (ns := 0) (by decide +kernel) (by decide) rfl (kz := 51) rfl hO1 hb8 ?_
    refine r_aload_n x_386_22 rfl ?_
    refine r_iload_n x_386_23 rfl ?_
    refine r_iload_n x_386_24 rfl ?_
    refine r_iconst x_386_25 ?_
    refine r_invV x_386_26 (z := 369) (ns := 0) (by decide +kernel) (as := [g_n v1, g_n v2, g_n 0]) (r := [.ref b7]) rfl rfl rfl hO1 rfl rfl ?_
    refine r_callI h fun r12 M9 hx10 hok11 hr13 h => ?_
    replace h := h hx10 hok11 hr13
    replace hO1 := hO1.up hx10
    obtain ⟨n14, hA15, h⟩ := h
    obtain ⟨h16, h⟩ := h
    refine r_iald x_386_29 hA15 hr13 h16.1 h16.2 ?_
    refine r_istore_n x_386_30 (by decide +kernel) rfl (lv1 := [(0, .ref a0), (1, g_n v1), (2, g_n (g_i M9 b7 r12)), (3, g_n v3)]) rfl ?_
    obtain ⟨h17, h⟩ := h
    refine r_iinc x_386_31 (by decide +kernel) rfl rfl (lv1 := [(0, .ref a0), (1, g_n v1), (2, g_n (g_i M9 b7 r12)), (3, g_n (v3 + 1))]) rfl ?_
    refine r_goto x_386_34 (t := 9) (by decide +kernel) ?_
    exact h
theorem m_X12_nodes {d : Nat} {M : g_M} {Q : Int → g_M → Prop} {a0 : Nat} {v1 : Int} (hv1 : g_InR v1) {v2 : Int} (hv2 : g_InR v2) (h : g_ok M → g_Run d 387 5 [(0, .ref a0), (1, g_n v1), (2, g_n v2), (3, g_n 0), (4, g_n 0)] [] M (g_qI Q)) : g_Call (d + 1) 387 [.ref a0, g_n v1, g_n v2] M (g_qI Q) := by
  refine g_Call.ok fun hok0 => ?_
  replace h := h hok0
  refine r_body rfl (lv := [(0, .ref a0), (1, g_n v1), (2, g_n v2)]) rfl ?_
  refine g_Run.ok fun hok => ?_
  refine r_iconst x_387_0 ?_
  refine r_istore_n x_387_1 (by decide +kernel) rfl (lv1 := [(0, .ref a0), (1, g_n v1), (2, g_n v2), (3, g_n 0)]) rfl ?_
  refine r_iconst x_387_2 ?_
  refine r_istore x_387_3 (by decide +kernel) rfl (lv1 := [(0, .ref a0), (1, g_n v1), (2, g_n v2), (3, g_n 0), (4, g_n 0)]) rfl ?_
  exact h
theorem s_X12_nodes_5 {d : Nat} {M : g_M} {Q : Int → g_M → Prop} {a0 : Nat} {v1 : Int} (hv1 : g_InR v1) {v2 : Int} (hv2 : g_InR v2) {v3 : Int} (hv3 : g_InR v3) {v4 : Int} (hv4 : g_InR v4) (h : g_ok M → ((v4 < 600 → g_O M a0 12 ∧ ∃ b2, g_r M a0 48 = some b2 ∧ g_InR (v1 * 600) ∧ g_InR ((v1 * 600) + v4) ∧ ∃ n6, g_A M b2 2 n6 ∧ ((0 : Int) ≤ (v1 * 600) + v4 ∧ ((v1 * 600) + v4 : Int) < n6) ∧ ((g_i M b2 ((v1 * 600) + v4) = 0 → g_InR (v3 + 0) ∧ g_InR (v4 + 1) ∧ g_Run d 387 5 [(0, .ref a0), (1, g_n v1), (2, g_n v2), (3, g_n (v3 + 0)), (4, g_n (v4 + 1))] [] M (g_qI Q)) ∧ (¬ g_i M b2 ((v1 * 600) + v4) = 0 → ((v2 = 0 → g_InR (v3 + 1) ∧ g_InR (v4 + 1) ∧ g_Run d 387 5 [(0, .ref a0), (1, g_n v1), (2, g_n v2), (3, g_n (v3 + 1)), (4, g_n (v4 + 1))] [] M (g_qI Q)) ∧ (¬ v2 = 0 → g_Call d 376 [.ref a0, g_n v1, g_n v4] M (g_qI fun r16 M13 => g_ext M M13 → g_ok M13 → g_InR r16 → ((r16 = 0 → g_InR (v3 + 0) ∧ g_InR (v4 + 1) ∧ g_Run d 387 5 [(0, .ref a0), (1, g_n v1), (2, g_n v2), (3, g_n (v3 + 0)), (4, g_n (v4 + 1))] [] M13 (g_qI Q)) ∧ (¬ r16 = 0 → g_InR (v3 + 1) ∧ g_InR (v4 + 1) ∧ g_Run d 387 5 [(0, .ref a0), (1, g_n v1), (2, g_n v2), (3, g_n (v3 + 1)), (4, g_n (v4 + 1))] [] M13 (g_qI Q))))))))) ∧ (¬ v4 < 600 → Q v3 M))) : g_Run d 387 5 [(0, .ref a0), (1, g_n v1), (2, g_n v2), (3, g_n v3), (4, g_n v4)] [] M (g_qI Q) := by
  refine g_Run.ok fun hok => ?_
  replace h := h hok
  refine r_iload x_387_5 rfl ?_
  refine r_sipush x_387_7 (x := 600) rfl ?_
  refine r_ic_ge x_387_10 (t := 57) (by decide +kernel) hv4 (g_Rk rfl) (fun hc => ?_) (fun hc => ?_)
  · replace h := h.2 hc
    refine r_iload_n x_387_57 rfl ?_
    exact r_retI x_387_58 rfl hv3 h
  · replace h := h.1 hc
    refine r_iload_n x_387_13 rfl ?_
    refine r_aload_n x_387_14 rfl ?_
    obtain ⟨hO1, h⟩ := h
    obtain ⟨b2, hb3, h⟩ := h
    refine r_getR x_387_15 rfl (ci := 12) (k := 48) (ns := 0) (by decide +kernel) (by decide) rfl (kz := 48) rfl hO1 hb3 ?_
    refine r_iload_n x_387_18 rfl ?_
    refine r_sipush x_387_19 (x := 600) rfl ?_
    refine r_imul x_387_22 ?_
    obtain ⟨h4, h⟩ := h
    refine r_iload x_387_23 rfl ?_
    refine r_iadd x_387_25 ?_
    obtain ⟨h5, h⟩ := h
    obtain ⟨n6, hA7, h⟩ := h
    obtain ⟨h8, h⟩ := h
    refine r_bald x_387_26 (Or.inr rfl) hA7 h5 h8.1 h8.2 ?_
    refine r_if_eq x_387_27 (t := 48) (by decide +kernel) (hok.1 _ _) (fun hc => ?_) (fun hc => ?_)
    · replace h := h.1 hc
      refine r_iconst x_387_48 ?_
      refine r_iadd x_387_49 ?_
      obtain ⟨h9, h⟩ := h
      refine r_istore_n x_387_50 (by decide +kernel) rfl (lv1 := [(0, .ref a0), (1, g_n v1), (2, g_n v2), (3, g_n (v3 + 0)), (4, g_n v4)]) rfl ?_
      obtain ⟨h10, h⟩ := h
      refine r_iinc x_387_51 (by decide +kernel) rfl rfl (lv1 := [(0, .ref a0), (1, g_n v1), (2, g_n v2), (3, g_n (v3 + 0)), (4, g_n (v4 + 1))]) rfl ?_
      refine r_goto x_387_54 (t := 5) (by decide +kernel) ?_
      exact h
    · replace h := h.2 hc
      refine r_iload_n x_387_30 rfl ?_
      refine r_if_eq x_387_31 (t := 44) (by decide +kernel) hv2 (fun hc => ?_) (fun hc => ?_)
      · replace h := h.1 hc
        refine r_iconst x_387_44 ?_
        refine r_goto x_387_45 (t := 49) (by decide +kernel) ?_
        refine r_iadd x_387_49 ?_
        obtain ⟨h11, h⟩ := h
        refine r_istore_n x_387_50 (by decide +kernel) rfl (lv1 := [(0, .ref a0), (1, g_n v1), (2, g_n v2), (3, g_n (v3 + 1)), (4, g_n v4)]) rfl ?_
        obtain ⟨h12, h⟩ := h
        refine r_iinc x_387_51 (by decide +kernel) rfl rfl (lv1 := [(0, .ref a0), (1, g_n v1), (2, g_n v2), (3, g_n (v3 + 1)), (4, g_n (v4 + 1))]) rfl ?_
        refine r_goto x_387_54 (t := 5) (by decide +kernel) ?_
        exact h
      · replace h := h.2 hc
        refine r_aload_n x_387_34 rfl ?_
        refine r_iload_n x_387_35 rfl ?_
        refine r_iload x_387_36 rfl ?_
        refine r_invV x_387_38 (z := 376) (ns := 0) (by decide +kernel) (as := [g_n v1, g_n v4]) (r := [g_n v3]) rfl rfl rfl hO1 rfl rfl ?_
        refine r_callI h fun r16 M13 hx14 hok15 hr17 h => ?_
        replace h := h hx14 hok15 hr17
        replace hO1 := hO1.up hx14
        replace hA7 := hA7.up hx14
        refine r_if_eq x_387_41 (t := 48) (by decide +kernel) hr17 (fun hc => ?_) (fun hc => ?_)
        · replace h := h.1 hc
          refine r_iconst x_387_48 ?_
          refine r_iadd x_387_49 ?_
          obtain ⟨h18, h⟩ := h
          refine r_istore_n x_387_50 (by decide +kernel) rfl (lv1 := [(0, .ref a0), (1, g_n v1), (2, g_n v2), (3, g_n (v3 + 0)), (4, g_n v4)]) rfl ?_
          obtain ⟨h19, h⟩ := h
          refine r_iinc x_387_51 (by decide +kernel) rfl rfl (lv1 := [(0, .ref a0), (1, g_n v1), (2, g_n v2), (3, g_n (v3 + 0)), (4, g_n (v4 + 1))]) rfl ?_
          refine r_goto x_387_54 (t := 5) (by decide +kernel) ?_
          exact h
        · replace h := h.2 hc
          refine r_iconst x_387_44 ?_
          refine r_goto x_387_45 (t := 49) (by decide +kernel) ?_
          refine r_iadd x_387_49 ?_
          obtain ⟨h20, h⟩ := h
          refine r_istore_n x_387_50 (by decide +kernel) rfl (lv1 := [(0, .ref a0), (1, g_n v1), (2, g_n v2), (3, g_n (v3 + 1)), (4, g_n v4)]) rfl ?_
          obtain ⟨h21, h⟩ := h
          refine r_iinc x_387_51 (by decide +kernel) rfl rfl (lv1 := [(0, .ref a0), (1, g_n v1), (2, g_n v2), (3, g_n (v3 + 1)), (4, g_n (v4 + 1))]) rfl ?_
          refine r_goto x_387_54 (t := 5) (by decide +kernel) ?_
          exact h
theorem m_X12_beginning {d : Nat} {M : g_M} {Q : Int → g_M → Prop} {v0 : Int} (hv0 : g_InR v0) (h : g_ok M → g_InR (((-100)) - v0) ∧ Q (((-100)) - v0) M) : g_Call (d + 1) 388 [g_n v0] M (g_qI Q) := by
  refine g_Call.ok fun hok0 => ?_
  replace h := h hok0
  refine r_body rfl (lv := [(0, g_n v0)]) rfl ?_
  refine g_Run.ok fun hok => ?_
  refine r_bipush x_388_0 (x := (-100)) rfl ?_
  refine r_iload_n x_388_2 rfl ?_
  refine r_isub x_388_3 ?_
  obtain ⟨h1, h⟩ := h
  exact r_retI x_388_4 rfl h1 h
theorem m_X12_ending {d : Nat} {M : g_M} {Q : Int → g_M → Prop} {v0 : Int} (hv0 : g_InR v0) (h : g_ok M → g_InR (((-200)) - v0) ∧ Q (((-200)) - v0) M) : g_Call (d + 1) 389 [g_n v0] M (g_qI Q) := by
  refine g_Call.ok fun hok0 => ?_
  replace h := h hok0
  refine r_body rfl (lv := [(0, g_n v0)]) rfl ?_
  refine g_Run.ok fun hok => ?_
  refine r_sipush x_389_0 (x := (-200)) rfl ?_
  refine r_iload_n x_389_3 rfl ?_
  refine r_isub x_389_4 ?_
  obtain ⟨h1, h⟩ := h
  exact r_retI x_389_5 rfl h1 h
theorem m_X12_classOfEnd {d : Nat} {M : g_M} {Q : Int → g_M → Prop} {a0 : Nat} {v1 : Int} (hv1 : g_InR v1) (h : g_ok M → ((v1 < 0 → (((-200) < v1 → g_InR (((-100)) - v1) ∧ Q (((-100)) - v1) M) ∧ (¬ (-200) < v1 → g_InR (((-200)) - v1) ∧ Q (((-200)) - v1) M))) ∧ (¬ v1 < 0 → g_O M a0 12 ∧ g_Call d 267 [.ref a0, g_n v1] M (g_qI fun r7 M4 => g_ext M M4 → g_ok M4 → g_InR r7 → Q r7 M4)))) : g_Call (d + 1) 390 [.ref a0, g_n v1] M (g_qI Q) := by
  refine g_Call.ok fun hok0 => ?_
  replace h := h hok0
  refine r_body rfl (lv := [(0, .ref a0), (1, g_n v1)]) rfl ?_
  refine g_Run.ok fun hok => ?_
  refine r_iload_n x_390_0 rfl ?_
  refine r_if_lt x_390_1 (t := 12) (by decide +kernel) hv1 (fun hc => ?_) (fun hc => ?_)
  · replace h := h.1 hc
    refine r_iload_n x_390_12 rfl ?_
    refine r_sipush x_390_13 (x := (-200)) rfl ?_
    refine r_ic_le x_390_16 (t := 26) (by decide +kernel) hv1 (g_Rk rfl) (fun hc => ?_) (fun hc => ?_)
    · replace h := h.2 hc
      refine r_sipush x_390_26 (x := (-200)) rfl ?_
      refine r_iload_n x_390_29 rfl ?_
      refine r_isub x_390_30 ?_
      obtain ⟨h1, h⟩ := h
      exact r_retI x_390_31 rfl h1 h
    · replace h := h.1 hc
      refine r_bipush x_390_19 (x := (-100)) rfl ?_
      refine r_iload_n x_390_21 rfl ?_
      refine r_isub x_390_22 ?_
      obtain ⟨h2, h⟩ := h
      refine r_goto x_390_23 (t := 31) (by decide +kernel) ?_
      exact r_retI x_390_31 rfl h2 h
  · replace h := h.2 hc
    refine r_aload_n x_390_4 rfl ?_
    refine r_iload_n x_390_5 rfl ?_
    obtain ⟨hO3, h⟩ := h
    refine r_invV x_390_6 (z := 267) (ns := 0) (by decide +kernel) (as := [g_n v1]) (r := []) rfl rfl rfl hO3 rfl rfl ?_
    refine r_callI h fun r7 M4 hx5 hok6 hr8 h => ?_
    replace h := h hx5 hok6 hr8
    replace hO3 := hO3.up hx5
    refine r_goto x_390_9 (t := 31) (by decide +kernel) ?_
    exact r_retI x_390_31 rfl hr8 h
theorem m_X12_compareEnds {d : Nat} {M : g_M} {Q : Int → g_M → Prop} {a0 : Nat} {v1 : Int} (hv1 : g_InR v1) {v2 : Int} (hv2 : g_InR v2) (h : g_ok M → g_O M a0 12 ∧ g_Call d 390 [.ref a0, g_n v1] M (g_qI fun r5 M2 => g_ext M M2 → g_ok M2 → g_InR r5 → g_Call d 390 [.ref a0, g_n v2] M2 (g_qI fun r10 M7 => g_ext M2 M7 → g_ok M7 → g_InR r10 → g_InR (r5 - r10) ∧ ((r5 - r10 = 0 → ((v1 < 0 → (((-200) < v1 → g_Run d 391 38 [(0, .ref a0), (1, g_n v1), (2, g_n v2), (3, g_n (r5 - r10))] [g_n 0] M7 (g_qI Q)) ∧ (¬ (-200) < v1 → g_Run d 391 38 [(0, .ref a0), (1, g_n v1), (2, g_n v2), (3, g_n (r5 - r10))] [g_n 2] M7 (g_qI Q)))) ∧ (¬ v1 < 0 → g_Run d 391 38 [(0, .ref a0), (1, g_n v1), (2, g_n v2), (3, g_n (r5 - r10))] [g_n 1] M7 (g_qI Q)))) ∧ (¬ r5 - r10 = 0 → Q (r5 - r10) M7))))) : g_Call (d + 1) 391 [.ref a0, g_n v1, g_n v2] M (g_qI Q) := by
  refine g_Call.ok fun hok0 => ?_
  replace h := h hok0
  refine r_body rfl (lv := [(0, .ref a0), (1, g_n v1), (2, g_n v2)]) rfl ?_
  refine g_Run.ok fun hok => ?_
  refine r_aload_n x_391_0 rfl ?_
  refine r_iload_n x_391_1 rfl ?_
  obtain ⟨hO1, h⟩ := h
  refine r_invV x_391_2 (z := 390) (ns := 0) (by decide +kernel) (as := [g_n v1]) (r := []) rfl rfl rfl hO1 rfl rfl ?_
  refine r_callI h fun r5 M2 hx3 hok4 hr6 h => ?_
  replace h := h hx3 hok4 hr6
  replace hO1 := hO1.up hx3
  refine r_aload_n x_391_5 rfl ?_
  refine r_iload_n x_391_6 rfl ?_
  refine r_invV x_391_7 (z := 390) (ns := 0) (by decide +kernel) (as := [g_n v2]) (r := [g_n r5]) rfl rfl rfl hO1 rfl rfl ?_
  refine r_callI h fun r10 M7 hx8 hok9 hr11 h => ?_
  replace h := h hx8 hok9 hr11
  replace hO1 := hO1.up hx8
  refine r_isub x_391_10 ?_
  obtain ⟨h12, h⟩ := h
  refine r_istore_n x_391_11 (by decide +kernel) rfl (lv1 := [(0, .ref a0), (1, g_n v1), (2, g_n v2), (3, g_n (r5 - r10))]) rfl ?_
  refine r_iload_n x_391_12 rfl ?_
  refine r_if_eq x_391_13 (t := 18) (by decide +kernel) h12 (fun hc => ?_) (fun hc => ?_)
  · replace h := h.1 hc
    refine r_iload_n x_391_18 rfl ?_
    refine r_if_lt x_391_19 (t := 26) (by decide +kernel) hv1 (fun hc => ?_) (fun hc => ?_)
    · replace h := h.1 hc
      refine r_iload_n x_391_26 rfl ?_
      refine r_sipush x_391_27 (x := (-200)) rfl ?_
      refine r_ic_le x_391_30 (t := 37) (by decide +kernel) hv1 (g_Rk rfl) (fun hc => ?_) (fun hc => ?_)
      · replace h := h.2 hc
        refine r_iconst x_391_37 ?_
        exact h
      · replace h := h.1 hc
        refine r_iconst x_391_33 ?_
        refine r_goto x_391_34 (t := 38) (by decide +kernel) ?_
        exact h
    · replace h := h.2 hc
      refine r_iconst x_391_22 ?_
      refine r_goto x_391_23 (t := 38) (by decide +kernel) ?_
      exact h
  · replace h := h.2 hc
    refine r_iload_n x_391_16 rfl ?_
    exact r_retI x_391_17 rfl h12 h
theorem s_X12_compareEnds_38 {d : Nat} {M : g_M} {Q : Int → g_M → Prop} {a0 : Nat} {v1 : Int} (hv1 : g_InR v1) {v2 : Int} (hv2 : g_InR v2) {v3 : Int} (hv3 : g_InR v3) {w0 : Int} (hw0 : g_InR w0) (h : g_ok M → ((v2 < 0 → (((-200) < v2 → g_Run d 391 60 [(0, .ref a0), (1, g_n v1), (2, g_n v2), (3, g_n v3), (4, g_n w0)] [g_n 0] M (g_qI Q)) ∧ (¬ (-200) < v2 → g_Run d 391 60 [(0, .ref a0), (1, g_n v1), (2, g_n v2), (3, g_n v3), (4, g_n w0)] [g_n 2] M (g_qI Q)))) ∧ (¬ v2 < 0 → g_Run d 391 60 [(0, .ref a0), (1, g_n v1), (2, g_n v2), (3, g_n v3), (4, g_n w0)] [g_n 1] M (g_qI Q)))) : g_Run d 391 38 [(0, .ref a0), (1, g_n v1), (2, g_n v2), (3, g_n v3)] [g_n w0] M (g_qI Q) := by
  refine g_Run.ok fun hok => ?_
  replace h := h hok
  refine r_istore x_391_38 (by decide +kernel) rfl (lv1 := [(0, .ref a0), (1, g_n v1), (2, g_n v2), (3, g_n v3), (4, g_n w0)]) rfl ?_
  refine r_iload_n x_391_40 rfl ?_
  refine r_if_lt x_391_41 (t := 48) (by decide +kernel) hv2 (fun hc => ?_) (fun hc => ?_)
  · replace h := h.1 hc
    refine r_iload_n x_391_48 rfl ?_
    refine r_sipush x_391_49 (x := (-200)) rfl ?_
    refine r_ic_le x_391_52 (t := 59) (by decide +kernel) hv2 (g_Rk rfl) (fun hc => ?_) (fun hc => ?_)
    · replace h := h.2 hc
      refine r_iconst x_391_59 ?_
      exact h
    · replace h := h.1 hc
      refine r_iconst x_391_55 ?_
      refine r_goto x_391_56 (t := 60) (by decide +kernel) ?_
      exact h
  · replace h := h.2 hc
    refine r_iconst x_391_44 ?_
    refine r_goto x_391_45 (t := 60) (by decide +kernel) ?_
    exact h
theorem s_X12_compareEnds_60 {d : Nat} {M : g_M} {Q : Int → g_M → Prop} {a0 : Nat} {v1 : Int} (hv1 : g_InR v1) {v2 : Int} (hv2 : g_InR v2) {v3 : Int} (hv3 : g_InR v3) {v4 : Int} (hv4 : g_InR v4) {w0 : Int} (hw0 : g_InR w0) (h : g_ok M → ((v4 = w0 → ((v4 = 1 → g_O M a0 12 ∧ g_Call d 269 [.ref a0, g_n v1, g_n v2] M (g_qI fun r6 M3 => g_ext M M3 → g_ok M3 → g_InR r6 → Q r6 M3)) ∧ (¬ v4 = 1 → g_InR (v4 - w0) ∧ Q (v4 - w0) M))) ∧ (¬ v4 = w0 → g_InR (v4 - w0) ∧ Q (v4 - w0) M))) : g_Run d 391 60 [(0, .ref a0), (1, g_n v1), (2, g_n v2), (3, g_n v3), (4, g_n v4)] [g_n w0] M (g_qI Q) := by
  refine g_Run.ok fun hok => ?_
  replace h := h hok
  refine r_istore x_391_60 (by decide +kernel) rfl (lv1 := [(0, .ref a0), (1, g_n v1), (2, g_n v2), (3, g_n v3), (4, g_n v4), (5, g_n w0)]) rfl ?_
  refine r_iload x_391_62 rfl ?_
  refine r_iload x_391_64 rfl ?_
  refine r_ic_ne x_391_66 (t := 75) (by decide +kernel) hv4 hw0 (fun hc => ?_) (fun hc => ?_)
  · replace h := h.2 hc
    refine r_iload x_391_75 rfl ?_
    refine r_iload x_391_77 rfl ?_
    refine r_isub x_391_79 ?_
    obtain ⟨h1, h⟩ := h
    refine r_goto x_391_80 (t := 89) (by decide +kernel) ?_
    exact r_retI x_391_89 rfl h1 h
  · replace h := h.1 hc
    refine r_iload x_391_69 rfl ?_
    refine r_iconst x_391_71 ?_
    refine r_ic_eq x_391_72 (t := 83) (by decide +kernel) hv4 (g_Rk rfl) (fun hc => ?_) (fun hc => ?_)
    · replace h := h.1 hc
      refine r_aload_n x_391_83 rfl ?_
      refine r_iload_n x_391_84 rfl ?_
      refine r_iload_n x_391_85 rfl ?_
      obtain ⟨hO2, h⟩ := h
      refine r_invV x_391_86 (z := 269) (ns := 0) (by decide +kernel) (as := [g_n v1, g_n v2]) (r := []) rfl rfl rfl hO2 rfl rfl ?_
      refine r_callI h fun r6 M3 hx4 hok5 hr7 h => ?_
      replace h := h hx4 hok5 hr7
      replace hO2 := hO2.up hx4
      exact r_retI x_391_89 rfl hr7 h
    · replace h := h.2 hc
      refine r_iload x_391_75 rfl ?_
      refine r_iload x_391_77 rfl ?_
      refine r_isub x_391_79 ?_
      obtain ⟨h8, h⟩ := h
      refine r_goto x_391_80 (t := 89) (by decide +kernel) ?_
      exact r_retI x_391_89 rfl h8 h
theorem m_X12_addInterval {d : Nat} {M : g_M} {Q : g_M → Prop} {a0 : Nat} {v1 : Int} (hv1 : g_InR v1) {v2 : Int} (hv2 : g_InR v2) {v3 : Int} (hv3 : g_InR v3) {v4 : Int} (hv4 : g_InR v4) (h : g_ok M → g_O M a0 12 ∧ ∃ b2, g_r M a0 57 = some b2 ∧ ∃ n4, g_A M b2 1 n4 ∧ ((0 : Int) ≤ g_i M a0 61 ∧ (g_i M a0 61 : Int) < n4) ∧ (∀ M7, M7 = g_wi M b2 (g_i M a0 61) v1 → g_ok M7 → ∃ b11, g_r M7 a0 59 = some b11 ∧ ∃ n13, g_A M7 b11 2 n13 ∧ ((0 : Int) ≤ g_i M7 a0 61 ∧ (g_i M7 a0 61 : Int) < n13) ∧ (v2 = 0 ∨ v2 = 1) ∧ (∀ M17, M17 = g_wi M7 b11 (g_i M7 a0 61) v2 → g_ok M17 → ∃ b21, g_r M17 a0 58 = some b21 ∧ ∃ n23, g_A M17 b21 1 n23 ∧ ((0 : Int) ≤ g_i M17 a0 61 ∧ (g_i M17 a0 61 : Int) < n23) ∧ (∀ M26, M26 = g_wi M17 b21 (g_i M17 a0 61) v3 → g_ok M26 → ∃ b30, g_r M26 a0 60 = some b30 ∧ ∃ n32, g_A M26 b30 2 n32 ∧ ((0 : Int) ≤ g_i M26 a0 61 ∧ (g_i M26 a0 61 : Int) < n32) ∧ (v4 = 0 ∨ v4 = 1) ∧ (∀ M36, M36 = g_wi M26 b30 (g_i M26 a0 61) v4 → g_ok M36 → g_InR ((g_i M36 a0 61) + 1) ∧ (∀ M41, M41 = g_wi M36 a0 61 ((g_i M36 a0 61) + 1) → g_ok M41 → Q M41)))))) : g_Call (d + 1) 392 [.ref a0, g_n v1, g_n v2, g_n v3, g_n v4] M (g_qV Q) := by
  refine g_Call.ok fun hok0 => ?_
  replace h := h hok0
  refine r_body rfl (lv := [(0, .ref a0), (1, g_n v1), (2, g_n v2), (3, g_n v3), (4, g_n v4)]) rfl ?_
  refine g_Run.ok fun hok => ?_
  refine r_aload_n x_392_0 rfl ?_
  obtain ⟨hO1, h⟩ := h
  obtain ⟨b2, hb3, h⟩ := h
  refine r_getR x_392_1 rfl (ci := 12) (k := 57) (ns := 0) (by decide +kernel) (by decide) rfl (kz := 57) rfl hO1 hb3 ?_
  refine r_aload_n x_392_4 rfl ?_
  refine r_getI x_392_5 rfl (ci := 12) (k := 61) (ns := 0) (by decide +kernel) (by decide) rfl (kz := 61) rfl hO1 ?_
  refine r_iload_n x_392_8 rfl ?_
  obtain ⟨n4, hA5, h⟩ := h
  obtain ⟨h6, h⟩ := h
  refine r_iast x_392_9 hA5 (hok.1 _ _) h6.1 h6.2 hv1 ?_
  obtain ⟨M7, hM8⟩ : ∃ Mz, Mz = g_wi M b2 (g_i M a0 61) v1 := ⟨_, rfl⟩
  rw [← hM8]
  refine g_Run.ok fun hok9 => ?_
  replace h := h M7 hM8 hok9
  have hx10 := g_extW hM8
  replace hO1 := hO1.up hx10
  replace hA5 := hA5.up hx10
  refine r_aload_n x_392_10 rfl ?_
  obtain ⟨b11, hb12, h⟩ := h
  refine r_getR x_392_11 rfl (ci := 12) (k := 59) (ns := 0) (by decide +kernel) (by decide) rfl (kz := 59) rfl hO1 hb12 ?_
  refine r_aload_n x_392_14 rfl ?_
  refine r_getI x_392_15 rfl (ci := 12) (k := 61) (ns := 0) (by decide +kernel) (by decide) rfl (kz := 61) rfl hO1 ?_
  refine r_iload_n x_392_18 rfl ?_
  obtain ⟨n13, hA14, h⟩ := h
  obtain ⟨h15, h⟩ := h
  obtain ⟨h16, h⟩ := h
  refine r_bast2 x_392_19 hA14 (hok9.1 _ _) h15.1 h15.2 h16 ?_
  obtain ⟨M17, hM18⟩ : ∃ Mz, Mz = g_wi M7 b11 (g_i M7 a0 61) v2 := ⟨_, rfl⟩
  rw [← hM18]
  refine g_Run.ok fun hok19 => ?_
  replace h := h M17 hM18 hok19
  have hx20 := g_extW hM18
  replace hO1 := hO1.up hx20
  replace hA5 := hA5.up hx20
  replace hA14 := hA14.up hx20
  refine r_aload_n x_392_20 rfl ?_
  obtain ⟨b21, hb22, h⟩ := h
  refine r_getR x_392_21 rfl (ci := 12) (k := 58) (ns := 0) (by decide +kernel) (by decide) rfl (kz := 58) rfl hO1 hb22 ?_
  refine r_aload_n x_392_24 rfl ?_
  refine r_getI x_392_25 rfl (ci := 12) (k := 61) (ns := 0) (by decide +kernel) (by decide) rfl (kz := 61) rfl hO1 ?_
  refine r_iload_n x_392_28 rfl ?_
  obtain ⟨n23, hA24, h⟩ := h
  obtain ⟨h25, h⟩ := h
  refine r_iast x_392_29 hA24 (hok19.1 _ _) h25.1 h25.2 hv3 ?_
  obtain ⟨M26, hM27⟩ : ∃ Mz, Mz = g_wi M17 b21 (g_i M17 a0 61) v3 := ⟨_, rfl⟩
  rw [← hM27]
  refine g_Run.ok fun hok28 => ?_
  replace h := h M26 hM27 hok28
  have hx29 := g_extW hM27
  replace hO1 := hO1.up hx29
  replace hA5 := hA5.up hx29
  replace hA14 := hA14.up hx29
  replace hA24 := hA24.up hx29
  refine r_aload_n x_392_30 rfl ?_
  obtain ⟨b30, hb31, h⟩ := h
  refine r_getR x_392_31 rfl (ci := 12) (k := 60) (ns := 0) (by decide +kernel) (by decide) rfl (kz := 60) rfl hO1 hb31 ?_
  refine r_aload_n x_392_34 rfl ?_
  refine r_getI x_392_35 rfl (ci := 12) (k := 61) (ns := 0) (by decide +kernel) (by decide) rfl (kz := 61) rfl hO1 ?_
  refine r_iload x_392_38 rfl ?_
  obtain ⟨n32, hA33, h⟩ := h
  obtain ⟨h34, h⟩ := h
  obtain ⟨h35, h⟩ := h
  refine r_bast2 x_392_40 hA33 (hok28.1 _ _) h34.1 h34.2 h35 ?_
  obtain ⟨M36, hM37⟩ : ∃ Mz, Mz = g_wi M26 b30 (g_i M26 a0 61) v4 := ⟨_, rfl⟩
  rw [← hM37]
  refine g_Run.ok fun hok38 => ?_
  replace h := h M36 hM37 hok38
  have hx39 := g_extW hM37
  replace hO1 := hO1.up hx39
  replace hA5 := hA5.up hx39
  replace hA14 := hA14.up hx39
  replace hA24 := hA24.up hx39
  replace hA33 := hA33.up hx39
  refine r_aload_n x_392_41 rfl ?_
  refine r_dup x_392_42 rfl ?_
  refine r_getI x_392_43 rfl (ci := 12) (k := 61) (ns := 0) (by decide +kernel) (by decide) rfl (kz := 61) rfl hO1 ?_
  refine r_iconst x_392_46 ?_
  refine r_iadd x_392_47 ?_
  obtain ⟨h40, h⟩ := h
  refine r_putI x_392_48 (ci := 12) (k := 61) (ns := 0) (by decide +kernel) (by decide) (g_f0 (by decide +kernel)) rfl h40 trivial (kz := 61) rfl hO1 ?_
  obtain ⟨M41, hM42⟩ : ∃ Mz, Mz = g_wi M36 a0 61 ((g_i M36 a0 61) + 1) := ⟨_, rfl⟩
  rw [← hM42]
  refine g_Run.ok fun hok43 => ?_
  replace h := h M41 hM42 hok43
  have hx44 := g_extW hM42
  replace hO1 := hO1.up hx44
  replace hA5 := hA5.up hx44
  replace hA14 := hA14.up hx44
  replace hA24 := hA24.up hx44
  replace hA33 := hA33.up hx44
  exact r_retV x_392_51 rfl h
theorem m_X12_addPoint {d : Nat} {M : g_M} {Q : g_M → Prop} {a0 : Nat} {v1 : Int} (hv1 : g_InR v1) {v2 : Int} (hv2 : g_InR v2) (h : g_ok M → g_Run d 393 2 [(0, .ref a0), (1, g_n v1), (2, g_n v2), (3, g_n v1)] [] M (g_qV Q)) : g_Call (d + 1) 393 [.ref a0, g_n v1, g_n v2] M (g_qV Q) := by
  refine g_Call.ok fun hok0 => ?_
  replace h := h hok0
  refine r_body rfl (lv := [(0, .ref a0), (1, g_n v1), (2, g_n v2)]) rfl ?_
  refine g_Run.ok fun hok => ?_
  refine r_iload_n x_393_0 rfl ?_
  refine r_istore_n x_393_1 (by decide +kernel) rfl (lv1 := [(0, .ref a0), (1, g_n v1), (2, g_n v2), (3, g_n v1)]) rfl ?_
  exact h
theorem s_X12_addPoint_2 {d : Nat} {M : g_M} {Q : g_M → Prop} {a0 : Nat} {v1 : Int} (hv1 : g_InR v1) {v2 : Int} (hv2 : g_InR v2) {v3 : Int} (hv3 : g_InR v3) (h : g_ok M → g_O M a0 12 ∧ ((v3 < g_i M a0 61 → ∃ b5, g_r M a0 57 = some b5 ∧ ∃ n7, g_A M b5 1 n7 ∧ ((0 : Int) ≤ v3 ∧ (v3 : Int) < n7) ∧ g_Call d 271 [.ref a0, g_n (g_i M b5 v3), g_n v2] M (g_qI fun r13 M10 => g_ext M M10 → g_ok M10 → g_InR r13 → ((r13 = 0 → g_InR (v3 + 1) ∧ g_Run d 393 2 [(0, .ref a0), (1, g_n v1), (2, g_n v2), (3, g_n (v3 + 1))] [] M10 (g_qV Q)) ∧ (¬ r13 = 0 → Q M10)))) ∧ (¬ v3 < g_i M a0 61 → g_Call d 392 [.ref a0, g_n v2, g_n 1, g_n v2, g_n 1] M (g_qV fun M2 => g_ext M M2 → g_ok M2 → Q M2)))) : g_Run d 393 2 [(0, .ref a0), (1, g_n v1), (2, g_n v2), (3, g_n v3)] [] M (g_qV Q) := by
  refine g_Run.ok fun hok => ?_
  replace h := h hok
  refine r_iload_n x_393_2 rfl ?_
  refine r_aload_n x_393_3 rfl ?_
  obtain ⟨hO1, h⟩ := h
  refine r_getI x_393_4 rfl (ci := 12) (k := 61) (ns := 0) (by decide +kernel) (by decide) rfl (kz := 61) rfl hO1 ?_
  refine r_ic_ge x_393_7 (t := 31) (by decide +kernel) hv3 (hok.1 _ _) (fun hc => ?_) (fun hc => ?_)
  · replace h := h.2 hc
    refine r_aload_n x_393_31 rfl ?_
    refine r_iload_n x_393_32 rfl ?_
    refine r_iconst x_393_33 ?_
    refine r_iload_n x_393_34 rfl ?_
    refine r_iconst x_393_35 ?_
    refine r_invV x_393_36 (z := 392) (ns := 0) (by decide +kernel) (as := [g_n v2, g_n 1, g_n v2, g_n 1]) (r := []) rfl rfl rfl hO1 rfl rfl ?_
    refine r_callV h fun M2 hx3 hok4 h => ?_
    replace h := h hx3 hok4
    replace hO1 := hO1.up hx3
    exact r_retV x_393_39 rfl h
  · replace h := h.1 hc
    refine r_aload_n x_393_10 rfl ?_
    refine r_aload_n x_393_11 rfl ?_
    obtain ⟨b5, hb6, h⟩ := h
    refine r_getR x_393_12 rfl (ci := 12) (k := 57) (ns := 0) (by decide +kernel) (by decide) rfl (kz := 57) rfl hO1 hb6 ?_
    refine r_iload_n x_393_15 rfl ?_
    obtain ⟨n7, hA8, h⟩ := h
    obtain ⟨h9, h⟩ := h
    refine r_iald x_393_16 hA8 hv3 h9.1 h9.2 ?_
    refine r_iload_n x_393_17 rfl ?_
    refine r_invV x_393_18 (z := 271) (ns := 0) (by decide +kernel) (as := [g_n (g_i M b5 v3), g_n v2]) (r := []) rfl rfl rfl hO1 rfl rfl ?_
    refine r_callI h fun r13 M10 hx11 hok12 hr14 h => ?_
    replace h := h hx11 hok12 hr14
    replace hO1 := hO1.up hx11
    replace hA8 := hA8.up hx11
    refine r_if_eq x_393_21 (t := 25) (by decide +kernel) hr14 (fun hc => ?_) (fun hc => ?_)
    · replace h := h.1 hc
      obtain ⟨h15, h⟩ := h
      refine r_iinc x_393_25 (by decide +kernel) rfl rfl (lv1 := [(0, .ref a0), (1, g_n v1), (2, g_n v2), (3, g_n (v3 + 1))]) rfl ?_
      refine r_goto x_393_28 (t := 2) (by decide +kernel) ?_
      exact h
    · replace h := h.2 hc
      exact r_retV x_393_24 rfl h
theorem m_X12_boundsOf {d : Nat} {M : g_M} {Q : Int → g_M → Prop} {a0 : Nat} {v1 : Int} (hv1 : g_InR v1) {v2 : Int} (hv2 : g_InR v2) (h : g_ok M → g_O M a0 12 ∧ ((v2 = 0 → g_Call d 236 [.ref a0, g_n v1, .ref (4 * 97 + 1)] M (g_qI fun r5 M2 => g_ext M M2 → g_ok M2 → g_InR r5 → ((r5 = 0 → g_Run d 394 25 [(0, .ref a0), (1, g_n v1), (2, g_n v2), (3, g_n (g_i M a0 61))] [g_n 0] M2 (g_qI Q)) ∧ (¬ r5 = 0 → g_Run d 394 25 [(0, .ref a0), (1, g_n v1), (2, g_n v2), (3, g_n (g_i M a0 61))] [g_n 1] M2 (g_qI Q))))) ∧ (¬ v2 = 0 → g_Run d 394 25 [(0, .ref a0), (1, g_n v1), (2, g_n v2), (3, g_n (g_i M a0 61))] [g_n 1] M (g_qI Q)))) : g_Call (d + 1) 394 [.ref a0, g_n v1, g_n v2] M (g_qI Q) := by
  refine g_Call.ok fun hok0 => ?_
  replace h := h hok0
  refine r_body rfl (lv := [(0, .ref a0), (1, g_n v1), (2, g_n v2)]) rfl ?_
  refine g_Run.ok fun hok => ?_
  refine r_aload_n x_394_0 rfl ?_
  obtain ⟨hO1, h⟩ := h
  refine r_getI x_394_1 rfl (ci := 12) (k := 61) (ns := 0) (by decide +kernel) (by decide) rfl (kz := 61) rfl hO1 ?_
  refine r_istore_n x_394_4 (by decide +kernel) rfl (lv1 := [(0, .ref a0), (1, g_n v1), (2, g_n v2), (3, g_n (g_i M a0 61))]) rfl ?_
  refine r_iload_n x_394_5 rfl ?_
  refine r_if_ne x_394_6 (t := 20) (by decide +kernel) hv2 (fun hc => ?_) (fun hc => ?_)
  · replace h := h.2 hc
    refine r_iconst x_394_20 ?_
    refine r_goto x_394_21 (t := 25) (by decide +kernel) ?_
    exact h
  · replace h := h.1 hc
    refine r_aload_n x_394_9 rfl ?_
    refine r_iload_n x_394_10 rfl ?_
    refine r_ldcw x_394_11 (v := .ref (4 * 97 + 1)) rfl ?_
    refine r_invV x_394_14 (z := 236) (ns := 0) (by decide +kernel) (as := [g_n v1, .ref (4 * 97 + 1)]) (r := []) rfl rfl rfl hO1 rfl rfl ?_
    refine r_callI h fun r5 M2 hx3 hok4 hr6 h => ?_
    replace h := h hx3 hok4 hr6
    replace hO1 := hO1.up hx3
    refine r_if_eq x_394_17 (t := 24) (by decide +kernel) hr6 (fun hc => ?_) (fun hc => ?_)
    · replace h := h.1 hc
      refine r_iconst x_394_24 ?_
      exact h
    · replace h := h.2 hc
      refine r_iconst x_394_20 ?_
      refine r_goto x_394_21 (t := 25) (by decide +kernel) ?_
      exact h
theorem s_X12_boundsOf_25 {d : Nat} {M : g_M} {Q : Int → g_M → Prop} {a0 : Nat} {v1 : Int} (hv1 : g_InR v1) {v2 : Int} (hv2 : g_InR v2) {v3 : Int} (hv3 : g_InR v3) {w0 : Int} (hw0 : g_InR w0) (h : g_ok M → ((w0 = 0 → g_O M a0 12 ∧ g_Call d 236 [.ref a0, g_n v1, .ref (4 * 99 + 1)] M (g_qI fun r5 M2 => g_ext M M2 → g_ok M2 → g_InR r5 → ((r5 = 0 → g_Run d 394 135 [(0, .ref a0), (1, g_n v1), (2, g_n v2), (3, g_n v3), (4, g_n w0)] [] M2 (g_qI Q)) ∧ (¬ r5 = 0 → g_Call d 233 [.ref a0, g_n v1] M2 (g_qI fun r10 M7 => g_ext M2 M7 → g_ok M7 → g_InR r10 → g_Call d 237 [g_n r10] M7 (g_qI fun r15 M12 => g_ext M7 M12 → g_ok M12 → g_InR r15 → g_Run d 394 53 [(0, .ref a0), (1, g_n v1), (2, g_n v2), (3, g_n v3), (4, g_n w0), (5, g_n r15)] [] M12 (g_qI Q))))))) ∧ (¬ w0 = 0 → g_Run d 394 135 [(0, .ref a0), (1, g_n v1), (2, g_n v2), (3, g_n v3), (4, g_n w0)] [] M (g_qI Q)))) : g_Run d 394 25 [(0, .ref a0), (1, g_n v1), (2, g_n v2), (3, g_n v3)] [g_n w0] M (g_qI Q) := by
  refine g_Run.ok fun hok => ?_
  replace h := h hok
  refine r_istore x_394_25 (by decide +kernel) rfl (lv1 := [(0, .ref a0), (1, g_n v1), (2, g_n v2), (3, g_n v3), (4, g_n w0)]) rfl ?_
  refine r_iload x_394_27 rfl ?_
  refine r_if_ne x_394_29 (t := 135) (by decide +kernel) hw0 (fun hc => ?_) (fun hc => ?_)
  · replace h := h.2 hc
    exact h
  · replace h := h.1 hc
    refine r_aload_n x_394_32 rfl ?_
    refine r_iload_n x_394_33 rfl ?_
    refine r_ldcw x_394_34 (v := .ref (4 * 99 + 1)) rfl ?_
    obtain ⟨hO1, h⟩ := h
    refine r_invV x_394_37 (z := 236) (ns := 0) (by decide +kernel) (as := [g_n v1, .ref (4 * 99 + 1)]) (r := []) rfl rfl rfl hO1 rfl rfl ?_
    refine r_callI h fun r5 M2 hx3 hok4 hr6 h => ?_
    replace h := h hx3 hok4 hr6
    replace hO1 := hO1.up hx3
    refine r_if_eq x_394_40 (t := 135) (by decide +kernel) hr6 (fun hc => ?_) (fun hc => ?_)
    · replace h := h.1 hc
      exact h
    · replace h := h.2 hc
      refine r_aload_n x_394_43 rfl ?_
      refine r_iload_n x_394_44 rfl ?_
      refine r_invV x_394_45 (z := 233) (ns := 0) (by decide +kernel) (as := [g_n v1]) (r := []) rfl rfl rfl hO1 rfl rfl ?_
      refine r_callI h fun r10 M7 hx8 hok9 hr11 h => ?_
      replace h := h hx8 hok9 hr11
      replace hO1 := hO1.up hx8
      refine r_invS x_394_48 (z := 237) (ns := 0) (by decide +kernel) (as := [g_n r10]) (r := []) rfl rfl rfl ?_
      refine r_callI h fun r15 M12 hx13 hok14 hr16 h => ?_
      replace h := h hx13 hok14 hr16
      replace hO1 := hO1.up hx13
      refine r_istore x_394_51 (by decide +kernel) rfl (lv1 := [(0, .ref a0), (1, g_n v1), (2, g_n v2), (3, g_n v3), (4, g_n w0), (5, g_n r15)]) rfl ?_
      exact h
theorem s_X12_boundsOf_53 {d : Nat} {M : g_M} {Q : Int → g_M → Prop} {a0 : Nat} {v1 : Int} (hv1 : g_InR v1) {v2 : Int} (hv2 : g_InR v2) {v3 : Int} (hv3 : g_InR v3) {v4 : Int} (hv4 : g_InR v4) {v5 : Int} (hv5 : g_InR v5) (h : g_ok M → g_O M a0 12 ∧ g_Call d 233 [.ref a0, g_n v1] M (g_qI fun r5 M2 => g_ext M M2 → g_ok M2 → g_InR r5 → g_Call d 238 [.ref a0, g_n r5] M2 (g_qI fun r10 M7 => g_ext M2 M7 → g_ok M7 → g_InR r10 → ((v5 < r10 → ∃ b22, g_r M7 a0 0 = some b22 ∧ ∃ n24, g_A M7 b22 0 n24 ∧ ((0 : Int) ≤ v5 ∧ (v5 : Int) < n24) ∧ ((g_i M7 b22 v5 = 4 → Q 0 M7) ∧ (¬ g_i M7 b22 v5 = 4 → g_Call d 235 [.ref a0, g_n v5] M7 (g_qI fun r30 M27 => g_ext M7 M27 → g_ok M27 → g_InR r30 → g_Run d 394 53 [(0, .ref a0), (1, g_n v1), (2, g_n v2), (3, g_n v3), (4, g_n v4), (5, g_n r30)] [] M27 (g_qI Q))))) ∧ (¬ v5 < r10 → g_Call d 233 [.ref a0, g_n v1] M7 (g_qI fun r15 M12 => g_ext M7 M12 → g_ok M12 → g_InR r15 → g_Call d 237 [g_n r15] M12 (g_qI fun r20 M17 => g_ext M12 M17 → g_ok M17 → g_InR r20 → g_Run d 394 101 [(0, .ref a0), (1, g_n v1), (2, g_n v2), (3, g_n v3), (4, g_n v4), (5, g_n r20)] [] M17 (g_qI Q)))))))) : g_Run d 394 53 [(0, .ref a0), (1, g_n v1), (2, g_n v2), (3, g_n v3), (4, g_n v4), (5, g_n v5)] [] M (g_qI Q) := by
  refine g_Run.ok fun hok => ?_
  replace h := h hok
  refine r_iload x_394_53 rfl ?_
  refine r_aload_n x_394_55 rfl ?_
  refine r_aload_n x_394_56 rfl ?_
  refine r_iload_n x_394_57 rfl ?_
  obtain ⟨hO1, h⟩ := h
  refine r_invV x_394_58 (z := 233) (ns := 0) (by decide +kernel) (as := [g_n v1]) (r := [.ref a0, g_n v5]) rfl rfl rfl hO1 rfl rfl ?_
  refine r_callI h fun r5 M2 hx3 hok4 hr6 h => ?_
  replace h := h hx3 hok4 hr6
  replace hO1 := hO1.up hx3
  refine r_invV x_394_61 (z := 238) (ns := 0) (by decide +kernel) (as := [g_n r5]) (r := [g_n v5]) rfl rfl rfl hO1 rfl rfl ?_
  refine r_callI h fun r10 M7 hx8 hok9 hr11 h => ?_
  replace h := h hx8 hok9 hr11
  replace hO1 := hO1.up hx8
  refine r_ic_ge x_394_64 (t := 91) (by decide +kernel) hv5 hr11 (fun hc => ?_) (fun hc => ?_)
  · replace h := h.2 hc
    refine r_aload_n x_394_91 rfl ?_
    refine r_iload_n x_394_92 rfl ?_
    refine r_invV x_394_93 (z := 233) (ns := 0) (by decide +kernel) (as := [g_n v1]) (r := []) rfl rfl rfl hO1 rfl rfl ?_
    refine r_callI h fun r15 M12 hx13 hok14 hr16 h => ?_
    replace h := h hx13 hok14 hr16
    replace hO1 := hO1.up hx13
    refine r_invS x_394_96 (z := 237) (ns := 0) (by decide +kernel) (as := [g_n r15]) (r := []) rfl rfl rfl ?_
    refine r_callI h fun r20 M17 hx18 hok19 hr21 h => ?_
    replace h := h hx18 hok19 hr21
    replace hO1 := hO1.up hx18
    refine r_istore x_394_99 (by decide +kernel) rfl (lv1 := [(0, .ref a0), (1, g_n v1), (2, g_n v2), (3, g_n v3), (4, g_n v4), (5, g_n r20)]) rfl ?_
    exact h
  · replace h := h.1 hc
    refine r_aload_n x_394_67 rfl ?_
    obtain ⟨b22, hb23, h⟩ := h
    refine r_getR x_394_68 rfl (ci := 12) (k := 0) (ns := 0) (by decide +kernel) (by decide) rfl (kz := 0) rfl hO1 hb23 ?_
    refine r_iload x_394_71 rfl ?_
    obtain ⟨n24, hA25, h⟩ := h
    obtain ⟨h26, h⟩ := h
    refine r_bald x_394_73 (Or.inl rfl) hA25 hv5 h26.1 h26.2 ?_
    refine r_iconst x_394_74 ?_
    refine r_ic_ne x_394_75 (t := 80) (by decide +kernel) (hok9.1 _ _) (g_Rk rfl) (fun hc => ?_) (fun hc => ?_)
    · replace h := h.2 hc
      refine r_aload_n x_394_80 rfl ?_
      refine r_iload x_394_81 rfl ?_
      refine r_invV x_394_83 (z := 235) (ns := 0) (by decide +kernel) (as := [g_n v5]) (r := []) rfl rfl rfl hO1 rfl rfl ?_
      refine r_callI h fun r30 M27 hx28 hok29 hr31 h => ?_
      replace h := h hx28 hok29 hr31
      replace hO1 := hO1.up hx28
      replace hA25 := hA25.up hx28
      refine r_istore x_394_86 (by decide +kernel) rfl (lv1 := [(0, .ref a0), (1, g_n v1), (2, g_n v2), (3, g_n v3), (4, g_n v4), (5, g_n r30)]) rfl ?_
      refine r_goto x_394_88 (t := 53) (by decide +kernel) ?_
      exact h
    · replace h := h.1 hc
      refine r_iconst x_394_78 ?_
      exact r_retZ x_394_79 rfl (Or.inl rfl) h
theorem s_X12_boundsOf_101 {d : Nat} {M : g_M} {Q : Int → g_M → Prop} {a0 : Nat} {v1 : Int} (hv1 : g_InR v1) {v2 : Int} (hv2 : g_InR v2) {v3 : Int} (hv3 : g_InR v3) {v4 : Int} (hv4 : g_InR v4) {v5 : Int} (hv5 : g_InR v5) (h : g_ok M → g_O M a0 12 ∧ g_Call d 233 [.ref a0, g_n v1] M (g_qI fun r5 M2 => g_ext M M2 → g_ok M2 → g_InR r5 → g_Call d 238 [.ref a0, g_n r5] M2 (g_qI fun r10 M7 => g_ext M2 M7 → g_ok M7 → g_InR r10 → ((v5 < r10 → g_Call d 393 [.ref a0, g_n v3, g_n v5] M7 (g_qV fun M12 => g_ext M7 M12 → g_ok M12 → g_Call d 235 [.ref a0, g_n v5] M12 (g_qI fun r18 M15 => g_ext M12 M15 → g_ok M15 → g_InR r18 → g_Run d 394 101 [(0, .ref a0), (1, g_n v1), (2, g_n v2), (3, g_n v3), (4, g_n v4), (5, g_n r18)] [] M15 (g_qI Q)))) ∧ (¬ v5 < r10 → Q 1 M7))))) : g_Run d 394 101 [(0, .ref a0), (1, g_n v1), (2, g_n v2), (3, g_n v3), (4, g_n v4), (5, g_n v5)] [] M (g_qI Q) := by
  refine g_Run.ok fun hok => ?_
  replace h := h hok
  refine r_iload x_394_101 rfl ?_
  refine r_aload_n x_394_103 rfl ?_
  refine r_aload_n x_394_104 rfl ?_
  refine r_iload_n x_394_105 rfl ?_
  obtain ⟨hO1, h⟩ := h
  refine r_invV x_394_106 (z := 233) (ns := 0) (by decide +kernel) (as := [g_n v1]) (r := [.ref a0, g_n v5]) rfl rfl rfl hO1 rfl rfl ?_
  refine r_callI h fun r5 M2 hx3 hok4 hr6 h => ?_
  replace h := h hx3 hok4 hr6
  replace hO1 := hO1.up hx3
  refine r_invV x_394_109 (z := 238) (ns := 0) (by decide +kernel) (as := [g_n r5]) (r := [g_n v5]) rfl rfl rfl hO1 rfl rfl ?_
  refine r_callI h fun r10 M7 hx8 hok9 hr11 h => ?_
  replace h := h hx8 hok9 hr11
  replace hO1 := hO1.up hx8
  refine r_ic_ge x_394_112 (t := 133) (by decide +kernel) hv5 hr11 (fun hc => ?_) (fun hc => ?_)
  · replace h := h.2 hc
    refine r_iconst x_394_133 ?_
    exact r_retZ x_394_134 rfl (Or.inr rfl) h
  · replace h := h.1 hc
    refine r_aload_n x_394_115 rfl ?_
    refine r_iload_n x_394_116 rfl ?_
    refine r_iload x_394_117 rfl ?_
    refine r_invV x_394_119 (z := 393) (ns := 0) (by decide +kernel) (as := [g_n v3, g_n v5]) (r := []) rfl rfl rfl hO1 rfl rfl ?_
    refine r_callV h fun M12 hx13 hok14 h => ?_
    replace h := h hx13 hok14
    replace hO1 := hO1.up hx13
    refine r_aload_n x_394_122 rfl ?_
    refine r_iload x_394_123 rfl ?_
    refine r_invV x_394_125 (z := 235) (ns := 0) (by decide +kernel) (as := [g_n v5]) (r := []) rfl rfl rfl hO1 rfl rfl ?_
    refine r_callI h fun r18 M15 hx16 hok17 hr19 h => ?_
    replace h := h hx16 hok17 hr19
    replace hO1 := hO1.up hx16
    refine r_istore x_394_128 (by decide +kernel) rfl (lv1 := [(0, .ref a0), (1, g_n v1), (2, g_n v2), (3, g_n v3), (4, g_n v4), (5, g_n r18)]) rfl ?_
    refine r_goto x_394_130 (t := 101) (by decide +kernel) ?_
    exact h
theorem s_X12_boundsOf_135 {d : Nat} {M : g_M} {Q : Int → g_M → Prop} {a0 : Nat} {v1 : Int} (hv1 : g_InR v1) {v2 : Int} (hv2 : g_InR v2) {v3 : Int} (hv3 : g_InR v3) {v4 : Int} (hv4 : g_InR v4) (h : g_ok M → g_O M a0 12 ∧ g_Call d 236 [.ref a0, g_n v1, .ref (4 * 101 + 1)] M (g_qI fun r5 M2 => g_ext M M2 → g_ok M2 → g_InR r5 → ((r5 = 0 → g_Call d 236 [.ref a0, g_n v1, .ref (4 * 102 + 1)] M2 (g_qI fun r10 M7 => g_ext M2 M7 → g_ok M7 → g_InR r10 → ((r10 = 0 → g_Run d 394 162 [(0, .ref a0), (1, g_n v1), (2, g_n v2), (3, g_n v3), (4, g_n v4)] [g_n 0] M7 (g_qI Q)) ∧ (¬ r10 = 0 → g_Run d 394 162 [(0, .ref a0), (1, g_n v1), (2, g_n v2), (3, g_n v3), (4, g_n v4)] [g_n 1] M7 (g_qI Q))))) ∧ (¬ r5 = 0 → g_Run d 394 162 [(0, .ref a0), (1, g_n v1), (2, g_n v2), (3, g_n v3), (4, g_n v4)] [g_n 1] M2 (g_qI Q))))) : g_Run d 394 135 [(0, .ref a0), (1, g_n v1), (2, g_n v2), (3, g_n v3), (4, g_n v4)] [] M (g_qI Q) := by
  refine g_Run.ok fun hok => ?_
  replace h := h hok
  refine r_aload_n x_394_135 rfl ?_
  refine r_iload_n x_394_136 rfl ?_
  refine r_ldcw x_394_137 (v := .ref (4 * 101 + 1)) rfl ?_
  obtain ⟨hO1, h⟩ := h
  refine r_invV x_394_140 (z := 236) (ns := 0) (by decide +kernel) (as := [g_n v1, .ref (4 * 101 + 1)]) (r := []) rfl rfl rfl hO1 rfl rfl ?_
  refine r_callI h fun r5 M2 hx3 hok4 hr6 h => ?_
  replace h := h hx3 hok4 hr6
  replace hO1 := hO1.up hx3
  refine r_if_ne x_394_143 (t := 157) (by decide +kernel) hr6 (fun hc => ?_) (fun hc => ?_)
  · replace h := h.2 hc
    refine r_iconst x_394_157 ?_
    refine r_goto x_394_158 (t := 162) (by decide +kernel) ?_
    exact h
  · replace h := h.1 hc
    refine r_aload_n x_394_146 rfl ?_
    refine r_iload_n x_394_147 rfl ?_
    refine r_ldcw x_394_148 (v := .ref (4 * 102 + 1)) rfl ?_
    refine r_invV x_394_151 (z := 236) (ns := 0) (by decide +kernel) (as := [g_n v1, .ref (4 * 102 + 1)]) (r := []) rfl rfl rfl hO1 rfl rfl ?_
    refine r_callI h fun r10 M7 hx8 hok9 hr11 h => ?_
    replace h := h hx8 hok9 hr11
    replace hO1 := hO1.up hx8
    refine r_if_eq x_394_154 (t := 161) (by decide +kernel) hr11 (fun hc => ?_) (fun hc => ?_)
    · replace h := h.1 hc
      refine r_iconst x_394_161 ?_
      exact h
    · replace h := h.2 hc
      refine r_iconst x_394_157 ?_
      refine r_goto x_394_158 (t := 162) (by decide +kernel) ?_
      exact h
theorem s_X12_boundsOf_162 {d : Nat} {M : g_M} {Q : Int → g_M → Prop} {a0 : Nat} {v1 : Int} (hv1 : g_InR v1) {v2 : Int} (hv2 : g_InR v2) {v3 : Int} (hv3 : g_InR v3) {v4 : Int} (hv4 : g_InR v4) {w0 : Int} (hw0 : g_InR w0) (h : g_ok M → g_O M a0 12 ∧ g_Call d 236 [.ref a0, g_n v1, .ref (4 * 103 + 1)] M (g_qI fun r5 M2 => g_ext M M2 → g_ok M2 → g_InR r5 → ((r5 = 0 → g_Call d 236 [.ref a0, g_n v1, .ref (4 * 104 + 1)] M2 (g_qI fun r10 M7 => g_ext M2 M7 → g_ok M7 → g_InR r10 → ((r10 = 0 → ((v4 = 0 → ((w0 = 0 → Q 0 M7) ∧ (¬ w0 = 0 → g_Run d 394 208 [(0, .ref a0), (1, g_n v1), (2, g_n v2), (3, g_n v3), (4, g_n v4), (5, g_n w0), (6, g_n 0)] [] M7 (g_qI Q)))) ∧ (¬ v4 = 0 → g_Run d 394 208 [(0, .ref a0), (1, g_n v1), (2, g_n v2), (3, g_n v3), (4, g_n v4), (5, g_n w0), (6, g_n 0)] [] M7 (g_qI Q)))) ∧ (¬ r10 = 0 → g_Run d 394 186 [(0, .ref a0), (1, g_n v1), (2, g_n v2), (3, g_n v3), (4, g_n v4), (5, g_n w0)] [] M7 (g_qI Q))))) ∧ (¬ r5 = 0 → g_Run d 394 186 [(0, .ref a0), (1, g_n v1), (2, g_n v2), (3, g_n v3), (4, g_n v4), (5, g_n w0)] [] M2 (g_qI Q))))) : g_Run d 394 162 [(0, .ref a0), (1, g_n v1), (2, g_n v2), (3, g_n v3), (4, g_n v4)] [g_n w0] M (g_qI Q) := by
  refine g_Run.ok fun hok => ?_
  replace h := h hok
  refine r_istore x_394_162 (by decide +kernel) rfl (lv1 := [(0, .ref a0), (1, g_n v1), (2, g_n v2), (3, g_n v3), (4, g_n v4), (5, g_n w0)]) rfl ?_
  refine r_aload_n x_394_164 rfl ?_
  refine r_iload_n x_394_165 rfl ?_
  refine r_ldcw x_394_166 (v := .ref (4 * 103 + 1)) rfl ?_
  obtain ⟨hO1, h⟩ := h
  refine r_invV x_394_169 (z := 236) (ns := 0) (by decide +kernel) (as := [g_n v1, .ref (4 * 103 + 1)]) (r := []) rfl rfl rfl hO1 rfl rfl ?_
  refine r_callI h fun r5 M2 hx3 hok4 hr6 h => ?_
  replace h := h hx3 hok4 hr6
  replace hO1 := hO1.up hx3
  refine r_if_ne x_394_172 (t := 186) (by decide +kernel) hr6 (fun hc => ?_) (fun hc => ?_)
  · replace h := h.2 hc
    exact h
  · replace h := h.1 hc
    refine r_aload_n x_394_175 rfl ?_
    refine r_iload_n x_394_176 rfl ?_
    refine r_ldcw x_394_177 (v := .ref (4 * 104 + 1)) rfl ?_
    refine r_invV x_394_180 (z := 236) (ns := 0) (by decide +kernel) (as := [g_n v1, .ref (4 * 104 + 1)]) (r := []) rfl rfl rfl hO1 rfl rfl ?_
    refine r_callI h fun r10 M7 hx8 hok9 hr11 h => ?_
    replace h := h hx8 hok9 hr11
    replace hO1 := hO1.up hx8
    refine r_if_eq x_394_183 (t := 190) (by decide +kernel) hr11 (fun hc => ?_) (fun hc => ?_)
    · replace h := h.1 hc
      refine r_iconst x_394_190 ?_
      refine r_istore x_394_191 (by decide +kernel) rfl (lv1 := [(0, .ref a0), (1, g_n v1), (2, g_n v2), (3, g_n v3), (4, g_n v4), (5, g_n w0), (6, g_n 0)]) rfl ?_
      refine r_iload x_394_193 rfl ?_
      refine r_if_ne x_394_195 (t := 208) (by decide +kernel) hv4 (fun hc => ?_) (fun hc => ?_)
      · replace h := h.2 hc
        exact h
      · replace h := h.1 hc
        refine r_iload x_394_198 rfl ?_
        refine r_if_ne x_394_200 (t := 208) (by decide +kernel) hw0 (fun hc => ?_) (fun hc => ?_)
        · replace h := h.2 hc
          exact h
        · replace h := h.1 hc
          refine r_iload x_394_203 rfl ?_
          refine r_if_eq x_394_205 (t := 218) (by decide +kernel) (g_Rk rfl) (fun hc => ?_) (fun hc => ?_)
          · skip
            refine r_iconst x_394_218 ?_
            exact r_retZ x_394_219 rfl (Or.inl rfl) h
          · exfalso; omega
    · replace h := h.2 hc
      exact h
theorem s_X12_boundsOf_186 {d : Nat} {M : g_M} {Q : Int → g_M → Prop} {a0 : Nat} {v1 : Int} (hv1 : g_InR v1) {v2 : Int} (hv2 : g_InR v2) {v3 : Int} (hv3 : g_InR v3) {v4 : Int} (hv4 : g_InR v4) {v5 : Int} (hv5 : g_InR v5) (h : g_ok M → ((v4 = 0 → ((v5 = 0 → g_Run d 394 208 [(0, .ref a0), (1, g_n v1), (2, g_n v2), (3, g_n v3), (4, g_n v4), (5, g_n v5), (6, g_n 1)] [] M (g_qI Q)) ∧ (¬ v5 = 0 → g_Run d 394 208 [(0, .ref a0), (1, g_n v1), (2, g_n v2), (3, g_n v3), (4, g_n v4), (5, g_n v5), (6, g_n 1)] [] M (g_qI Q)))) ∧ (¬ v4 = 0 → g_Run d 394 208 [(0, .ref a0), (1, g_n v1), (2, g_n v2), (3, g_n v3), (4, g_n v4), (5, g_n v5), (6, g_n 1)] [] M (g_qI Q)))) : g_Run d 394 186 [(0, .ref a0), (1, g_n v1), (2, g_n v2), (3, g_n v3), (4, g_n v4), (5, g_n v5)] [] M (g_qI Q) := by
  refine g_Run.ok fun hok => ?_
  replace h := h hok
  refine r_iconst x_394_186 ?_
  refine r_goto x_394_187 (t := 191) (by decide +kernel) ?_
  refine r_istore x_394_191 (by decide +kernel) rfl (lv1 := [(0, .ref a0), (1, g_n v1), (2, g_n v2), (3, g_n v3), (4, g_n v4), (5, g_n v5), (6, g_n 1)]) rfl ?_
  refine r_iload x_394_193 rfl ?_
  refine r_if_ne x_394_195 (t := 208) (by decide +kernel) hv4 (fun hc => ?_) (fun hc => ?_)
  · replace h := h.2 hc
    exact h
  · replace h := h.1 hc
    refine r_iload x_394_198 rfl ?_
    refine r_if_ne x_394_200 (t := 208) (by decide +kernel) hv5 (fun hc => ?_) (fun hc => ?_)
    · replace h := h.2 hc
      exact h
    · replace h := h.1 hc
      refine r_iload x_394_203 rfl ?_
      refine r_if_eq x_394_205 (t := 218) (by decide +kernel) (g_Rk rfl) (fun hc => ?_) (fun hc => ?_)
      · exfalso; omega
      · skip
        exact h
theorem s_X12_boundsOf_208 {d : Nat} {M : g_M} {Q : Int → g_M → Prop} {a0 : Nat} {v1 : Int} (hv1 : g_InR v1) {v2 : Int} (hv2 : g_InR v2) {v3 : Int} (hv3 : g_InR v3) {v4 : Int} (hv4 : g_InR v4) {v5 : Int} (hv5 : g_InR v5) {v6 : Int} (hv6 : g_InR v6) (h : g_ok M → g_O M a0 12 ∧ ∃ b2, g_r M a0 0 = some b2 ∧ ∃ n4, g_A M b2 0 n4 ∧ ((0 : Int) ≤ v1 ∧ (v1 : Int) < n4) ∧ ((g_i M b2 v1 = 4 → Q 0 M) ∧ (¬ g_i M b2 v1 = 4 → g_Call d 236 [.ref a0, g_n v1, .ref (4 * 102 + 1)] M (g_qI fun r10 M7 => g_ext M M7 → g_ok M7 → g_InR r10 → ((r10 = 0 → g_Call d 236 [.ref a0, g_n v1, .ref (4 * 104 + 1)] M7 (g_qI fun r15 M12 => g_ext M7 M12 → g_ok M12 → g_InR r15 → ((r15 = 0 → g_Run d 394 247 [(0, .ref a0), (1, g_n v1), (2, g_n v2), (3, g_n v3), (4, g_n v4), (5, g_n v5), (6, g_n v6)] [g_n 0] M12 (g_qI Q)) ∧ (¬ r15 = 0 → g_Run d 394 247 [(0, .ref a0), (1, g_n v1), (2, g_n v2), (3, g_n v3), (4, g_n v4), (5, g_n v5), (6, g_n v6)] [g_n 1] M12 (g_qI Q))))) ∧ (¬ r10 = 0 → g_Run d 394 247 [(0, .ref a0), (1, g_n v1), (2, g_n v2), (3, g_n v3), (4, g_n v4), (5, g_n v5), (6, g_n v6)] [g_n 1] M7 (g_qI Q))))))) : g_Run d 394 208 [(0, .ref a0), (1, g_n v1), (2, g_n v2), (3, g_n v3), (4, g_n v4), (5, g_n v5), (6, g_n v6)] [] M (g_qI Q) := by
  refine g_Run.ok fun hok => ?_
  replace h := h hok
  refine r_aload_n x_394_208 rfl ?_
  obtain ⟨hO1, h⟩ := h
  obtain ⟨b2, hb3, h⟩ := h
  refine r_getR x_394_209 rfl (ci := 12) (k := 0) (ns := 0) (by decide +kernel) (by decide) rfl (kz := 0) rfl hO1 hb3 ?_
  refine r_iload_n x_394_212 rfl ?_
  obtain ⟨n4, hA5, h⟩ := h
  obtain ⟨h6, h⟩ := h
  refine r_bald x_394_213 (Or.inl rfl) hA5 hv1 h6.1 h6.2 ?_
  refine r_iconst x_394_214 ?_
  refine r_ic_ne x_394_215 (t := 220) (by decide +kernel) (hok.1 _ _) (g_Rk rfl) (fun hc => ?_) (fun hc => ?_)
  · replace h := h.2 hc
    refine r_aload_n x_394_220 rfl ?_
    refine r_iload_n x_394_221 rfl ?_
    refine r_ldcw x_394_222 (v := .ref (4 * 102 + 1)) rfl ?_
    refine r_invV x_394_225 (z := 236) (ns := 0) (by decide +kernel) (as := [g_n v1, .ref (4 * 102 + 1)]) (r := []) rfl rfl rfl hO1 rfl rfl ?_
    refine r_callI h fun r10 M7 hx8 hok9 hr11 h => ?_
    replace h := h hx8 hok9 hr11
    replace hO1 := hO1.up hx8
    replace hA5 := hA5.up hx8
    refine r_if_ne x_394_228 (t := 242) (by decide +kernel) hr11 (fun hc => ?_) (fun hc => ?_)
    · replace h := h.2 hc
      refine r_iconst x_394_242 ?_
      refine r_goto x_394_243 (t := 247) (by decide +kernel) ?_
      exact h
    · replace h := h.1 hc
      refine r_aload_n x_394_231 rfl ?_
      refine r_iload_n x_394_232 rfl ?_
      refine r_ldcw x_394_233 (v := .ref (4 * 104 + 1)) rfl ?_
      refine r_invV x_394_236 (z := 236) (ns := 0) (by decide +kernel) (as := [g_n v1, .ref (4 * 104 + 1)]) (r := []) rfl rfl rfl hO1 rfl rfl ?_
      refine r_callI h fun r15 M12 hx13 hok14 hr16 h => ?_
      replace h := h hx13 hok14 hr16
      replace hO1 := hO1.up hx13
      replace hA5 := hA5.up hx13
      refine r_if_eq x_394_239 (t := 246) (by decide +kernel) hr16 (fun hc => ?_) (fun hc => ?_)
      · replace h := h.1 hc
        refine r_iconst x_394_246 ?_
        exact h
      · replace h := h.2 hc
        refine r_iconst x_394_242 ?_
        refine r_goto x_394_243 (t := 247) (by decide +kernel) ?_
        exact h
  · replace h := h.1 hc
    refine r_iconst x_394_218 ?_
    exact r_retZ x_394_219 rfl (Or.inl rfl) h
theorem s_X12_boundsOf_247 {d : Nat} {M : g_M} {Q : Int → g_M → Prop} {a0 : Nat} {v1 : Int} (hv1 : g_InR v1) {v2 : Int} (hv2 : g_InR v2) {v3 : Int} (hv3 : g_InR v3) {v4 : Int} (hv4 : g_InR v4) {v5 : Int} (hv5 : g_InR v5) {v6 : Int} (hv6 : g_InR v6) {w0 : Int} (hw0 : g_InR w0) (h : g_ok M → g_O M a0 12 ∧ g_Call d 267 [.ref a0, g_n v1] M (g_qI fun r5 M2 => g_ext M M2 → g_ok M2 → g_InR r5 → ((v4 = 0 → ((r5 = 1 → ((w0 = 0 → g_Run d 394 281 [(0, .ref a0), (1, g_n v1), (2, g_n v2), (3, g_n v3), (4, g_n v4), (5, g_n v5), (6, g_n v6), (7, g_n w0), (8, g_n r5)] [] M2 (g_qI Q)) ∧ (¬ w0 = 0 → g_Call d 393 [.ref a0, g_n v3, g_n v1] M2 (g_qV fun M10 => g_ext M2 M10 → g_ok M10 → Q 1 M10)))) ∧ (¬ r5 = 1 → g_Run d 394 281 [(0, .ref a0), (1, g_n v1), (2, g_n v2), (3, g_n v3), (4, g_n v4), (5, g_n v5), (6, g_n v6), (7, g_n w0), (8, g_n r5)] [] M2 (g_qI Q)))) ∧ (¬ v4 = 0 → g_Call d 393 [.ref a0, g_n v3, g_n v1] M2 (g_qV fun M7 => g_ext M2 M7 → g_ok M7 → Q 1 M7))))) : g_Run d 394 247 [(0, .ref a0), (1, g_n v1), (2, g_n v2), (3, g_n v3), (4, g_n v4), (5, g_n v5), (6, g_n v6)] [g_n w0] M (g_qI Q) := by
  refine g_Run.ok fun hok => ?_
  replace h := h hok
  refine r_istore x_394_247 (by decide +kernel) rfl (lv1 := [(0, .ref a0), (1, g_n v1), (2, g_n v2), (3, g_n v3), (4, g_n v4), (5, g_n v5), (6, g_n v6), (7, g_n w0)]) rfl ?_
  refine r_aload_n x_394_249 rfl ?_
  refine r_iload_n x_394_250 rfl ?_
  obtain ⟨hO1, h⟩ := h
  refine r_invV x_394_251 (z := 267) (ns := 0) (by decide +kernel) (as := [g_n v1]) (r := []) rfl rfl rfl hO1 rfl rfl ?_
  refine r_callI h fun r5 M2 hx3 hok4 hr6 h => ?_
  replace h := h hx3 hok4 hr6
  replace hO1 := hO1.up hx3
  refine r_istore x_394_254 (by decide +kernel) rfl (lv1 := [(0, .ref a0), (1, g_n v1), (2, g_n v2), (3, g_n v3), (4, g_n v4), (5, g_n v5), (6, g_n v6), (7, g_n w0), (8, g_n r5)]) rfl ?_
  refine r_iload x_394_256 rfl ?_
  refine r_if_ne x_394_258 (t := 272) (by decide +kernel) hv4 (fun hc => ?_) (fun hc => ?_)
  · replace h := h.2 hc
    refine r_aload_n x_394_272 rfl ?_
    refine r_iload_n x_394_273 rfl ?_
    refine r_iload_n x_394_274 rfl ?_
    refine r_invV x_394_275 (z := 393) (ns := 0) (by decide +kernel) (as := [g_n v3, g_n v1]) (r := []) rfl rfl rfl hO1 rfl rfl ?_
    refine r_callV h fun M7 hx8 hok9 h => ?_
    replace h := h hx8 hok9
    replace hO1 := hO1.up hx8
    refine r_goto x_394_278 (t := 327) (by decide +kernel) ?_
    refine r_iconst x_394_327 ?_
    exact r_retZ x_394_328 rfl (Or.inr rfl) h
  · replace h := h.1 hc
    refine r_iload x_394_261 rfl ?_
    refine r_iconst x_394_263 ?_
    refine r_ic_ne x_394_264 (t := 281) (by decide +kernel) hr6 (g_Rk rfl) (fun hc => ?_) (fun hc => ?_)
    · replace h := h.2 hc
      exact h
    · replace h := h.1 hc
      refine r_iload x_394_267 rfl ?_
      refine r_if_eq x_394_269 (t := 281) (by decide +kernel) hw0 (fun hc => ?_) (fun hc => ?_)
      · replace h := h.1 hc
        exact h
      · replace h := h.2 hc
        refine r_aload_n x_394_272 rfl ?_
        refine r_iload_n x_394_273 rfl ?_
        refine r_iload_n x_394_274 rfl ?_
        refine r_invV x_394_275 (z := 393) (ns := 0) (by decide +kernel) (as := [g_n v3, g_n v1]) (r := []) rfl rfl rfl hO1 rfl rfl ?_
        refine r_callV h fun M10 hx11 hok12 h => ?_
        replace h := h hx11 hok12
        replace hO1 := hO1.up hx11
        refine r_goto x_394_278 (t := 327) (by decide +kernel) ?_
        refine r_iconst x_394_327 ?_
        exact r_retZ x_394_328 rfl (Or.inr rfl) h
theorem s_X12_boundsOf_281 {d : Nat} {M : g_M} {Q : Int → g_M → Prop} {a0 : Nat} {v1 : Int} (hv1 : g_InR v1) {v2 : Int} (hv2 : g_InR v2) {v3 : Int} (hv3 : g_InR v3) {v4 : Int} (hv4 : g_InR v4) {v5 : Int} (hv5 : g_InR v5) {v6 : Int} (hv6 : g_InR v6) {v7 : Int} (hv7 : g_InR v7) {v8 : Int} (hv8 : g_InR v8) (h : g_ok M → ((1 < v8 → ((v5 = 0 → g_Run d 394 308 [(0, .ref a0), (1, g_n v1), (2, g_n v2), (3, g_n v3), (4, g_n v4), (5, g_n v5), (6, g_n v6), (7, g_n v7), (8, g_n v8)] [] M (g_qI Q)) ∧ (¬ v5 = 0 → g_Call d 388 [g_n v8] M (g_qI fun r4 M1 => g_ext M M1 → g_ok M1 → g_InR r4 → g_O M1 a0 12 ∧ g_Call d 392 [.ref a0, g_n r4, g_n 0, g_n v1, g_n v7] M1 (g_qV fun M7 => g_ext M1 M7 → g_ok M7 → Q 1 M7))))) ∧ (¬ 1 < v8 → g_Run d 394 308 [(0, .ref a0), (1, g_n v1), (2, g_n v2), (3, g_n v3), (4, g_n v4), (5, g_n v5), (6, g_n v6), (7, g_n v7), (8, g_n v8)] [] M (g_qI Q)))) : g_Run d 394 281 [(0, .ref a0), (1, g_n v1), (2, g_n v2), (3, g_n v3), (4, g_n v4), (5, g_n v5), (6, g_n v6), (7, g_n v7), (8, g_n v8)] [] M (g_qI Q) := by
  refine g_Run.ok fun hok => ?_
  replace h := h hok
  refine r_iload x_394_281 rfl ?_
  refine r_iconst x_394_283 ?_
  refine r_ic_le x_394_284 (t := 308) (by decide +kernel) hv8 (g_Rk rfl) (fun hc => ?_) (fun hc => ?_)
  · replace h := h.2 hc
    exact h
  · replace h := h.1 hc
    refine r_iload x_394_287 rfl ?_
    refine r_if_eq x_394_289 (t := 308) (by decide +kernel) hv5 (fun hc => ?_) (fun hc => ?_)
    · replace h := h.1 hc
      exact h
    · replace h := h.2 hc
      refine r_aload_n x_394_292 rfl ?_
      refine r_iload x_394_293 rfl ?_
      refine r_invS x_394_295 (z := 388) (ns := 0) (by decide +kernel) (as := [g_n v8]) (r := [.ref a0]) rfl rfl rfl ?_
      refine r_callI h fun r4 M1 hx2 hok3 hr5 h => ?_
      replace h := h hx2 hok3 hr5
      refine r_iconst x_394_298 ?_
      refine r_iload_n x_394_299 rfl ?_
      refine r_iload x_394_300 rfl ?_
      obtain ⟨hO6, h⟩ := h
      refine r_invV x_394_302 (z := 392) (ns := 0) (by decide +kernel) (as := [g_n r4, g_n 0, g_n v1, g_n v7]) (r := []) rfl rfl rfl hO6 rfl rfl ?_
      refine r_callV h fun M7 hx8 hok9 h => ?_
      replace h := h hx8 hok9
      replace hO6 := hO6.up hx8
      refine r_goto x_394_305 (t := 327) (by decide +kernel) ?_
      refine r_iconst x_394_327 ?_
      exact r_retZ x_394_328 rfl (Or.inr rfl) h
theorem s_X12_boundsOf_308 {d : Nat} {M : g_M} {Q : Int → g_M → Prop} {a0 : Nat} {v1 : Int} (hv1 : g_InR v1) {v2 : Int} (hv2 : g_InR v2) {v3 : Int} (hv3 : g_InR v3) {v4 : Int} (hv4 : g_InR v4) {v5 : Int} (hv5 : g_InR v5) {v6 : Int} (hv6 : g_InR v6) {v7 : Int} (hv7 : g_InR v7) {v8 : Int} (hv8 : g_InR v8) (h : g_ok M → ((1 < v8 → g_Call d 389 [g_n v8] M (g_qI fun r4 M1 => g_ext M M1 → g_ok M1 → g_InR r4 → g_O M1 a0 12 ∧ g_Call d 392 [.ref a0, g_n v1, g_n v7, g_n r4, g_n 0] M1 (g_qV fun M7 => g_ext M1 M7 → g_ok M7 → Q 1 M7))) ∧ (¬ 1 < v8 → Q 1 M))) : g_Run d 394 308 [(0, .ref a0), (1, g_n v1), (2, g_n v2), (3, g_n v3), (4, g_n v4), (5, g_n v5), (6, g_n v6), (7, g_n v7), (8, g_n v8)] [] M (g_qI Q) := by
  refine g_Run.ok fun hok => ?_
  replace h := h hok
  refine r_iload x_394_308 rfl ?_
  refine r_iconst x_394_310 ?_
  refine r_ic_le x_394_311 (t := 327) (by decide +kernel) hv8 (g_Rk rfl) (fun hc => ?_) (fun hc => ?_)
  · replace h := h.2 hc
    refine r_iconst x_394_327 ?_
    exact r_retZ x_394_328 rfl (Or.inr rfl) h
  · replace h := h.1 hc
    refine r_aload_n x_394_314 rfl ?_
    refine r_iload_n x_394_315 rfl ?_
    refine r_iload x_394_316 rfl ?_
    refine r_iload x_394_318 rfl ?_
    refine r_invS x_394_320 (z := 389) (ns := 0) (by decide +kernel) (as := [g_n v8]) (r := [g_n v7, g_n v1, .ref a0]) rfl rfl rfl ?_
    refine r_callI h fun r4 M1 hx2 hok3 hr5 h => ?_
    replace h := h hx2 hok3 hr5
    refine r_iconst x_394_323 ?_
    obtain ⟨hO6, h⟩ := h
    refine r_invV x_394_324 (z := 392) (ns := 0) (by decide +kernel) (as := [g_n v1, g_n v7, g_n r4, g_n 0]) (r := []) rfl rfl rfl hO6 rfl rfl ?_
    refine r_callV h fun M7 hx8 hok9 h => ?_
    replace h := h hx8 hok9
    replace hO6 := hO6.up hx8
    refine r_iconst x_394_327 ?_
    exact r_retZ x_394_328 rfl (Or.inr rfl) h
theorem m_X12_boundsOfAny {d : Nat} {M : g_M} {Q : Int → g_M → Prop} {a0 : Nat} {v1 : Int} (hv1 : g_InR v1) {v2 : Int} (hv2 : g_InR v2) (h : g_ok M → ((v2 = 0 → g_O M a0 12 ∧ g_Call d 236 [.ref a0, g_n v1, .ref (4 * 107 + 1)] M (g_qI fun r11 M8 => g_ext M M8 → g_ok M8 → g_InR r11 → ((r11 = 0 → g_Call d 394 [.ref a0, g_n v1, g_n v2] M8 (g_qI fun r31 M28 => g_ext M8 M28 → g_ok M28 → g_InR r31 → (r31 = 0 ∨ r31 = 1) ∧ Q r31 M28)) ∧ (¬ r11 = 0 → g_Call d 285 [.ref a0, g_n v1] M8 (g_qI fun r16 M13 => g_ext M8 M13 → g_ok M13 → g_InR r16 → ((r16 = 0 → Q 0 M13) ∧ (¬ r16 = 0 → g_Call d 233 [.ref a0, g_n v1] M13 (g_qI fun r21 M18 => g_ext M13 M18 → g_ok M18 → g_InR r21 → g_Call d 237 [g_n r21] M18 (g_qI fun r26 M23 => g_ext M18 M23 → g_ok M23 → g_InR r26 → g_Run d 395 50 [(0, .ref a0), (1, g_n v1), (2, g_n v2), (3, g_n (g_i M13 a0 61)), (4, g_n 0), (5, g_n r26)] [] M23 (g_qI Q)))))))))) ∧ (¬ v2 = 0 → g_O M a0 12 ∧ g_Call d 394 [.ref a0, g_n v1, g_n v2] M (g_qI fun r5 M2 => g_ext M M2 → g_ok M2 → g_InR r5 → (r5 = 0 ∨ r5 = 1) ∧ Q r5 M2)))) : g_Call (d + 1) 395 [.ref a0, g_n v1, g_n v2] M (g_qI Q) := by
  refine g_Call.ok fun hok0 => ?_
  replace h := h hok0
  refine r_body rfl (lv := [(0, .ref a0), (1, g_n v1), (2, g_n v2)]) rfl ?_
  refine g_Run.ok fun hok => ?_
  refine r_iload_n x_395_0 rfl ?_
  refine r_if_ne x_395_1 (t := 15) (by decide +kernel) hv2 (fun hc => ?_) (fun hc => ?_)
  · replace h := h.2 hc
    refine r_aload_n x_395_15 rfl ?_
    refine r_iload_n x_395_16 rfl ?_
    refine r_iload_n x_395_17 rfl ?_
    obtain ⟨hO1, h⟩ := h
    refine r_invV x_395_18 (z := 394) (ns := 0) (by decide +kernel) (as := [g_n v1, g_n v2]) (r := []) rfl rfl rfl hO1 rfl rfl ?_
    refine r_callI h fun r5 M2 hx3 hok4 hr6 h => ?_
    replace h := h hx3 hok4 hr6
    replace hO1 := hO1.up hx3
    obtain ⟨hz, h⟩ := h
    exact r_retZ x_395_21 rfl hz h
  · replace h := h.1 hc
    refine r_aload_n x_395_4 rfl ?_
    refine r_iload_n x_395_5 rfl ?_
    refine r_ldcw x_395_6 (v := .ref (4 * 107 + 1)) rfl ?_
    obtain ⟨hO7, h⟩ := h
    refine r_invV x_395_9 (z := 236) (ns := 0) (by decide +kernel) (as := [g_n v1, .ref (4 * 107 + 1)]) (r := []) rfl rfl rfl hO7 rfl rfl ?_
    refine r_callI h fun r11 M8 hx9 hok10 hr12 h => ?_
    replace h := h hx9 hok10 hr12
    replace hO7 := hO7.up hx9
    refine r_if_ne x_395_12 (t := 22) (by decide +kernel) hr12 (fun hc => ?_) (fun hc => ?_)
    · replace h := h.2 hc
      refine r_aload_n x_395_22 rfl ?_
      refine r_iload_n x_395_23 rfl ?_
      refine r_invV x_395_24 (z := 285) (ns := 0) (by decide +kernel) (as := [g_n v1]) (r := []) rfl rfl rfl hO7 rfl rfl ?_
      refine r_callI h fun r16 M13 hx14 hok15 hr17 h => ?_
      replace h := h hx14 hok15 hr17
      replace hO7 := hO7.up hx14
      refine r_if_ne x_395_27 (t := 32) (by decide +kernel) hr17 (fun hc => ?_) (fun hc => ?_)
      · replace h := h.2 hc
        refine r_aload_n x_395_32 rfl ?_
        refine r_getI x_395_33 rfl (ci := 12) (k := 61) (ns := 0) (by decide +kernel) (by decide) rfl (kz := 61) rfl hO7 ?_
        refine r_istore_n x_395_36 (by decide +kernel) rfl (lv1 := [(0, .ref a0), (1, g_n v1), (2, g_n v2), (3, g_n (g_i M13 a0 61))]) rfl ?_
        refine r_iconst x_395_37 ?_
        refine r_istore x_395_38 (by decide +kernel) rfl (lv1 := [(0, .ref a0), (1, g_n v1), (2, g_n v2), (3, g_n (g_i M13 a0 61)), (4, g_n 0)]) rfl ?_
        refine r_aload_n x_395_40 rfl ?_
        refine r_iload_n x_395_41 rfl ?_
        refine r_invV x_395_42 (z := 233) (ns := 0) (by decide +kernel) (as := [g_n v1]) (r := []) rfl rfl rfl hO7 rfl rfl ?_
        refine r_callI h fun r21 M18 hx19 hok20 hr22 h => ?_
        replace h := h hx19 hok20 hr22
        replace hO7 := hO7.up hx19
        refine r_invS x_395_45 (z := 237) (ns := 0) (by decide +kernel) (as := [g_n r21]) (r := []) rfl rfl rfl ?_
        refine r_callI h fun r26 M23 hx24 hok25 hr27 h => ?_
        replace h := h hx24 hok25 hr27
        replace hO7 := hO7.up hx24
        refine r_istore x_395_48 (by decide +kernel) rfl (lv1 := [(0, .ref a0), (1, g_n v1), (2, g_n v2), (3, g_n (g_i M13 a0 61)), (4, g_n 0), (5, g_n r26)]) rfl ?_
        exact h
      · replace h := h.1 hc
        refine r_iconst x_395_30 ?_
        exact r_retZ x_395_31 rfl (Or.inl rfl) h
    · replace h := h.1 hc
      refine r_aload_n x_395_15 rfl ?_
      refine r_iload_n x_395_16 rfl ?_
      refine r_iload_n x_395_17 rfl ?_
      refine r_invV x_395_18 (z := 394) (ns := 0) (by decide +kernel) (as := [g_n v1, g_n v2]) (r := []) rfl rfl rfl hO7 rfl rfl ?_
      refine r_callI h fun r31 M28 hx29 hok30 hr32 h => ?_
      replace h := h hx29 hok30 hr32
      replace hO7 := hO7.up hx29
      obtain ⟨hz, h⟩ := h
      exact r_retZ x_395_21 rfl hz h
theorem s_X12_boundsOfAny_50 {d : Nat} {M : g_M} {Q : Int → g_M → Prop} {a0 : Nat} {v1 : Int} (hv1 : g_InR v1) {v2 : Int} (hv2 : g_InR v2) {v3 : Int} (hv3 : g_InR v3) {v4 : Int} (hv4 : g_InR v4) {v5 : Int} (hv5 : g_InR v5) (h : g_ok M → g_O M a0 12 ∧ g_Call d 233 [.ref a0, g_n v1] M (g_qI fun r5 M2 => g_ext M M2 → g_ok M2 → g_InR r5 → g_Call d 238 [.ref a0, g_n r5] M2 (g_qI fun r10 M7 => g_ext M2 M7 → g_ok M7 → g_InR r10 → ((v5 < r10 → g_Call d 394 [.ref a0, g_n v5, g_n 0] M7 (g_qI fun r28 M25 => g_ext M7 M25 → g_ok M25 → g_InR r28 → ((r28 = 0 → g_Call d 235 [.ref a0, g_n v5] M25 (g_qI fun r46 M43 => g_ext M25 M43 → g_ok M43 → g_InR r46 → g_Run d 395 50 [(0, .ref a0), (1, g_n v1), (2, g_n v2), (3, g_n v3), (4, g_n v4), (5, g_n r46)] [] M43 (g_qI Q))) ∧ (¬ r28 = 0 → ((v4 = 0 → g_Call d 235 [.ref a0, g_n v5] M25 (g_qI fun r33 M30 => g_ext M25 M30 → g_ok M30 → g_InR r33 → g_Run d 395 50 [(0, .ref a0), (1, g_n v1), (2, g_n v2), (3, g_n v3), (4, g_n 1), (5, g_n r33)] [] M30 (g_qI Q))) ∧ (¬ v4 = 0 → g_Call d 396 [.ref a0, g_n v3, g_n (g_i M7 a0 61)] M25 (g_qV fun M35 => g_ext M25 M35 → g_ok M35 → g_Call d 235 [.ref a0, g_n v5] M35 (g_qI fun r41 M38 => g_ext M35 M38 → g_ok M38 → g_InR r41 → g_Run d 395 50 [(0, .ref a0), (1, g_n v1), (2, g_n v2), (3, g_n v3), (4, g_n 1), (5, g_n r41)] [] M38 (g_qI Q))))))))) ∧ (¬ v5 < r10 → ((v4 = 0 → (v4 = 0 ∨ v4 = 1) ∧ Q v4 M7) ∧ (¬ v4 = 0 → g_Call d 388 [g_n 5] M7 (g_qI fun r15 M12 => g_ext M7 M12 → g_ok M12 → g_InR r15 → g_Call d 389 [g_n 5] M12 (g_qI fun r20 M17 => g_ext M12 M17 → g_ok M17 → g_InR r20 → g_Call d 392 [.ref a0, g_n r15, g_n 0, g_n r20, g_n 0] M17 (g_qV fun M22 => g_ext M17 M22 → g_ok M22 → (v4 = 0 ∨ v4 = 1) ∧ Q v4 M22)))))))))) : g_Run d 395 50 [(0, .ref a0), (1, g_n v1), (2, g_n v2), (3, g_n v3), (4, g_n v4), (5, g_n v5)] [] M (g_qI Q) := by
  refine g_Run.ok fun hok => ?_
  replace h := h hok
  refine r_iload x_395_50 rfl ?_
  refine r_aload_n x_395_52 rfl ?_
  refine r_aload_n x_395_53 rfl ?_
  refine r_iload_n x_395_54 rfl ?_
  obtain ⟨hO1, h⟩ := h
  refine r_invV x_395_55 (z := 233) (ns := 0) (by decide +kernel) (as := [g_n v1]) (r := [.ref a0, g_n v5]) rfl rfl rfl hO1 rfl rfl ?_
  refine r_callI h fun r5 M2 hx3 hok4 hr6 h => ?_
  replace h := h hx3 hok4 hr6
  replace hO1 := hO1.up hx3
  refine r_invV x_395_58 (z := 238) (ns := 0) (by decide +kernel) (as := [g_n r5]) (r := [g_n v5]) rfl rfl rfl hO1 rfl rfl ?_
  refine r_callI h fun r10 M7 hx8 hok9 hr11 h => ?_
  replace h := h hx8 hok9 hr11
  replace hO1 := hO1.up hx8
  refine r_ic_ge x_395_61 (t := 109) (by decide +kernel) hv5 hr11 (fun hc => ?_) (fun hc => ?_)
  · replace h := h.2 hc
    refine r_iload x_395_109 rfl ?_
    refine r_if_eq x_395_111 (t := 128) (by decide +kernel) hv4 (fun hc => ?_) (fun hc => ?_)
    · replace h := h.1 hc
      refine r_iload x_395_128 rfl ?_
      obtain ⟨hz, h⟩ := h
      exact r_retZ x_395_130 rfl hz h
    · replace h := h.2 hc
      refine r_aload_n x_395_114 rfl ?_
      refine r_iconst x_395_115 ?_
      refine r_invS x_395_116 (z := 388) (ns := 0) (by decide +kernel) (as := [g_n 5]) (r := [.ref a0]) rfl rfl rfl ?_
      refine r_callI h fun r15 M12 hx13 hok14 hr16 h => ?_
      replace h := h hx13 hok14 hr16
      replace hO1 := hO1.up hx13
      refine r_iconst x_395_119 ?_
      refine r_iconst x_395_120 ?_
      refine r_invS x_395_121 (z := 389) (ns := 0) (by decide +kernel) (as := [g_n 5]) (r := [g_n 0, g_n r15, .ref a0]) rfl rfl rfl ?_
      refine r_callI h fun r20 M17 hx18 hok19 hr21 h => ?_
      replace h := h hx18 hok19 hr21
      replace hO1 := hO1.up hx18
      refine r_iconst x_395_124 ?_
      refine r_invV x_395_125 (z := 392) (ns := 0) (by decide +kernel) (as := [g_n r15, g_n 0, g_n r20, g_n 0]) (r := []) rfl rfl rfl hO1 rfl rfl ?_
      refine r_callV h fun M22 hx23 hok24 h => ?_
      replace h := h hx23 hok24
      replace hO1 := hO1.up hx23
      refine r_iload x_395_128 rfl ?_
      obtain ⟨hz, h⟩ := h
      exact r_retZ x_395_130 rfl hz h
  · replace h := h.1 hc
    refine r_aload_n x_395_64 rfl ?_
    refine r_getI x_395_65 rfl (ci := 12) (k := 61) (ns := 0) (by decide +kernel) (by decide) rfl (kz := 61) rfl hO1 ?_
    refine r_istore x_395_68 (by decide +kernel) rfl (lv1 := [(0, .ref a0), (1, g_n v1), (2, g_n v2), (3, g_n v3), (4, g_n v4), (5, g_n v5), (6, g_n (g_i M7 a0 61))]) rfl ?_
    refine r_aload_n x_395_70 rfl ?_
    refine r_iload x_395_71 rfl ?_
    refine r_iconst x_395_73 ?_
    refine r_invV x_395_74 (z := 394) (ns := 0) (by decide +kernel) (as := [g_n v5, g_n 0]) (r := []) rfl rfl rfl hO1 rfl rfl ?_
    refine r_callI h fun r28 M25 hx26 hok27 hr29 h => ?_
    replace h := h hx26 hok27 hr29
    replace hO1 := hO1.up hx26
    refine r_if_ne x_395_77 (t := 83) (by decide +kernel) hr29 (fun hc => ?_) (fun hc => ?_)
    · replace h := h.2 hc
      refine r_iload x_395_83 rfl ?_
      refine r_if_eq x_395_85 (t := 95) (by decide +kernel) hv4 (fun hc => ?_) (fun hc => ?_)
      · replace h := h.1 hc
        refine r_iconst x_395_95 ?_
        refine r_istore x_395_96 (by decide +kernel) rfl (lv1 := [(0, .ref a0), (1, g_n v1), (2, g_n v2), (3, g_n v3), (4, g_n 1), (5, g_n v5), (6, g_n (g_i M7 a0 61))]) rfl ?_
        refine r_aload_n x_395_98 rfl ?_
        refine r_iload x_395_99 rfl ?_
        refine r_invV x_395_101 (z := 235) (ns := 0) (by decide +kernel) (as := [g_n v5]) (r := []) rfl rfl rfl hO1 rfl rfl ?_
        refine r_callI h fun r33 M30 hx31 hok32 hr34 h => ?_
        replace h := h hx31 hok32 hr34
        replace hO1 := hO1.up hx31
        refine r_istore x_395_104 (by decide +kernel) rfl (lv1 := [(0, .ref a0), (1, g_n v1), (2, g_n v2), (3, g_n v3), (4, g_n 1), (5, g_n r33), (6, g_n (g_i M7 a0 61))]) rfl ?_
        refine r_goto x_395_106 (t := 50) (by decide +kernel) ?_
        refine g_drop [0, 1, 2, 3, 4, 5] (lv1 := [(0, .ref a0), (1, g_n v1), (2, g_n v2), (3, g_n v3), (4, g_n 1), (5, g_n r33)]) rfl ?_
        exact h
      · replace h := h.2 hc
        refine r_aload_n x_395_88 rfl ?_
        refine r_iload_n x_395_89 rfl ?_
        refine r_iload x_395_90 rfl ?_
        refine r_invV x_395_92 (z := 396) (ns := 0) (by decide +kernel) (as := [g_n v3, g_n (g_i M7 a0 61)]) (r := []) rfl rfl rfl hO1 rfl rfl ?_
        refine r_callV h fun M35 hx36 hok37 h => ?_
        replace h := h hx36 hok37
        replace hO1 := hO1.up hx36
        refine r_iconst x_395_95 ?_
        refine r_istore x_395_96 (by decide +kernel) rfl (lv1 := [(0, .ref a0), (1, g_n v1), (2, g_n v2), (3, g_n v3), (4, g_n 1), (5, g_n v5), (6, g_n (g_i M7 a0 61))]) rfl ?_
        refine r_aload_n x_395_98 rfl ?_
        refine r_iload x_395_99 rfl ?_
        refine r_invV x_395_101 (z := 235) (ns := 0) (by decide +kernel) (as := [g_n v5]) (r := []) rfl rfl rfl hO1 rfl rfl ?_
        refine r_callI h fun r41 M38 hx39 hok40 hr42 h => ?_
        replace h := h hx39 hok40 hr42
        replace hO1 := hO1.up hx39
        refine r_istore x_395_104 (by decide +kernel) rfl (lv1 := [(0, .ref a0), (1, g_n v1), (2, g_n v2), (3, g_n v3), (4, g_n 1), (5, g_n r41), (6, g_n (g_i M7 a0 61))]) rfl ?_
        refine r_goto x_395_106 (t := 50) (by decide +kernel) ?_
        refine g_drop [0, 1, 2, 3, 4, 5] (lv1 := [(0, .ref a0), (1, g_n v1), (2, g_n v2), (3, g_n v3), (4, g_n 1), (5, g_n r41)]) rfl ?_
        exact h
    · replace h := h.1 hc
      refine r_goto x_395_80 (t := 98) (by decide +kernel) ?_
      refine r_aload_n x_395_98 rfl ?_
      refine r_iload x_395_99 rfl ?_
      refine r_invV x_395_101 (z := 235) (ns := 0) (by decide +kernel) (as := [g_n v5]) (r := []) rfl rfl rfl hO1 rfl rfl ?_
      refine r_callI h fun r46 M43 hx44 hok45 hr47 h => ?_
      replace h := h hx44 hok45 hr47
      replace hO1 := hO1.up hx44
      refine r_istore x_395_104 (by decide +kernel) rfl (lv1 := [(0, .ref a0), (1, g_n v1), (2, g_n v2), (3, g_n v3), (4, g_n v4), (5, g_n r46), (6, g_n (g_i M7 a0 61))]) rfl ?_
      refine r_goto x_395_106 (t := 50) (by decide +kernel) ?_
      refine g_drop [0, 1, 2, 3, 4, 5] (lv1 := [(0, .ref a0), (1, g_n v1), (2, g_n v2), (3, g_n v3), (4, g_n v4), (5, g_n r46)]) rfl ?_
      exact h
theorem m_X12_meetAll {d : Nat} {M : g_M} {Q : g_M → Prop} {a0 : Nat} {v1 : Int} (hv1 : g_InR v1) {v2 : Int} (hv2 : g_InR v2) (h : g_ok M → g_O M a0 12 ∧ g_Run d 396 8 [(0, .ref a0), (1, g_n v1), (2, g_n v2), (3, g_n (g_i M a0 61)), (4, g_n v1)] [] M (g_qV Q)) : g_Call (d + 1) 396 [.ref a0, g_n v1, g_n v2] M (g_qV Q) := by
  refine g_Call.ok fun hok0 => ?_
  replace h := h hok0
  refine r_body rfl (lv := [(0, .ref a0), (1, g_n v1), (2, g_n v2)]) rfl ?_
  refine g_Run.ok fun hok => ?_
  refine r_aload_n x_396_0 rfl ?_
  obtain ⟨hO1, h⟩ := h
  refine r_getI x_396_1 rfl (ci := 12) (k := 61) (ns := 0) (by decide +kernel) (by decide) rfl (kz := 61) rfl hO1 ?_
  refine r_istore_n x_396_4 (by decide +kernel) rfl (lv1 := [(0, .ref a0), (1, g_n v1), (2, g_n v2), (3, g_n (g_i M a0 61))]) rfl ?_
  refine r_iload_n x_396_5 rfl ?_
  refine r_istore x_396_6 (by decide +kernel) rfl (lv1 := [(0, .ref a0), (1, g_n v1), (2, g_n v2), (3, g_n (g_i M a0 61)), (4, g_n v1)]) rfl ?_
  exact h
theorem s_X12_meetAll_8 {d : Nat} {M : g_M} {Q : g_M → Prop} {a0 : Nat} {v1 : Int} (hv1 : g_InR v1) {v2 : Int} (hv2 : g_InR v2) {v3 : Int} (hv3 : g_InR v3) {v4 : Int} (hv4 : g_InR v4) (h : g_ok M → ((v4 < v2 → g_Run d 396 17 [(0, .ref a0), (1, g_n v1), (2, g_n v2), (3, g_n v3), (4, g_n v4), (5, g_n v2)] [] M (g_qV Q)) ∧ (¬ v4 < v2 → g_O M a0 12 ∧ g_InR ((g_i M a0 61) - v3) ∧ g_Run d 396 290 [(0, .ref a0), (1, g_n v1), (2, g_n v2), (3, g_n v3), (4, g_n ((g_i M a0 61) - v3)), (5, g_n 0)] [] M (g_qV Q)))) : g_Run d 396 8 [(0, .ref a0), (1, g_n v1), (2, g_n v2), (3, g_n v3), (4, g_n v4)] [] M (g_qV Q) := by
  refine g_Run.ok fun hok => ?_
  replace h := h hok
  refine r_iload x_396_8 rfl ?_
  refine r_iload_n x_396_10 rfl ?_
  refine r_ic_ge x_396_11 (t := 279) (by decide +kernel) hv4 hv2 (fun hc => ?_) (fun hc => ?_)
  · replace h := h.2 hc
    refine r_aload_n x_396_279 rfl ?_
    obtain ⟨hO1, h⟩ := h
    refine r_getI x_396_280 rfl (ci := 12) (k := 61) (ns := 0) (by decide +kernel) (by decide) rfl (kz := 61) rfl hO1 ?_
    refine r_iload_n x_396_283 rfl ?_
    refine r_isub x_396_284 ?_
    obtain ⟨h2, h⟩ := h
    refine r_istore x_396_285 (by decide +kernel) rfl (lv1 := [(0, .ref a0), (1, g_n v1), (2, g_n v2), (3, g_n v3), (4, g_n ((g_i M a0 61) - v3))]) rfl ?_
    refine r_iconst x_396_287 ?_
    refine r_istore x_396_288 (by decide +kernel) rfl (lv1 := [(0, .ref a0), (1, g_n v1), (2, g_n v2), (3, g_n v3), (4, g_n ((g_i M a0 61) - v3)), (5, g_n 0)]) rfl ?_
    exact h
  · replace h := h.1 hc
    refine r_iload_n x_396_14 rfl ?_
    refine r_istore x_396_15 (by decide +kernel) rfl (lv1 := [(0, .ref a0), (1, g_n v1), (2, g_n v2), (3, g_n v3), (4, g_n v4), (5, g_n v2)]) rfl ?_
    exact h
theorem s_X12_meetAll_17 {d : Nat} {M : g_M} {Q : g_M → Prop} {a0 : Nat} {v1 : Int} (hv1 : g_InR v1) {v2 : Int} (hv2 : g_InR v2) {v3 : Int} (hv3 : g_InR v3) {v4 : Int} (hv4 : g_InR v4) {v5 : Int} (hv5 : g_InR v5) (h : g_ok M → ((v5 < v3 → g_O M a0 12 ∧ ∃ b3, g_r M a0 57 = some b3 ∧ ∃ n5, g_A M b3 1 n5 ∧ ((0 : Int) ≤ v4 ∧ (v4 : Int) < n5) ∧ ∃ b8, g_r M a0 57 = some b8 ∧ ∃ n10, g_A M b8 1 n10 ∧ ((0 : Int) ≤ v5 ∧ (v5 : Int) < n10) ∧ g_Call d 391 [.ref a0, g_n (g_i M b3 v4), g_n (g_i M b8 v5)] M (g_qI fun r16 M13 => g_ext M M13 → g_ok M13 → g_InR r16 → ∃ b18, g_r M13 a0 58 = some b18 ∧ ∃ n20, g_A M13 b18 1 n20 ∧ ((0 : Int) ≤ v4 ∧ (v4 : Int) < n20) ∧ ∃ b23, g_r M13 a0 58 = some b23 ∧ ∃ n25, g_A M13 b23 1 n25 ∧ ((0 : Int) ≤ v5 ∧ (v5 : Int) < n25) ∧ g_Call d 391 [.ref a0, g_n (g_i M13 b18 v4), g_n (g_i M13 b23 v5)] M13 (g_qI fun r31 M28 => g_ext M13 M28 → g_ok M28 → g_InR r31 → ((r16 < 0 → ∃ b33, g_r M28 a0 57 = some b33 ∧ ∃ n35, g_A M28 b33 1 n35 ∧ ((0 : Int) ≤ v5 ∧ (v5 : Int) < n35) ∧ g_Run d 396 85 [(0, .ref a0), (1, g_n v1), (2, g_n v2), (3, g_n v3), (4, g_n v4), (5, g_n v5), (6, g_n r16), (7, g_n r31)] [g_n (g_i M28 b33 v5)] M28 (g_qV Q)) ∧ (¬ r16 < 0 → ∃ b38, g_r M28 a0 57 = some b38 ∧ ∃ n40, g_A M28 b38 1 n40 ∧ ((0 : Int) ≤ v4 ∧ (v4 : Int) < n40) ∧ g_Run d 396 85 [(0, .ref a0), (1, g_n v1), (2, g_n v2), (3, g_n v3), (4, g_n v4), (5, g_n v5), (6, g_n r16), (7, g_n r31)] [g_n (g_i M28 b38 v4)] M28 (g_qV Q)))))) ∧ (¬ v5 < v3 → g_InR (v4 + 1) ∧ g_Run d 396 8 [(0, .ref a0), (1, g_n v1), (2, g_n v2), (3, g_n v3), (4, g_n (v4 + 1))] [] M (g_qV Q)))) : g_Run d 396 17 [(0, .ref a0), (1, g_n v1), (2, g_n v2), (3, g_n v3), (4, g_n v4), (5, g_n v5)] [] M (g_qV Q) := by
  refine g_Run.ok fun hok => ?_
  replace h := h hok
  refine r_iload x_396_17 rfl ?_
  refine r_iload_n x_396_19 rfl ?_
  refine r_ic_ge x_396_20 (t := 273) (by decide +kernel) hv5 hv3 (fun hc => ?_) (fun hc => ?_)
  · replace h := h.2 hc
    obtain ⟨h1, h⟩ := h
    refine r_iinc x_396_273 (by decide +kernel) rfl rfl (lv1 := [(0, .ref a0), (1, g_n v1), (2, g_n v2), (3, g_n v3), (4, g_n (v4 + 1)), (5, g_n v5)]) rfl ?_
    refine r_goto x_396_276 (t := 8) (by decide +kernel) ?_
    refine g_drop [0, 1, 2, 3, 4] (lv1 := [(0, .ref a0), (1, g_n v1), (2, g_n v2), (3, g_n v3), (4, g_n (v4 + 1))]) rfl ?_
    exact h
  · replace h := h.1 hc
    refine r_aload_n x_396_23 rfl ?_
    refine r_aload_n x_396_24 rfl ?_
    obtain ⟨hO2, h⟩ := h
    obtain ⟨b3, hb4, h⟩ := h
    refine r_getR x_396_25 rfl (ci := 12) (k := 57) (ns := 0) (by decide +kernel) (by decide) rfl (kz := 57) rfl hO2 hb4 ?_
    refine r_iload x_396_28 rfl ?_
    obtain ⟨n5, hA6, h⟩ := h
    obtain ⟨h7, h⟩ := h
    refine r_iald x_396_30 hA6 hv4 h7.1 h7.2 ?_
    refine r_aload_n x_396_31 rfl ?_
    obtain ⟨b8, hb9, h⟩ := h
    refine r_getR x_396_32 rfl (ci := 12) (k := 57) (ns := 0) (by decide +kernel) (by decide) rfl (kz := 57) rfl hO2 hb9 ?_
    refine r_iload x_396_35 rfl ?_
    obtain ⟨n10, hA11, h⟩ := h
    obtain ⟨h12, h⟩ := h
    refine r_iald x_396_37 hA11 hv5 h12.1 h12.2 ?_
    refine r_invV x_396_38 (z := 391) (ns := 0) (by decide +kernel) (as := [g_n (g_i M b3 v4), g_n (g_i M b8 v5)]) (r := []) rfl rfl rfl hO2 rfl rfl ?_
    refine r_callI h fun r16 M13 hx14 hok15 hr17 h => ?_
    replace h := h hx14 hok15 hr17
    replace hO2 := hO2.up hx14
    replace hA6 := hA6.up hx14
    replace hA11 := hA11.up hx14
    refine r_istore x_396_41 (by decide +kernel) rfl (lv1 := [(0, .ref a0), (1, g_n v1), (2, g_n v2), (3, g_n v3), (4, g_n v4), (5, g_n v5), (6, g_n r16)]) rfl ?_
    refine r_aload_n x_396_43 rfl ?_
    refine r_aload_n x_396_44 rfl ?_
    obtain ⟨b18, hb19, h⟩ := h
    refine r_getR x_396_45 rfl (ci := 12) (k := 58) (ns := 0) (by decide +kernel) (by decide) rfl (kz := 58) rfl hO2 hb19 ?_
    refine r_iload x_396_48 rfl ?_
    obtain ⟨n20, hA21, h⟩ := h
    obtain ⟨h22, h⟩ := h
    refine r_iald x_396_50 hA21 hv4 h22.1 h22.2 ?_
    refine r_aload_n x_396_51 rfl ?_
    obtain ⟨b23, hb24, h⟩ := h
    refine r_getR x_396_52 rfl (ci := 12) (k := 58) (ns := 0) (by decide +kernel) (by decide) rfl (kz := 58) rfl hO2 hb24 ?_
    refine r_iload x_396_55 rfl ?_
    obtain ⟨n25, hA26, h⟩ := h
    obtain ⟨h27, h⟩ := h
    refine r_iald x_396_57 hA26 hv5 h27.1 h27.2 ?_
    refine r_invV x_396_58 (z := 391) (ns := 0) (by decide +kernel) (as := [g_n (g_i M13 b18 v4), g_n (g_i M13 b23 v5)]) (r := []) rfl rfl rfl hO2 rfl rfl ?_
    refine r_callI h fun r31 M28 hx29 hok30 hr32 h => ?_
    replace h := h hx29 hok30 hr32
    replace hO2 := hO2.up hx29
    replace hA6 := hA6.up hx29
    replace hA11 := hA11.up hx29
    replace hA21 := hA21.up hx29
    replace hA26 := hA26.up hx29
    refine r_istore x_396_61 (by decide +kernel) rfl (lv1 := [(0, .ref a0), (1, g_n v1), (2, g_n v2), (3, g_n v3), (4, g_n v4), (5, g_n v5), (6, g_n r16), (7, g_n r31)]) rfl ?_
    refine r_iload x_396_63 rfl ?_
    refine r_if_lt x_396_65 (t := 78) (by decide +kernel) hr17 (fun hc => ?_) (fun hc => ?_)
    · replace h := h.1 hc
      refine r_aload_n x_396_78 rfl ?_
      obtain ⟨b33, hb34, h⟩ := h
      refine r_getR x_396_79 rfl (ci := 12) (k := 57) (ns := 0) (by decide +kernel) (by decide) rfl (kz := 57) rfl hO2 hb34 ?_
      refine r_iload x_396_82 rfl ?_
      obtain ⟨n35, hA36, h⟩ := h
      obtain ⟨h37, h⟩ := h
      refine r_iald x_396_84 hA36 hv5 h37.1 h37.2 ?_
      exact h
    · replace h := h.2 hc
      refine r_aload_n x_396_68 rfl ?_
      obtain ⟨b38, hb39, h⟩ := h
      refine r_getR x_396_69 rfl (ci := 12) (k := 57) (ns := 0) (by decide +kernel) (by decide) rfl (kz := 57) rfl hO2 hb39 ?_
      refine r_iload x_396_72 rfl ?_
      obtain ⟨n40, hA41, h⟩ := h
      obtain ⟨h42, h⟩ := h
      refine r_iald x_396_74 hA41 hv4 h42.1 h42.2 ?_
      refine r_goto x_396_75 (t := 85) (by decide +kernel) ?_
      exact h
theorem s_X12_meetAll_85 {d : Nat} {M : g_M} {Q : g_M → Prop} {a0 : Nat} {v1 : Int} (hv1 : g_InR v1) {v2 : Int} (hv2 : g_InR v2) {v3 : Int} (hv3 : g_InR v3) {v4 : Int} (hv4 : g_InR v4) {v5 : Int} (hv5 : g_InR v5) {v6 : Int} (hv6 : g_InR v6) {v7 : Int} (hv7 : g_InR v7) {w0 : Int} (hw0 : g_InR w0) (h : g_ok M → ((0 < v7 → g_O M a0 12 ∧ ∃ b2, g_r M a0 58 = some b2 ∧ ∃ n4, g_A M b2 1 n4 ∧ ((0 : Int) ≤ v5 ∧ (v5 : Int) < n4) ∧ g_Run d 396 109 [(0, .ref a0), (1, g_n v1), (2, g_n v2), (3, g_n v3), (4, g_n v4), (5, g_n v5), (6, g_n v6), (7, g_n v7), (8, g_n w0)] [g_n (g_i M b2 v5)] M (g_qV Q)) ∧ (¬ 0 < v7 → g_O M a0 12 ∧ ∃ b8, g_r M a0 58 = some b8 ∧ ∃ n10, g_A M b8 1 n10 ∧ ((0 : Int) ≤ v4 ∧ (v4 : Int) < n10) ∧ g_Run d 396 109 [(0, .ref a0), (1, g_n v1), (2, g_n v2), (3, g_n v3), (4, g_n v4), (5, g_n v5), (6, g_n v6), (7, g_n v7), (8, g_n w0)] [g_n (g_i M b8 v4)] M (g_qV Q)))) : g_Run d 396 85 [(0, .ref a0), (1, g_n v1), (2, g_n v2), (3, g_n v3), (4, g_n v4), (5, g_n v5), (6, g_n v6), (7, g_n v7)] [g_n w0] M (g_qV Q) := by
  refine g_Run.ok fun hok => ?_
  replace h := h hok
  refine r_istore x_396_85 (by decide +kernel) rfl (lv1 := [(0, .ref a0), (1, g_n v1), (2, g_n v2), (3, g_n v3), (4, g_n v4), (5, g_n v5), (6, g_n v6), (7, g_n v7), (8, g_n w0)]) rfl ?_
  refine r_iload x_396_87 rfl ?_
  refine r_if_gt x_396_89 (t := 102) (by decide +kernel) hv7 (fun hc => ?_) (fun hc => ?_)
  · replace h := h.1 hc
    refine r_aload_n x_396_102 rfl ?_
    obtain ⟨hO1, h⟩ := h
    obtain ⟨b2, hb3, h⟩ := h
    refine r_getR x_396_103 rfl (ci := 12) (k := 58) (ns := 0) (by decide +kernel) (by decide) rfl (kz := 58) rfl hO1 hb3 ?_
    refine r_iload x_396_106 rfl ?_
    obtain ⟨n4, hA5, h⟩ := h
    obtain ⟨h6, h⟩ := h
    refine r_iald x_396_108 hA5 hv5 h6.1 h6.2 ?_
    exact h
  · replace h := h.2 hc
    refine r_aload_n x_396_92 rfl ?_
    obtain ⟨hO7, h⟩ := h
    obtain ⟨b8, hb9, h⟩ := h
    refine r_getR x_396_93 rfl (ci := 12) (k := 58) (ns := 0) (by decide +kernel) (by decide) rfl (kz := 58) rfl hO7 hb9 ?_
    refine r_iload x_396_96 rfl ?_
    obtain ⟨n10, hA11, h⟩ := h
    obtain ⟨h12, h⟩ := h
    refine r_iald x_396_98 hA11 hv4 h12.1 h12.2 ?_
    refine r_goto x_396_99 (t := 109) (by decide +kernel) ?_
    exact h
theorem s_X12_meetAll_109 {d : Nat} {M : g_M} {Q : g_M → Prop} {a0 : Nat} {v1 : Int} (hv1 : g_InR v1) {v2 : Int} (hv2 : g_InR v2) {v3 : Int} (hv3 : g_InR v3) {v4 : Int} (hv4 : g_InR v4) {v5 : Int} (hv5 : g_InR v5) {v6 : Int} (hv6 : g_InR v6) {v7 : Int} (hv7 : g_InR v7) {v8 : Int} (hv8 : g_InR v8) {w0 : Int} (hw0 : g_InR w0) (h : g_ok M → ((0 < v6 → g_O M a0 12 ∧ ∃ b19, g_r M a0 59 = some b19 ∧ ∃ n21, g_A M b19 2 n21 ∧ ((0 : Int) ≤ v4 ∧ (v4 : Int) < n21) ∧ g_Run d 396 166 [(0, .ref a0), (1, g_n v1), (2, g_n v2), (3, g_n v3), (4, g_n v4), (5, g_n v5), (6, g_n v6), (7, g_n v7), (8, g_n v8), (9, g_n w0)] [g_n (g_i M b19 v4)] M (g_qV Q)) ∧ (¬ 0 < v6 → ((v6 < 0 → g_O M a0 12 ∧ ∃ b13, g_r M a0 59 = some b13 ∧ ∃ n15, g_A M b13 2 n15 ∧ ((0 : Int) ≤ v5 ∧ (v5 : Int) < n15) ∧ g_Run d 396 166 [(0, .ref a0), (1, g_n v1), (2, g_n v2), (3, g_n v3), (4, g_n v4), (5, g_n v5), (6, g_n v6), (7, g_n v7), (8, g_n v8), (9, g_n w0)] [g_n (g_i M b13 v5)] M (g_qV Q)) ∧ (¬ v6 < 0 → g_O M a0 12 ∧ ∃ b2, g_r M a0 59 = some b2 ∧ ∃ n4, g_A M b2 2 n4 ∧ ((0 : Int) ≤ v4 ∧ (v4 : Int) < n4) ∧ ((g_i M b2 v4 = 0 → g_Run d 396 166 [(0, .ref a0), (1, g_n v1), (2, g_n v2), (3, g_n v3), (4, g_n v4), (5, g_n v5), (6, g_n v6), (7, g_n v7), (8, g_n v8), (9, g_n w0)] [g_n 0] M (g_qV Q)) ∧ (¬ g_i M b2 v4 = 0 → ∃ b7, g_r M a0 59 = some b7 ∧ ∃ n9, g_A M b7 2 n9 ∧ ((0 : Int) ≤ v5 ∧ (v5 : Int) < n9) ∧ ((g_i M b7 v5 = 0 → g_Run d 396 166 [(0, .ref a0), (1, g_n v1), (2, g_n v2), (3, g_n v3), (4, g_n v4), (5, g_n v5), (6, g_n v6), (7, g_n v7), (8, g_n v8), (9, g_n w0)] [g_n 0] M (g_qV Q)) ∧ (¬ g_i M b7 v5 = 0 → g_Run d 396 166 [(0, .ref a0), (1, g_n v1), (2, g_n v2), (3, g_n v3), (4, g_n v4), (5, g_n v5), (6, g_n v6), (7, g_n v7), (8, g_n v8), (9, g_n w0)] [g_n 1] M (g_qV Q)))))))))) : g_Run d 396 109 [(0, .ref a0), (1, g_n v1), (2, g_n v2), (3, g_n v3), (4, g_n v4), (5, g_n v5), (6, g_n v6), (7, g_n v7), (8, g_n v8)] [g_n w0] M (g_qV Q) := by
  refine g_Run.ok fun hok => ?_
  replace h := h hok
  refine r_istore x_396_109 (by decide +kernel) rfl (lv1 := [(0, .ref a0), (1, g_n v1), (2, g_n v2), (3, g_n v3), (4, g_n v4), (5, g_n v5), (6, g_n v6), (7, g_n v7), (8, g_n v8), (9, g_n w0)]) rfl ?_
  refine r_iload x_396_111 rfl ?_
  refine r_if_le x_396_113 (t := 126) (by decide +kernel) hv6 (fun hc => ?_) (fun hc => ?_)
  · replace h := h.2 hc
    refine r_iload x_396_126 rfl ?_
    refine r_if_ge x_396_128 (t := 141) (by decide +kernel) hv6 (fun hc => ?_) (fun hc => ?_)
    · replace h := h.2 hc
      refine r_aload_n x_396_141 rfl ?_
      obtain ⟨hO1, h⟩ := h
      obtain ⟨b2, hb3, h⟩ := h
      refine r_getR x_396_142 rfl (ci := 12) (k := 59) (ns := 0) (by decide +kernel) (by decide) rfl (kz := 59) rfl hO1 hb3 ?_
      refine r_iload x_396_145 rfl ?_
      obtain ⟨n4, hA5, h⟩ := h
      obtain ⟨h6, h⟩ := h
      refine r_bald x_396_147 (Or.inr rfl) hA5 hv4 h6.1 h6.2 ?_
      refine r_if_eq x_396_148 (t := 165) (by decide +kernel) (hok.1 _ _) (fun hc => ?_) (fun hc => ?_)
      · replace h := h.1 hc
        refine r_iconst x_396_165 ?_
        exact h
      · replace h := h.2 hc
        refine r_aload_n x_396_151 rfl ?_
        obtain ⟨b7, hb8, h⟩ := h
        refine r_getR x_396_152 rfl (ci := 12) (k := 59) (ns := 0) (by decide +kernel) (by decide) rfl (kz := 59) rfl hO1 hb8 ?_
        refine r_iload x_396_155 rfl ?_
        obtain ⟨n9, hA10, h⟩ := h
        obtain ⟨h11, h⟩ := h
        refine r_bald x_396_157 (Or.inr rfl) hA10 hv5 h11.1 h11.2 ?_
        refine r_if_eq x_396_158 (t := 165) (by decide +kernel) (hok.1 _ _) (fun hc => ?_) (fun hc => ?_)
        · replace h := h.1 hc
          refine r_iconst x_396_165 ?_
          exact h
        · replace h := h.2 hc
          refine r_iconst x_396_161 ?_
          refine r_goto x_396_162 (t := 166) (by decide +kernel) ?_
          exact h
    · replace h := h.1 hc
      refine r_aload_n x_396_131 rfl ?_
      obtain ⟨hO12, h⟩ := h
      obtain ⟨b13, hb14, h⟩ := h
      refine r_getR x_396_132 rfl (ci := 12) (k := 59) (ns := 0) (by decide +kernel) (by decide) rfl (kz := 59) rfl hO12 hb14 ?_
      refine r_iload x_396_135 rfl ?_
      obtain ⟨n15, hA16, h⟩ := h
      obtain ⟨h17, h⟩ := h
      refine r_bald x_396_137 (Or.inr rfl) hA16 hv5 h17.1 h17.2 ?_
      refine r_goto x_396_138 (t := 166) (by decide +kernel) ?_
      exact h
  · replace h := h.1 hc
    refine r_aload_n x_396_116 rfl ?_
    obtain ⟨hO18, h⟩ := h
    obtain ⟨b19, hb20, h⟩ := h
    refine r_getR x_396_117 rfl (ci := 12) (k := 59) (ns := 0) (by decide +kernel) (by decide) rfl (kz := 59) rfl hO18 hb20 ?_
    refine r_iload x_396_120 rfl ?_
    obtain ⟨n21, hA22, h⟩ := h
    obtain ⟨h23, h⟩ := h
    refine r_bald x_396_122 (Or.inr rfl) hA22 hv4 h23.1 h23.2 ?_
    refine r_goto x_396_123 (t := 166) (by decide +kernel) ?_
    exact h
theorem s_X12_meetAll_166 {d : Nat} {M : g_M} {Q : g_M → Prop} {a0 : Nat} {v1 : Int} (hv1 : g_InR v1) {v2 : Int} (hv2 : g_InR v2) {v3 : Int} (hv3 : g_InR v3) {v4 : Int} (hv4 : g_InR v4) {v5 : Int} (hv5 : g_InR v5) {v6 : Int} (hv6 : g_InR v6) {v7 : Int} (hv7 : g_InR v7) {v8 : Int} (hv8 : g_InR v8) {v9 : Int} (hv9 : g_InR v9) {w0 : Int} (hw0 : g_InR w0) (h : g_ok M → ((v7 < 0 → g_O M a0 12 ∧ ∃ b19, g_r M a0 60 = some b19 ∧ ∃ n21, g_A M b19 2 n21 ∧ ((0 : Int) ≤ v4 ∧ (v4 : Int) < n21) ∧ g_Run d 396 223 [(0, .ref a0), (1, g_n v1), (2, g_n v2), (3, g_n v3), (4, g_n v4), (5, g_n v5), (6, g_n v6), (7, g_n v7), (8, g_n v8), (9, g_n v9), (10, g_n w0)] [g_n (g_i M b19 v4)] M (g_qV Q)) ∧ (¬ v7 < 0 → ((0 < v7 → g_O M a0 12 ∧ ∃ b13, g_r M a0 60 = some b13 ∧ ∃ n15, g_A M b13 2 n15 ∧ ((0 : Int) ≤ v5 ∧ (v5 : Int) < n15) ∧ g_Run d 396 223 [(0, .ref a0), (1, g_n v1), (2, g_n v2), (3, g_n v3), (4, g_n v4), (5, g_n v5), (6, g_n v6), (7, g_n v7), (8, g_n v8), (9, g_n v9), (10, g_n w0)] [g_n (g_i M b13 v5)] M (g_qV Q)) ∧ (¬ 0 < v7 → g_O M a0 12 ∧ ∃ b2, g_r M a0 60 = some b2 ∧ ∃ n4, g_A M b2 2 n4 ∧ ((0 : Int) ≤ v4 ∧ (v4 : Int) < n4) ∧ ((g_i M b2 v4 = 0 → g_Run d 396 223 [(0, .ref a0), (1, g_n v1), (2, g_n v2), (3, g_n v3), (4, g_n v4), (5, g_n v5), (6, g_n v6), (7, g_n v7), (8, g_n v8), (9, g_n v9), (10, g_n w0)] [g_n 0] M (g_qV Q)) ∧ (¬ g_i M b2 v4 = 0 → ∃ b7, g_r M a0 60 = some b7 ∧ ∃ n9, g_A M b7 2 n9 ∧ ((0 : Int) ≤ v5 ∧ (v5 : Int) < n9) ∧ ((g_i M b7 v5 = 0 → g_Run d 396 223 [(0, .ref a0), (1, g_n v1), (2, g_n v2), (3, g_n v3), (4, g_n v4), (5, g_n v5), (6, g_n v6), (7, g_n v7), (8, g_n v8), (9, g_n v9), (10, g_n w0)] [g_n 0] M (g_qV Q)) ∧ (¬ g_i M b7 v5 = 0 → g_Run d 396 223 [(0, .ref a0), (1, g_n v1), (2, g_n v2), (3, g_n v3), (4, g_n v4), (5, g_n v5), (6, g_n v6), (7, g_n v7), (8, g_n v8), (9, g_n v9), (10, g_n w0)] [g_n 1] M (g_qV Q)))))))))) : g_Run d 396 166 [(0, .ref a0), (1, g_n v1), (2, g_n v2), (3, g_n v3), (4, g_n v4), (5, g_n v5), (6, g_n v6), (7, g_n v7), (8, g_n v8), (9, g_n v9)] [g_n w0] M (g_qV Q) := by
  refine g_Run.ok fun hok => ?_
  replace h := h hok
  refine r_istore x_396_166 (by decide +kernel) rfl (lv1 := [(0, .ref a0), (1, g_n v1), (2, g_n v2), (3, g_n v3), (4, g_n v4), (5, g_n v5), (6, g_n v6), (7, g_n v7), (8, g_n v8), (9, g_n v9), (10, g_n w0)]) rfl ?_
  refine r_iload x_396_168 rfl ?_
  refine r_if_ge x_396_170 (t := 183) (by decide +kernel) hv7 (fun hc => ?_) (fun hc => ?_)
  · replace h := h.2 hc
    refine r_iload x_396_183 rfl ?_
    refine r_if_le x_396_185 (t := 198) (by decide +kernel) hv7 (fun hc => ?_) (fun hc => ?_)
    · replace h := h.2 hc
      refine r_aload_n x_396_198 rfl ?_
      obtain ⟨hO1, h⟩ := h
      obtain ⟨b2, hb3, h⟩ := h
      refine r_getR x_396_199 rfl (ci := 12) (k := 60) (ns := 0) (by decide +kernel) (by decide) rfl (kz := 60) rfl hO1 hb3 ?_
      refine r_iload x_396_202 rfl ?_
      obtain ⟨n4, hA5, h⟩ := h
      obtain ⟨h6, h⟩ := h
      refine r_bald x_396_204 (Or.inr rfl) hA5 hv4 h6.1 h6.2 ?_
      refine r_if_eq x_396_205 (t := 222) (by decide +kernel) (hok.1 _ _) (fun hc => ?_) (fun hc => ?_)
      · replace h := h.1 hc
        refine r_iconst x_396_222 ?_
        exact h
      · replace h := h.2 hc
        refine r_aload_n x_396_208 rfl ?_
        obtain ⟨b7, hb8, h⟩ := h
        refine r_getR x_396_209 rfl (ci := 12) (k := 60) (ns := 0) (by decide +kernel) (by decide) rfl (kz := 60) rfl hO1 hb8 ?_
        refine r_iload x_396_212 rfl ?_
        obtain ⟨n9, hA10, h⟩ := h
        obtain ⟨h11, h⟩ := h
        refine r_bald x_396_214 (Or.inr rfl) hA10 hv5 h11.1 h11.2 ?_
        refine r_if_eq x_396_215 (t := 222) (by decide +kernel) (hok.1 _ _) (fun hc => ?_) (fun hc => ?_)
        · replace h := h.1 hc
          refine r_iconst x_396_222 ?_
          exact h
        · replace h := h.2 hc
          refine r_iconst x_396_218 ?_
          refine r_goto x_396_219 (t := 223) (by decide +kernel) ?_
          exact h
    · replace h := h.1 hc
      refine r_aload_n x_396_188 rfl ?_
      obtain ⟨hO12, h⟩ := h
      obtain ⟨b13, hb14, h⟩ := h
      refine r_getR x_396_189 rfl (ci := 12) (k := 60) (ns := 0) (by decide +kernel) (by decide) rfl (kz := 60) rfl hO12 hb14 ?_
      refine r_iload x_396_192 rfl ?_
      obtain ⟨n15, hA16, h⟩ := h
      obtain ⟨h17, h⟩ := h
      refine r_bald x_396_194 (Or.inr rfl) hA16 hv5 h17.1 h17.2 ?_
      refine r_goto x_396_195 (t := 223) (by decide +kernel) ?_
      exact h
  · replace h := h.1 hc
    refine r_aload_n x_396_173 rfl ?_
    obtain ⟨hO18, h⟩ := h
    obtain ⟨b19, hb20, h⟩ := h
    refine r_getR x_396_174 rfl (ci := 12) (k := 60) (ns := 0) (by decide +kernel) (by decide) rfl (kz := 60) rfl hO18 hb20 ?_
    refine r_iload x_396_177 rfl ?_
    obtain ⟨n21, hA22, h⟩ := h
    obtain ⟨h23, h⟩ := h
    refine r_bald x_396_179 (Or.inr rfl) hA22 hv4 h23.1 h23.2 ?_
    refine r_goto x_396_180 (t := 223) (by decide +kernel) ?_
    exact h
theorem s_X12_meetAll_223 {d : Nat} {M : g_M} {Q : g_M → Prop} {a0 : Nat} {v1 : Int} (hv1 : g_InR v1) {v2 : Int} (hv2 : g_InR v2) {v3 : Int} (hv3 : g_InR v3) {v4 : Int} (hv4 : g_InR v4) {v5 : Int} (hv5 : g_InR v5) {v6 : Int} (hv6 : g_InR v6) {v7 : Int} (hv7 : g_InR v7) {v8 : Int} (hv8 : g_InR v8) {v9 : Int} (hv9 : g_InR v9) {v10 : Int} (hv10 : g_InR v10) {w0 : Int} (hw0 : g_InR w0) (h : g_ok M → g_O M a0 12 ∧ g_Call d 391 [.ref a0, g_n v8, g_n v9] M (g_qI fun r5 M2 => g_ext M M2 → g_ok M2 → g_InR r5 → ((r5 < 0 → g_Call d 392 [.ref a0, g_n v8, g_n v10, g_n v9, g_n w0] M2 (g_qV fun M7 => g_ext M2 M7 → g_ok M7 → g_InR (v5 + 1) ∧ g_Run d 396 17 [(0, .ref a0), (1, g_n v1), (2, g_n v2), (3, g_n v3), (4, g_n v4), (5, g_n (v5 + 1))] [] M7 (g_qV Q))) ∧ (¬ r5 < 0 → ((r5 = 0 → ((v10 = 0 → g_InR (v5 + 1) ∧ g_Run d 396 17 [(0, .ref a0), (1, g_n v1), (2, g_n v2), (3, g_n v3), (4, g_n v4), (5, g_n (v5 + 1))] [] M2 (g_qV Q)) ∧ (¬ v10 = 0 → ((w0 = 0 → g_InR (v5 + 1) ∧ g_Run d 396 17 [(0, .ref a0), (1, g_n v1), (2, g_n v2), (3, g_n v3), (4, g_n v4), (5, g_n (v5 + 1))] [] M2 (g_qV Q)) ∧ (¬ w0 = 0 → g_Call d 392 [.ref a0, g_n v8, g_n v10, g_n v9, g_n w0] M2 (g_qV fun M14 => g_ext M2 M14 → g_ok M14 → g_InR (v5 + 1) ∧ g_Run d 396 17 [(0, .ref a0), (1, g_n v1), (2, g_n v2), (3, g_n v3), (4, g_n v4), (5, g_n (v5 + 1))] [] M14 (g_qV Q))))))) ∧ (¬ r5 = 0 → g_InR (v5 + 1) ∧ g_Run d 396 17 [(0, .ref a0), (1, g_n v1), (2, g_n v2), (3, g_n v3), (4, g_n v4), (5, g_n (v5 + 1))] [] M2 (g_qV Q))))))) : g_Run d 396 223 [(0, .ref a0), (1, g_n v1), (2, g_n v2), (3, g_n v3), (4, g_n v4), (5, g_n v5), (6, g_n v6), (7, g_n v7), (8, g_n v8), (9, g_n v9), (10, g_n v10)] [g_n w0] M (g_qV Q) := by
  refine g_Run.ok fun hok => ?_
  replace h := h hok
  refine r_istore x_396_223 (by decide +kernel) rfl (lv1 := [(0, .ref a0), (1, g_n v1), (2, g_n v2), (3, g_n v3), (4, g_n v4), (5, g_n v5), (6, g_n v6), (7, g_n v7), (8, g_n v8), (9, g_n v9), (10, g_n v10), (11, g_n w0)]) rfl ?_
  refine r_aload_n x_396_225 rfl ?_
  refine r_iload x_396_226 rfl ?_
  refine r_iload x_396_228 rfl ?_
  obtain ⟨hO1, h⟩ := h
  refine r_invV x_396_230 (z := 391) (ns := 0) (by decide +kernel) (as := [g_n v8, g_n v9]) (r := []) rfl rfl rfl hO1 rfl rfl ?_
  refine r_callI h fun r5 M2 hx3 hok4 hr6 h => ?_
  replace h := h hx3 hok4 hr6
  replace hO1 := hO1.up hx3
  refine r_istore x_396_233 (by decide +kernel) rfl (lv1 := [(0, .ref a0), (1, g_n v1), (2, g_n v2), (3, g_n v3), (4, g_n v4), (5, g_n v5), (6, g_n v6), (7, g_n v7), (8, g_n v8), (9, g_n v9), (10, g_n v10), (11, g_n w0), (12, g_n r5)]) rfl ?_
  refine r_iload x_396_235 rfl ?_
  refine r_if_lt x_396_237 (t := 255) (by decide +kernel) hr6 (fun hc => ?_) (fun hc => ?_)
  · replace h := h.1 hc
    refine r_aload_n x_396_255 rfl ?_
    refine r_iload x_396_256 rfl ?_
    refine r_iload x_396_258 rfl ?_
    refine r_iload x_396_260 rfl ?_
    refine r_iload x_396_262 rfl ?_
    refine r_invV x_396_264 (z := 392) (ns := 0) (by decide +kernel) (as := [g_n v8, g_n v10, g_n v9, g_n w0]) (r := []) rfl rfl rfl hO1 rfl rfl ?_
    refine r_callV h fun M7 hx8 hok9 h => ?_
    replace h := h hx8 hok9
    replace hO1 := hO1.up hx8
    obtain ⟨h10, h⟩ := h
    refine r_iinc x_396_267 (by decide +kernel) rfl rfl (lv1 := [(0, .ref a0), (1, g_n v1), (2, g_n v2), (3, g_n v3), (4, g_n v4), (5, g_n (v5 + 1)), (6, g_n v6), (7, g_n v7), (8, g_n v8), (9, g_n v9), (10, g_n v10), (11, g_n w0), (12, g_n r5)]) rfl ?_
    refine r_goto x_396_270 (t := 17) (by decide +kernel) ?_
    refine g_drop [0, 1, 2, 3, 4, 5] (lv1 := [(0, .ref a0), (1, g_n v1), (2, g_n v2), (3, g_n v3), (4, g_n v4), (5, g_n (v5 + 1))]) rfl ?_
    exact h
  · replace h := h.2 hc
    refine r_iload x_396_240 rfl ?_
    refine r_if_ne x_396_242 (t := 267) (by decide +kernel) hr6 (fun hc => ?_) (fun hc => ?_)
    · replace h := h.2 hc
      obtain ⟨h11, h⟩ := h
      refine r_iinc x_396_267 (by decide +kernel) rfl rfl (lv1 := [(0, .ref a0), (1, g_n v1), (2, g_n v2), (3, g_n v3), (4, g_n v4), (5, g_n (v5 + 1)), (6, g_n v6), (7, g_n v7), (8, g_n v8), (9, g_n v9), (10, g_n v10), (11, g_n w0), (12, g_n r5)]) rfl ?_
      refine r_goto x_396_270 (t := 17) (by decide +kernel) ?_
      refine g_drop [0, 1, 2, 3, 4, 5] (lv1 := [(0, .ref a0), (1, g_n v1), (2, g_n v2), (3, g_n v3), (4, g_n v4), (5, g_n (v5 + 1))]) rfl ?_
      exact h
    · replace h := h.1 hc
      refine r_iload x_396_245 rfl ?_
      refine r_if_eq x_396_247 (t := 267) (by decide +kernel) hv10 (fun hc => ?_) (fun hc => ?_)
      · replace h := h.1 hc
        obtain ⟨h12, h⟩ := h
        refine r_iinc x_396_267 (by decide +kernel) rfl rfl (lv1 := [(0, .ref a0), (1, g_n v1), (2, g_n v2), (3, g_n v3), (4, g_n v4), (5, g_n (v5 + 1)), (6, g_n v6), (7, g_n v7), (8, g_n v8), (9, g_n v9), (10, g_n v10), (11, g_n w0), (12, g_n r5)]) rfl ?_
        refine r_goto x_396_270 (t := 17) (by decide +kernel) ?_
        refine g_drop [0, 1, 2, 3, 4, 5] (lv1 := [(0, .ref a0), (1, g_n v1), (2, g_n v2), (3, g_n v3), (4, g_n v4), (5, g_n (v5 + 1))]) rfl ?_
        exact h
      · replace h := h.2 hc
        refine r_iload x_396_250 rfl ?_
        refine r_if_eq x_396_252 (t := 267) (by decide +kernel) hw0 (fun hc => ?_) (fun hc => ?_)
        · replace h := h.1 hc
          obtain ⟨h13, h⟩ := h
          refine r_iinc x_396_267 (by decide +kernel) rfl rfl (lv1 := [(0, .ref a0), (1, g_n v1), (2, g_n v2), (3, g_n v3), (4, g_n v4), (5, g_n (v5 + 1)), (6, g_n v6), (7, g_n v7), (8, g_n v8), (9, g_n v9), (10, g_n v10), (11, g_n w0), (12, g_n r5)]) rfl ?_
          refine r_goto x_396_270 (t := 17) (by decide +kernel) ?_
          refine g_drop [0, 1, 2, 3, 4, 5] (lv1 := [(0, .ref a0), (1, g_n v1), (2, g_n v2), (3, g_n v3), (4, g_n v4), (5, g_n (v5 + 1))]) rfl ?_
          exact h
        · replace h := h.2 hc
          refine r_aload_n x_396_255 rfl ?_
          refine r_iload x_396_256 rfl ?_
          refine r_iload x_396_258 rfl ?_
          refine r_iload x_396_260 rfl ?_
          refine r_iload x_396_262 rfl ?_
          refine r_invV x_396_264 (z := 392) (ns := 0) (by decide +kernel) (as := [g_n v8, g_n v10, g_n v9, g_n w0]) (r := []) rfl rfl rfl hO1 rfl rfl ?_
          refine r_callV h fun M14 hx15 hok16 h => ?_
          replace h := h hx15 hok16
          replace hO1 := hO1.up hx15
          obtain ⟨h17, h⟩ := h
          refine r_iinc x_396_267 (by decide +kernel) rfl rfl (lv1 := [(0, .ref a0), (1, g_n v1), (2, g_n v2), (3, g_n v3), (4, g_n v4), (5, g_n (v5 + 1)), (6, g_n v6), (7, g_n v7), (8, g_n v8), (9, g_n v9), (10, g_n v10), (11, g_n w0), (12, g_n r5)]) rfl ?_
          refine r_goto x_396_270 (t := 17) (by decide +kernel) ?_
          refine g_drop [0, 1, 2, 3, 4, 5] (lv1 := [(0, .ref a0), (1, g_n v1), (2, g_n v2), (3, g_n v3), (4, g_n v4), (5, g_n (v5 + 1))]) rfl ?_
          exact h
theorem s_X12_meetAll_290 {d : Nat} {M : g_M} {Q : g_M → Prop} {a0 : Nat} {v1 : Int} (hv1 : g_InR v1) {v2 : Int} (hv2 : g_InR v2) {v3 : Int} (hv3 : g_InR v3) {v4 : Int} (hv4 : g_InR v4) {v5 : Int} (hv5 : g_InR v5) (h : g_ok M → ((v5 < v4 → g_O M a0 12 ∧ ∃ b8, g_r M a0 57 = some b8 ∧ g_InR (v1 + v5) ∧ ∃ b11, g_r M a0 57 = some b11 ∧ g_InR (v3 + v5) ∧ ∃ n14, g_A M b11 1 n14 ∧ ((0 : Int) ≤ v3 + v5 ∧ (v3 + v5 : Int) < n14) ∧ ∃ n17, g_A M b8 1 n17 ∧ ((0 : Int) ≤ v1 + v5 ∧ (v1 + v5 : Int) < n17) ∧ (∀ M20, M20 = g_wi M b8 (v1 + v5) (g_i M b11 (v3 + v5)) → g_ok M20 → ∃ b24, g_r M20 a0 59 = some b24 ∧ g_InR (v1 + v5) ∧ ∃ b27, g_r M20 a0 59 = some b27 ∧ g_InR (v3 + v5) ∧ ∃ n30, g_A M20 b27 2 n30 ∧ ((0 : Int) ≤ v3 + v5 ∧ (v3 + v5 : Int) < n30) ∧ ∃ n33, g_A M20 b24 2 n33 ∧ ((0 : Int) ≤ v1 + v5 ∧ (v1 + v5 : Int) < n33) ∧ (g_i M20 b27 (v3 + v5) = 0 ∨ g_i M20 b27 (v3 + v5) = 1) ∧ (∀ M37, M37 = g_wi M20 b24 (v1 + v5) (g_i M20 b27 (v3 + v5)) → g_ok M37 → ∃ b41, g_r M37 a0 58 = some b41 ∧ g_InR (v1 + v5) ∧ ∃ b44, g_r M37 a0 58 = some b44 ∧ g_InR (v3 + v5) ∧ ∃ n47, g_A M37 b44 1 n47 ∧ ((0 : Int) ≤ v3 + v5 ∧ (v3 + v5 : Int) < n47) ∧ ∃ n50, g_A M37 b41 1 n50 ∧ ((0 : Int) ≤ v1 + v5 ∧ (v1 + v5 : Int) < n50) ∧ (∀ M53, M53 = g_wi M37 b41 (v1 + v5) (g_i M37 b44 (v3 + v5)) → g_ok M53 → ∃ b57, g_r M53 a0 60 = some b57 ∧ g_InR (v1 + v5) ∧ ∃ b60, g_r M53 a0 60 = some b60 ∧ g_InR (v3 + v5) ∧ ∃ n63, g_A M53 b60 2 n63 ∧ ((0 : Int) ≤ v3 + v5 ∧ (v3 + v5 : Int) < n63) ∧ ∃ n66, g_A M53 b57 2 n66 ∧ ((0 : Int) ≤ v1 + v5 ∧ (v1 + v5 : Int) < n66) ∧ (g_i M53 b60 (v3 + v5) = 0 ∨ g_i M53 b60 (v3 + v5) = 1) ∧ (∀ M70, M70 = g_wi M53 b57 (v1 + v5) (g_i M53 b60 (v3 + v5)) → g_ok M70 → g_InR (v5 + 1) ∧ g_Run d 396 290 [(0, .ref a0), (1, g_n v1), (2, g_n v2), (3, g_n v3), (4, g_n v4), (5, g_n (v5 + 1))] [] M70 (g_qV Q)))))) ∧ (¬ v5 < v4 → g_InR (v1 + v4) ∧ g_O M a0 12 ∧ (∀ M3, M3 = g_wi M a0 61 (v1 + v4) → g_ok M3 → Q M3)))) : g_Run d 396 290 [(0, .ref a0), (1, g_n v1), (2, g_n v2), (3, g_n v3), (4, g_n v4), (5, g_n v5)] [] M (g_qV Q) := by
  refine g_Run.ok fun hok => ?_
  replace h := h hok
  refine r_iload x_396_290 rfl ?_
  refine r_iload x_396_292 rfl ?_
  refine r_ic_ge x_396_294 (t := 375) (by decide +kernel) hv5 hv4 (fun hc => ?_) (fun hc => ?_)
  · replace h := h.2 hc
    refine r_aload_n x_396_375 rfl ?_
    refine r_iload_n x_396_376 rfl ?_
    refine r_iload x_396_377 rfl ?_
    refine r_iadd x_396_379 ?_
    obtain ⟨h1, h⟩ := h
    obtain ⟨hO2, h⟩ := h
    refine r_putI x_396_380 (ci := 12) (k := 61) (ns := 0) (by decide +kernel) (by decide) (g_f0 (by decide +kernel)) rfl h1 trivial (kz := 61) rfl hO2 ?_
    obtain ⟨M3, hM4⟩ : ∃ Mz, Mz = g_wi M a0 61 (v1 + v4) := ⟨_, rfl⟩
    rw [← hM4]
    refine g_Run.ok fun hok5 => ?_
    replace h := h M3 hM4 hok5
    have hx6 := g_extW hM4
    replace hO2 := hO2.up hx6
    exact r_retV x_396_383 rfl h
  · replace h := h.1 hc
    refine r_aload_n x_396_297 rfl ?_
    obtain ⟨hO7, h⟩ := h
    obtain ⟨b8, hb9, h⟩ := h
    refine r_getR x_396_298 rfl (ci := 12) (k := 57) (ns := 0) (by decide +kernel) (by decide) rfl (kz := 57) rfl hO7 hb9 ?_
    refine r_iload_n x_396_301 rfl ?_
    refine r_iload x_396_302 rfl ?_
    refine r_iadd x_396_304 ?_
    obtain ⟨h10, h⟩ := h
    refine r_aload_n x_396_305 rfl ?_
    obtain ⟨b11, hb12, h⟩ := h
    refine r_getR x_396_306 rfl (ci := 12) (k := 57) (ns := 0) (by decide +kernel) (by decide) rfl (kz := 57) rfl hO7 hb12 ?_
    refine r_iload_n x_396_309 rfl ?_
    refine r_iload x_396_310 rfl ?_
    refine r_iadd x_396_312 ?_
    obtain ⟨h13, h⟩ := h
    obtain ⟨n14, hA15, h⟩ := h
    obtain ⟨h16, h⟩ := h
    refine r_iald x_396_313 hA15 h13 h16.1 h16.2 ?_
    obtain ⟨n17, hA18, h⟩ := h
    obtain ⟨h19, h⟩ := h
    refine r_iast x_396_314 hA18 h10 h19.1 h19.2 (hok.1 _ _) ?_
    obtain ⟨M20, hM21⟩ : ∃ Mz, Mz = g_wi M b8 (v1 + v5) (g_i M b11 (v3 + v5)) := ⟨_, rfl⟩
    rw [← hM21]
    refine g_Run.ok fun hok22 => ?_
    replace h := h M20 hM21 hok22
    have hx23 := g_extW hM21
    replace hO7 := hO7.up hx23
    replace hA15 := hA15.up hx23
    replace hA18 := hA18.up hx23
    refine r_aload_n x_396_315 rfl ?_
    obtain ⟨b24, hb25, h⟩ := h
    refine r_getR x_396_316 rfl (ci := 12) (k := 59) (ns := 0) (by decide +kernel) (by decide) rfl (kz := 59) rfl hO7 hb25 ?_
    refine r_iload_n x_396_319 rfl ?_
    refine r_iload x_396_320 rfl ?_
    refine r_iadd x_396_322 ?_
    obtain ⟨h26, h⟩ := h
    refine r_aload_n x_396_323 rfl ?_
    obtain ⟨b27, hb28, h⟩ := h
    refine r_getR x_396_324 rfl (ci := 12) (k := 59) (ns := 0) (by decide +kernel) (by decide) rfl (kz := 59) rfl hO7 hb28 ?_
    refine r_iload_n x_396_327 rfl ?_
    refine r_iload x_396_328 rfl ?_
    refine r_iadd x_396_330 ?_
    obtain ⟨h29, h⟩ := h
    obtain ⟨n30, hA31, h⟩ := h
    obtain ⟨h32, h⟩ := h
    refine r_bald x_396_331 (Or.inr rfl) hA31 h29 h32.1 h32.2 ?_
    obtain ⟨n33, hA34, h⟩ := h
    obtain ⟨h35, h⟩ := h
    obtain ⟨h36, h⟩ := h
    refine r_bast2 x_396_332 hA34 h26 h35.1 h35.2 h36 ?_
    obtain ⟨M37, hM38⟩ : ∃ Mz, Mz = g_wi M20 b24 (v1 + v5) (g_i M20 b27 (v3 + v5)) := ⟨_, rfl⟩
    rw [← hM38]
    refine g_Run.ok fun hok39 => ?_
    replace h := h M37 hM38 hok39
    have hx40 := g_extW hM38
    replace hO7 := hO7.up hx40
    replace hA15 := hA15.up hx40
    replace hA18 := hA18.up hx40
    replace hA31 := hA31.up hx40
    replace hA34 := hA34.up hx40
    refine r_aload_n x_396_333 rfl ?_
    obtain ⟨b41, hb42, h⟩ := h
    refine r_getR x_396_334 rfl (ci := 12) (k := 58) (ns := 0) (by decide +kernel) (by decide) rfl (kz := 58) rfl hO7 hb42 ?_
    refine r_iload_n x_396_337 rfl ?_
    refine r_iload x_396_338 rfl ?_
    refine r_iadd x_396_340 ?_
    obtain ⟨h43, h⟩ := h
    refine r_aload_n x_396_341 rfl ?_
    obtain ⟨b44, hb45, h⟩ := h
    refine r_getR x_396_342 rfl (ci := 12) (k := 58) (ns := 0) (by decide +kernel) (by decide) rfl (kz := 58) rfl hO7 hb45 ?_
    refine r_iload_n x_396_345 rfl ?_
    refine r_iload x_396_346 rfl ?_
    refine r_iadd x_396_348 ?_
    obtain ⟨h46, h⟩ := h
    obtain ⟨n47, hA48, h⟩ := h
    obtain ⟨h49, h⟩ := h
    refine r_iald x_396_349 hA48 h46 h49.1 h49.2 ?_
    obtain ⟨n50, hA51, h⟩ := h
    obtain ⟨h52, h⟩ := h
    refine r_iast x_396_350 hA51 h43 h52.1 h52.2 (hok39.1 _ _) ?_
    obtain ⟨M53, hM54⟩ : ∃ Mz, Mz = g_wi M37 b41 (v1 + v5) (g_i M37 b44 (v3 + v5)) := ⟨_, rfl⟩
    rw [← hM54]
    refine g_Run.ok fun hok55 => ?_
    replace h := h M53 hM54 hok55
    have hx56 := g_extW hM54
    replace hO7 := hO7.up hx56
    replace hA15 := hA15.up hx56
    replace hA18 := hA18.up hx56
    replace hA31 := hA31.up hx56
    replace hA34 := hA34.up hx56
    replace hA48 := hA48.up hx56
    replace hA51 := hA51.up hx56
    refine r_aload_n x_396_351 rfl ?_
    obtain ⟨b57, hb58, h⟩ := h
    refine r_getR x_396_352 rfl (ci := 12) (k := 60) (ns := 0) (by decide +kernel) (by decide) rfl (kz := 60) rfl hO7 hb58 ?_
    refine r_iload_n x_396_355 rfl ?_
    refine r_iload x_396_356 rfl ?_
    refine r_iadd x_396_358 ?_
    obtain ⟨h59, h⟩ := h
    refine r_aload_n x_396_359 rfl ?_
    obtain ⟨b60, hb61, h⟩ := h
    refine r_getR x_396_360 rfl (ci := 12) (k := 60) (ns := 0) (by decide +kernel) (by decide) rfl (kz := 60) rfl hO7 hb61 ?_
    refine r_iload_n x_396_363 rfl ?_
    refine r_iload x_396_364 rfl ?_
    refine r_iadd x_396_366 ?_
    obtain ⟨h62, h⟩ := h
    obtain ⟨n63, hA64, h⟩ := h
    obtain ⟨h65, h⟩ := h
    refine r_bald x_396_367 (Or.inr rfl) hA64 h62 h65.1 h65.2 ?_
    obtain ⟨n66, hA67, h⟩ := h
    obtain ⟨h68, h⟩ := h
    obtain ⟨h69, h⟩ := h
    refine r_bast2 x_396_368 hA67 h59 h68.1 h68.2 h69 ?_
    obtain ⟨M70, hM71⟩ : ∃ Mz, Mz = g_wi M53 b57 (v1 + v5) (g_i M53 b60 (v3 + v5)) := ⟨_, rfl⟩
    rw [← hM71]
    refine g_Run.ok fun hok72 => ?_
    replace h := h M70 hM71 hok72
    have hx73 := g_extW hM71
    replace hO7 := hO7.up hx73
    replace hA15 := hA15.up hx73
    replace hA18 := hA18.up hx73
    replace hA31 := hA31.up hx73
    replace hA34 := hA34.up hx73
    replace hA48 := hA48.up hx73
    replace hA51 := hA51.up hx73
    replace hA64 := hA64.up hx73
    replace hA67 := hA67.up hx73
    obtain ⟨h74, h⟩ := h
    refine r_iinc x_396_369 (by decide +kernel) rfl rfl (lv1 := [(0, .ref a0), (1, g_n v1), (2, g_n v2), (3, g_n v3), (4, g_n v4), (5, g_n (v5 + 1))]) rfl ?_
    refine r_goto x_396_372 (t := 290) (by decide +kernel) ?_
    exact h
theorem m_X12_collect {d : Nat} {M : g_M} {Q : g_M → Prop} {a0 : Nat} {v1 : Int} (hv1 : g_InR v1) {v2 : Int} (hv2 : g_InR v2) {v3 : Int} (hv3 : g_InR v3) (h : g_ok M → g_Call d 237 [g_n v1] M (g_qI fun r4 M1 => g_ext M M1 → g_ok M1 → g_InR r4 → g_Run d 397 6 [(0, .ref a0), (1, g_n v1), (2, g_n v2), (3, g_n v3), (4, g_n r4)] [] M1 (g_qV Q))) : g_Call (d + 1) 397 [.ref a0, g_n v1, g_n v2, g_n v3] M (g_qV Q) := by
  refine g_Call.ok fun hok0 => ?_
  replace h := h hok0
  refine r_body rfl (lv := [(0, .ref a0), (1, g_n v1), (2, g_n v2), (3, g_n v3)]) rfl ?_
  refine g_Run.ok fun hok => ?_
  refine r_iload_n x_397_0 rfl ?_
  refine r_invS x_397_1 (z := 237) (ns := 0) (by decide +kernel) (as := [g_n v1]) (r := []) rfl rfl rfl ?_
  refine r_callI h fun r4 M1 hx2 hok3 hr5 h => ?_
  replace h := h hx2 hok3 hr5
  refine r_istore x_397_4 (by decide +kernel) rfl (lv1 := [(0, .ref a0), (1, g_n v1), (2, g_n v2), (3, g_n v3), (4, g_n r4)]) rfl ?_
  exact h
theorem s_X12_collect_6 {d : Nat} {M : g_M} {Q : g_M → Prop} {a0 : Nat} {v1 : Int} (hv1 : g_InR v1) {v2 : Int} (hv2 : g_InR v2) {v3 : Int} (hv3 : g_InR v3) {v4 : Int} (hv4 : g_InR v4) (h : g_ok M → g_O M a0 12 ∧ g_Call d 238 [.ref a0, g_n v1] M (g_qI fun r5 M2 => g_ext M M2 → g_ok M2 → g_InR r5 → ((v4 < r5 → g_Call d 236 [.ref a0, g_n v4, .ref (4 * 94 + 1)] M2 (g_qI fun r10 M7 => g_ext M2 M7 → g_ok M7 → g_InR r10 → ((r10 = 0 → g_InR (v4 + 1) ∧ g_Call d 232 [.ref a0, g_n v4] M7 (g_qI fun r16 M13 => g_ext M7 M13 → g_ok M13 → g_InR r16 → g_Call d 230 [.ref a0, g_n (v4 + 1), g_n r16, g_n v2, g_n v3] M13 (g_qI fun r21 M18 => g_ext M13 M18 → g_ok M18 → g_InR r21 → ((r21 = 0 → g_Call d 235 [.ref a0, g_n v4] M18 (g_qI fun r26 M23 => g_ext M18 M23 → g_ok M23 → g_InR r26 → g_Run d 397 6 [(0, .ref a0), (1, g_n v1), (2, g_n v2), (3, g_n v3), (4, g_n r26)] [] M23 (g_qV Q))) ∧ (¬ r21 = 0 → g_Call d 284 [.ref a0, g_n v4] M18 (g_qI fun r31 M28 => g_ext M18 M28 → g_ok M28 → g_InR r31 → ((r31 = 0 → ∃ b43, g_r M28 a0 63 = some b43 ∧ ∃ n45, g_A M28 b43 2 n45 ∧ ((0 : Int) ≤ g_i M28 a0 64 ∧ (g_i M28 a0 64 : Int) < n45) ∧ (∀ M48, M48 = g_wi M28 b43 (g_i M28 a0 64) 1 → g_ok M48 → ∃ b52, g_r M48 a0 62 = some b52 ∧ g_InR ((g_i M48 a0 64) + 1) ∧ (∀ M55, M55 = g_wi M48 a0 64 ((g_i M48 a0 64) + 1) → g_ok M55 → ∃ n59, g_A M55 b52 1 n59 ∧ ((0 : Int) ≤ g_i M48 a0 64 ∧ (g_i M48 a0 64 : Int) < n59) ∧ (∀ M62, M62 = g_wi M55 b52 (g_i M48 a0 64) v4 → g_ok M62 → g_Call d 235 [.ref a0, g_n v4] M62 (g_qI fun r69 M66 => g_ext M62 M66 → g_ok M66 → g_InR r69 → g_Run d 397 6 [(0, .ref a0), (1, g_n v1), (2, g_n v2), (3, g_n v3), (4, g_n r69)] [] M66 (g_qV Q)))))) ∧ (¬ r31 = 0 → g_Call d 233 [.ref a0, g_n v4] M28 (g_qI fun r36 M33 => g_ext M28 M33 → g_ok M33 → g_InR r36 → g_Call d 237 [g_n r36] M33 (g_qI fun r41 M38 => g_ext M33 M38 → g_ok M38 → g_InR r41 → g_Run d 397 150 [(0, .ref a0), (1, g_n v1), (2, g_n v2), (3, g_n v3), (4, g_n v4), (5, g_n r41)] [] M38 (g_qV Q))))))))))) ∧ (¬ r10 = 0 → g_Call d 233 [.ref a0, g_n v4] M7 (g_qI fun r74 M71 => g_ext M7 M71 → g_ok M71 → g_InR r74 → g_Call d 237 [g_n r74] M71 (g_qI fun r79 M76 => g_ext M71 M76 → g_ok M76 → g_InR r79 → g_Run d 397 39 [(0, .ref a0), (1, g_n v1), (2, g_n v2), (3, g_n v3), (4, g_n v4), (5, g_n r79)] [] M76 (g_qV Q))))))) ∧ (¬ v4 < r5 → Q M2)))) : g_Run d 397 6 [(0, .ref a0), (1, g_n v1), (2, g_n v2), (3, g_n v3), (4, g_n v4)] [] M (g_qV Q) := by
  refine g_Run.ok fun hok => ?_
  replace h := h hok
  refine r_iload x_397_6 rfl ?_
  refine r_aload_n x_397_8 rfl ?_
  refine r_iload_n x_397_9 rfl ?_
  obtain ⟨hO1, h⟩ := h
  refine r_invV x_397_10 (z := 238) (ns := 0) (by decide +kernel) (as := [g_n v1]) (r := [g_n v4]) rfl rfl rfl hO1 rfl rfl ?_
  refine r_callI h fun r5 M2 hx3 hok4 hr6 h => ?_
  replace h := h hx3 hok4 hr6
  replace hO1 := hO1.up hx3
  refine r_ic_ge x_397_13 (t := 215) (by decide +kernel) hv4 hr6 (fun hc => ?_) (fun hc => ?_)
  · replace h := h.2 hc
    exact r_retV x_397_215 rfl h
  · replace h := h.1 hc
    refine r_aload_n x_397_16 rfl ?_
    refine r_iload x_397_17 rfl ?_
    refine r_ldcw x_397_19 (v := .ref (4 * 94 + 1)) rfl ?_
    refine r_invV x_397_22 (z := 236) (ns := 0) (by decide +kernel) (as := [g_n v4, .ref (4 * 94 + 1)]) (r := []) rfl rfl rfl hO1 rfl rfl ?_
    refine r_callI h fun r10 M7 hx8 hok9 hr11 h => ?_
    replace h := h hx8 hok9 hr11
    replace hO1 := hO1.up hx8
    refine r_if_eq x_397_25 (t := 80) (by decide +kernel) hr11 (fun hc => ?_) (fun hc => ?_)
    · replace h := h.1 hc
      refine r_aload_n x_397_80 rfl ?_
      refine r_iload x_397_81 rfl ?_
      refine r_iconst x_397_83 ?_
      refine r_iadd x_397_84 ?_
      obtain ⟨h12, h⟩ := h
      refine r_aload_n x_397_85 rfl ?_
      refine r_iload x_397_86 rfl ?_
      refine r_invV x_397_88 (z := 232) (ns := 0) (by decide +kernel) (as := [g_n v4]) (r := [g_n (v4 + 1), .ref a0]) rfl rfl rfl hO1 rfl rfl ?_
      refine r_callI h fun r16 M13 hx14 hok15 hr17 h => ?_
      replace h := h hx14 hok15 hr17
      replace hO1 := hO1.up hx14
      refine r_iload_n x_397_91 rfl ?_
      refine r_iload_n x_397_92 rfl ?_
      refine r_invV x_397_93 (z := 230) (ns := 0) (by decide +kernel) (as := [g_n (v4 + 1), g_n r16, g_n v2, g_n v3]) (r := []) rfl rfl rfl hO1 rfl rfl ?_
      refine r_callI h fun r21 M18 hx19 hok20 hr22 h => ?_
      replace h := h hx19 hok20 hr22
      replace hO1 := hO1.up hx19
      refine r_if_eq x_397_96 (t := 204) (by decide +kernel) hr22 (fun hc => ?_) (fun hc => ?_)
      · replace h := h.1 hc
        refine r_aload_n x_397_204 rfl ?_
        refine r_iload x_397_205 rfl ?_
        refine r_invV x_397_207 (z := 235) (ns := 0) (by decide +kernel) (as := [g_n v4]) (r := []) rfl rfl rfl hO1 rfl rfl ?_
        refine r_callI h fun r26 M23 hx24 hok25 hr27 h => ?_
        replace h := h hx24 hok25 hr27
        replace hO1 := hO1.up hx24
        refine r_istore x_397_210 (by decide +kernel) rfl (lv1 := [(0, .ref a0), (1, g_n v1), (2, g_n v2), (3, g_n v3), (4, g_n r26)]) rfl ?_
        refine r_goto x_397_212 (t := 6) (by decide +kernel) ?_
        exact h
      · replace h := h.2 hc
        refine r_aload_n x_397_99 rfl ?_
        refine r_iload x_397_100 rfl ?_
        refine r_invV x_397_102 (z := 284) (ns := 0) (by decide +kernel) (as := [g_n v4]) (r := []) rfl rfl rfl hO1 rfl rfl ?_
        refine r_callI h fun r31 M28 hx29 hok30 hr32 h => ?_
        replace h := h hx29 hok30 hr32
        replace hO1 := hO1.up hx29
        refine r_if_ne x_397_105 (t := 139) (by decide +kernel) hr32 (fun hc => ?_) (fun hc => ?_)
        · replace h := h.2 hc
          refine r_aload_n x_397_139 rfl ?_
          refine r_iload x_397_140 rfl ?_
          refine r_invV x_397_142 (z := 233) (ns := 0) (by decide +kernel) (as := [g_n v4]) (r := []) rfl rfl rfl hO1 rfl rfl ?_
          refine r_callI h fun r36 M33 hx34 hok35 hr37 h => ?_
          replace h := h hx34 hok35 hr37
          replace hO1 := hO1.up hx34
          refine r_invS x_397_145 (z := 237) (ns := 0) (by decide +kernel) (as := [g_n r36]) (r := []) rfl rfl rfl ?_
          refine r_callI h fun r41 M38 hx39 hok40 hr42 h => ?_
          replace h := h hx39 hok40 hr42
          replace hO1 := hO1.up hx39
          refine r_istore x_397_148 (by decide +kernel) rfl (lv1 := [(0, .ref a0), (1, g_n v1), (2, g_n v2), (3, g_n v3), (4, g_n v4), (5, g_n r41)]) rfl ?_
          exact h
        · replace h := h.1 hc
          refine r_aload_n x_397_108 rfl ?_
          obtain ⟨b43, hb44, h⟩ := h
          refine r_getR x_397_109 rfl (ci := 12) (k := 63) (ns := 0) (by decide +kernel) (by decide) rfl (kz := 63) rfl hO1 hb44 ?_
          refine r_aload_n x_397_112 rfl ?_
          refine r_getI x_397_113 rfl (ci := 12) (k := 64) (ns := 0) (by decide +kernel) (by decide) rfl (kz := 64) rfl hO1 ?_
          refine r_iconst x_397_116 ?_
          obtain ⟨n45, hA46, h⟩ := h
          obtain ⟨h47, h⟩ := h
          refine r_bast2 x_397_117 hA46 (hok30.1 _ _) h47.1 h47.2 (Or.inr rfl) ?_
          obtain ⟨M48, hM49⟩ : ∃ Mz, Mz = g_wi M28 b43 (g_i M28 a0 64) 1 := ⟨_, rfl⟩
          rw [← hM49]
          refine g_Run.ok fun hok50 => ?_
          replace h := h M48 hM49 hok50
          have hx51 := g_extW hM49
          replace hO1 := hO1.up hx51
          replace hA46 := hA46.up hx51
          refine r_aload_n x_397_118 rfl ?_
          obtain ⟨b52, hb53, h⟩ := h
          refine r_getR x_397_119 rfl (ci := 12) (k := 62) (ns := 0) (by decide +kernel) (by decide) rfl (kz := 62) rfl hO1 hb53 ?_
          refine r_aload_n x_397_122 rfl ?_
          refine r_dup x_397_123 rfl ?_
          refine r_getI x_397_124 rfl (ci := 12) (k := 64) (ns := 0) (by decide +kernel) (by decide) rfl (kz := 64) rfl hO1 ?_
          refine r_dup_x1 x_397_127 rfl rfl ?_
          refine r_iconst x_397_128 ?_
          refine r_iadd x_397_129 ?_
          obtain ⟨h54, h⟩ := h
          refine r_putI x_397_130 (ci := 12) (k := 64) (ns := 0) (by decide +kernel) (by decide) (g_f0 (by decide +kernel)) rfl h54 trivial (kz := 64) rfl hO1 ?_
          obtain ⟨M55, hM56⟩ : ∃ Mz, Mz = g_wi M48 a0 64 ((g_i M48 a0 64) + 1) := ⟨_, rfl⟩
          rw [← hM56]
          refine g_Run.ok fun hok57 => ?_
          replace h := h M55 hM56 hok57
          have hx58 := g_extW hM56
          replace hO1 := hO1.up hx58
          replace hA46 := hA46.up hx58
          refine r_iload x_397_133 rfl ?_
          obtain ⟨n59, hA60, h⟩ := h
          obtain ⟨h61, h⟩ := h
          refine r_iast x_397_135 hA60 (hok50.1 _ _) h61.1 h61.2 hv4 ?_
          obtain ⟨M62, hM63⟩ : ∃ Mz, Mz = g_wi M55 b52 (g_i M48 a0 64) v4 := ⟨_, rfl⟩
          rw [← hM63]
          refine g_Run.ok fun hok64 => ?_
          replace h := h M62 hM63 hok64
          have hx65 := g_extW hM63
          replace hO1 := hO1.up hx65
          replace hA46 := hA46.up hx65
          replace hA60 := hA60.up hx65
          refine r_goto x_397_136 (t := 204) (by decide +kernel) ?_
          refine r_aload_n x_397_204 rfl ?_
          refine r_iload x_397_205 rfl ?_
          refine r_invV x_397_207 (z := 235) (ns := 0) (by decide +kernel) (as := [g_n v4]) (r := []) rfl rfl rfl hO1 rfl rfl ?_
          refine r_callI h fun r69 M66 hx67 hok68 hr70 h => ?_
          replace h := h hx67 hok68 hr70
          replace hO1 := hO1.up hx67
          replace hA46 := hA46.up hx67
          replace hA60 := hA60.up hx67
          refine r_istore x_397_210 (by decide +kernel) rfl (lv1 := [(0, .ref a0), (1, g_n v1), (2, g_n v2), (3, g_n v3), (4, g_n r69)]) rfl ?_
          refine r_goto x_397_212 (t := 6) (by decide +kernel) ?_
          exact h
    · replace h := h.2 hc
      refine r_aload_n x_397_28 rfl ?_
      refine r_iload x_397_29 rfl ?_
      refine r_invV x_397_31 (z := 233) (ns := 0) (by decide +kernel) (as := [g_n v4]) (r := []) rfl rfl rfl hO1 rfl rfl ?_
      refine r_callI h fun r74 M71 hx72 hok73 hr75 h => ?_
      replace h := h hx72 hok73 hr75
      replace hO1 := hO1.up hx72
      refine r_invS x_397_34 (z := 237) (ns := 0) (by decide +kernel) (as := [g_n r74]) (r := []) rfl rfl rfl ?_
      refine r_callI h fun r79 M76 hx77 hok78 hr80 h => ?_
      replace h := h hx77 hok78 hr80
      replace hO1 := hO1.up hx77
      refine r_istore x_397_37 (by decide +kernel) rfl (lv1 := [(0, .ref a0), (1, g_n v1), (2, g_n v2), (3, g_n v3), (4, g_n v4), (5, g_n r79)]) rfl ?_
      exact h
theorem s_X12_collect_39 {d : Nat} {M : g_M} {Q : g_M → Prop} {a0 : Nat} {v1 : Int} (hv1 : g_InR v1) {v2 : Int} (hv2 : g_InR v2) {v3 : Int} (hv3 : g_InR v3) {v4 : Int} (hv4 : g_InR v4) {v5 : Int} (hv5 : g_InR v5) (h : g_ok M → g_O M a0 12 ∧ g_Call d 233 [.ref a0, g_n v4] M (g_qI fun r5 M2 => g_ext M M2 → g_ok M2 → g_InR r5 → g_Call d 238 [.ref a0, g_n r5] M2 (g_qI fun r10 M7 => g_ext M2 M7 → g_ok M7 → g_InR r10 → ((v5 < r10 → g_Call d 233 [.ref a0, g_n v5] M7 (g_qI fun r20 M17 => g_ext M7 M17 → g_ok M17 → g_InR r20 → g_Call d 397 [.ref a0, g_n r20, g_n v2, g_n v3] M17 (g_qV fun M22 => g_ext M17 M22 → g_ok M22 → g_Call d 235 [.ref a0, g_n v5] M22 (g_qI fun r28 M25 => g_ext M22 M25 → g_ok M25 → g_InR r28 → g_Run d 397 39 [(0, .ref a0), (1, g_n v1), (2, g_n v2), (3, g_n v3), (4, g_n v4), (5, g_n r28)] [] M25 (g_qV Q))))) ∧ (¬ v5 < r10 → g_Call d 235 [.ref a0, g_n v4] M7 (g_qI fun r15 M12 => g_ext M7 M12 → g_ok M12 → g_InR r15 → g_Run d 397 6 [(0, .ref a0), (1, g_n v1), (2, g_n v2), (3, g_n v3), (4, g_n r15)] [] M12 (g_qV Q))))))) : g_Run d 397 39 [(0, .ref a0), (1, g_n v1), (2, g_n v2), (3, g_n v3), (4, g_n v4), (5, g_n v5)] [] M (g_qV Q) := by
  refine g_Run.ok fun hok => ?_
  replace h := h hok
  refine r_iload x_397_39 rfl ?_
  refine r_aload_n x_397_41 rfl ?_
  refine r_aload_n x_397_42 rfl ?_
  refine r_iload x_397_43 rfl ?_
  obtain ⟨hO1, h⟩ := h
  refine r_invV x_397_45 (z := 233) (ns := 0) (by decide +kernel) (as := [g_n v4]) (r := [.ref a0, g_n v5]) rfl rfl rfl hO1 rfl rfl ?_
  refine r_callI h fun r5 M2 hx3 hok4 hr6 h => ?_
  replace h := h hx3 hok4 hr6
  replace hO1 := hO1.up hx3
  refine r_invV x_397_48 (z := 238) (ns := 0) (by decide +kernel) (as := [g_n r5]) (r := [g_n v5]) rfl rfl rfl hO1 rfl rfl ?_
  refine r_callI h fun r10 M7 hx8 hok9 hr11 h => ?_
  replace h := h hx8 hok9 hr11
  replace hO1 := hO1.up hx8
  refine r_ic_ge x_397_51 (t := 77) (by decide +kernel) hv5 hr11 (fun hc => ?_) (fun hc => ?_)
  · replace h := h.2 hc
    refine r_goto x_397_77 (t := 204) (by decide +kernel) ?_
    refine r_aload_n x_397_204 rfl ?_
    refine r_iload x_397_205 rfl ?_
    refine r_invV x_397_207 (z := 235) (ns := 0) (by decide +kernel) (as := [g_n v4]) (r := []) rfl rfl rfl hO1 rfl rfl ?_
    refine r_callI h fun r15 M12 hx13 hok14 hr16 h => ?_
    replace h := h hx13 hok14 hr16
    replace hO1 := hO1.up hx13
    refine r_istore x_397_210 (by decide +kernel) rfl (lv1 := [(0, .ref a0), (1, g_n v1), (2, g_n v2), (3, g_n v3), (4, g_n r15), (5, g_n v5)]) rfl ?_
    refine r_goto x_397_212 (t := 6) (by decide +kernel) ?_
    refine g_drop [0, 1, 2, 3, 4] (lv1 := [(0, .ref a0), (1, g_n v1), (2, g_n v2), (3, g_n v3), (4, g_n r15)]) rfl ?_
    exact h
  · replace h := h.1 hc
    refine r_aload_n x_397_54 rfl ?_
    refine r_aload_n x_397_55 rfl ?_
    refine r_iload x_397_56 rfl ?_
    refine r_invV x_397_58 (z := 233) (ns := 0) (by decide +kernel) (as := [g_n v5]) (r := [.ref a0]) rfl rfl rfl hO1 rfl rfl ?_
    refine r_callI h fun r20 M17 hx18 hok19 hr21 h => ?_
    replace h := h hx18 hok19 hr21
    replace hO1 := hO1.up hx18
    refine r_iload_n x_397_61 rfl ?_
    refine r_iload_n x_397_62 rfl ?_
    refine r_invV x_397_63 (z := 397) (ns := 0) (by decide +kernel) (as := [g_n r20, g_n v2, g_n v3]) (r := []) rfl rfl rfl hO1 rfl rfl ?_
    refine r_callV h fun M22 hx23 hok24 h => ?_
    replace h := h hx23 hok24
    replace hO1 := hO1.up hx23
    refine r_aload_n x_397_66 rfl ?_
    refine r_iload x_397_67 rfl ?_
    refine r_invV x_397_69 (z := 235) (ns := 0) (by decide +kernel) (as := [g_n v5]) (r := []) rfl rfl rfl hO1 rfl rfl ?_
    refine r_callI h fun r28 M25 hx26 hok27 hr29 h => ?_
    replace h := h hx26 hok27 hr29
    replace hO1 := hO1.up hx26
    refine r_istore x_397_72 (by decide +kernel) rfl (lv1 := [(0, .ref a0), (1, g_n v1), (2, g_n v2), (3, g_n v3), (4, g_n v4), (5, g_n r28)]) rfl ?_
    refine r_goto x_397_74 (t := 39) (by decide +kernel) ?_
    exact h
theorem s_X12_collect_150 {d : Nat} {M : g_M} {Q : g_M → Prop} {a0 : Nat} {v1 : Int} (hv1 : g_InR v1) {v2 : Int} (hv2 : g_InR v2) {v3 : Int} (hv3 : g_InR v3) {v4 : Int} (hv4 : g_InR v4) {v5 : Int} (hv5 : g_InR v5) (h : g_ok M → g_O M a0 12 ∧ g_Call d 233 [.ref a0, g_n v4] M (g_qI fun r5 M2 => g_ext M M2 → g_ok M2 → g_InR r5 → g_Call d 238 [.ref a0, g_n r5] M2 (g_qI fun r10 M7 => g_ext M2 M7 → g_ok M7 → g_InR r10 → ((v5 < r10 → ∃ b17, g_r M7 a0 63 = some b17 ∧ ∃ n19, g_A M7 b17 2 n19 ∧ ((0 : Int) ≤ g_i M7 a0 64 ∧ (g_i M7 a0 64 : Int) < n19) ∧ (∀ M22, M22 = g_wi M7 b17 (g_i M7 a0 64) 0 → g_ok M22 → ∃ b26, g_r M22 a0 62 = some b26 ∧ g_InR ((g_i M22 a0 64) + 1) ∧ (∀ M29, M29 = g_wi M22 a0 64 ((g_i M22 a0 64) + 1) → g_ok M29 → ∃ n33, g_A M29 b26 1 n33 ∧ ((0 : Int) ≤ g_i M22 a0 64 ∧ (g_i M22 a0 64 : Int) < n33) ∧ (∀ M36, M36 = g_wi M29 b26 (g_i M22 a0 64) v5 → g_ok M36 → g_Call d 235 [.ref a0, g_n v5] M36 (g_qI fun r43 M40 => g_ext M36 M40 → g_ok M40 → g_InR r43 → g_Run d 397 150 [(0, .ref a0), (1, g_n v1), (2, g_n v2), (3, g_n v3), (4, g_n v4), (5, g_n r43)] [] M40 (g_qV Q)))))) ∧ (¬ v5 < r10 → g_Call d 235 [.ref a0, g_n v4] M7 (g_qI fun r15 M12 => g_ext M7 M12 → g_ok M12 → g_InR r15 → g_Run d 397 6 [(0, .ref a0), (1, g_n v1), (2, g_n v2), (3, g_n v3), (4, g_n r15)] [] M12 (g_qV Q))))))) : g_Run d 397 150 [(0, .ref a0), (1, g_n v1), (2, g_n v2), (3, g_n v3), (4, g_n v4), (5, g_n v5)] [] M (g_qV Q) := by
  refine g_Run.ok fun hok => ?_
  replace h := h hok
  refine r_iload x_397_150 rfl ?_
  refine r_aload_n x_397_152 rfl ?_
  refine r_aload_n x_397_153 rfl ?_
  refine r_iload x_397_154 rfl ?_
  obtain ⟨hO1, h⟩ := h
  refine r_invV x_397_156 (z := 233) (ns := 0) (by decide +kernel) (as := [g_n v4]) (r := [.ref a0, g_n v5]) rfl rfl rfl hO1 rfl rfl ?_
  refine r_callI h fun r5 M2 hx3 hok4 hr6 h => ?_
  replace h := h hx3 hok4 hr6
  replace hO1 := hO1.up hx3
  refine r_invV x_397_159 (z := 238) (ns := 0) (by decide +kernel) (as := [g_n r5]) (r := [g_n v5]) rfl rfl rfl hO1 rfl rfl ?_
  refine r_callI h fun r10 M7 hx8 hok9 hr11 h => ?_
  replace h := h hx8 hok9 hr11
  replace hO1 := hO1.up hx8
  refine r_ic_ge x_397_162 (t := 204) (by decide +kernel) hv5 hr11 (fun hc => ?_) (fun hc => ?_)
  · replace h := h.2 hc
    refine r_aload_n x_397_204 rfl ?_
    refine r_iload x_397_205 rfl ?_
    refine r_invV x_397_207 (z := 235) (ns := 0) (by decide +kernel) (as := [g_n v4]) (r := []) rfl rfl rfl hO1 rfl rfl ?_
    refine r_callI h fun r15 M12 hx13 hok14 hr16 h => ?_
    replace h := h hx13 hok14 hr16
    replace hO1 := hO1.up hx13
    refine r_istore x_397_210 (by decide +kernel) rfl (lv1 := [(0, .ref a0), (1, g_n v1), (2, g_n v2), (3, g_n v3), (4, g_n r15), (5, g_n v5)]) rfl ?_
    refine r_goto x_397_212 (t := 6) (by decide +kernel) ?_
    refine g_drop [0, 1, 2, 3, 4] (lv1 := [(0, .ref a0), (1, g_n v1), (2, g_n v2), (3, g_n v3), (4, g_n r15)]) rfl ?_
    exact h
  · replace h := h.1 hc
    refine r_aload_n x_397_165 rfl ?_
    obtain ⟨b17, hb18, h⟩ := h
    refine r_getR x_397_166 rfl (ci := 12) (k := 63) (ns := 0) (by decide +kernel) (by decide) rfl (kz := 63) rfl hO1 hb18 ?_
    refine r_aload_n x_397_169 rfl ?_
    refine r_getI x_397_170 rfl (ci := 12) (k := 64) (ns := 0) (by decide +kernel) (by decide) rfl (kz := 64) rfl hO1 ?_
    refine r_iconst x_397_173 ?_
    obtain ⟨n19, hA20, h⟩ := h
    obtain ⟨h21, h⟩ := h
    refine r_bast2 x_397_174 hA20 (hok9.1 _ _) h21.1 h21.2 (Or.inl rfl) ?_
    obtain ⟨M22, hM23⟩ : ∃ Mz, Mz = g_wi M7 b17 (g_i M7 a0 64) 0 := ⟨_, rfl⟩
    rw [← hM23]
    refine g_Run.ok fun hok24 => ?_
    replace h := h M22 hM23 hok24
    have hx25 := g_extW hM23
    replace hO1 := hO1.up hx25
    replace hA20 := hA20.up hx25
    refine r_aload_n x_397_175 rfl ?_
    obtain ⟨b26, hb27, h⟩ := h
    refine r_getR x_397_176 rfl (ci := 12) (k := 62) (ns := 0) (by decide +kernel) (by decide) rfl (kz := 62) rfl hO1 hb27 ?_
    refine r_aload_n x_397_179 rfl ?_
    refine r_dup x_397_180 rfl ?_
    refine r_getI x_397_181 rfl (ci := 12) (k := 64) (ns := 0) (by decide +kernel) (by decide) rfl (kz := 64) rfl hO1 ?_
    refine r_dup_x1 x_397_184 rfl rfl ?_
    refine r_iconst x_397_185 ?_
    refine r_iadd x_397_186 ?_
    obtain ⟨h28, h⟩ := h
    refine r_putI x_397_187 (ci := 12) (k := 64) (ns := 0) (by decide +kernel) (by decide) (g_f0 (by decide +kernel)) rfl h28 trivial (kz := 64) rfl hO1 ?_
    obtain ⟨M29, hM30⟩ : ∃ Mz, Mz = g_wi M22 a0 64 ((g_i M22 a0 64) + 1) := ⟨_, rfl⟩
    rw [← hM30]
    refine g_Run.ok fun hok31 => ?_
    replace h := h M29 hM30 hok31
    have hx32 := g_extW hM30
    replace hO1 := hO1.up hx32
    replace hA20 := hA20.up hx32
    refine r_iload x_397_190 rfl ?_
    obtain ⟨n33, hA34, h⟩ := h
    obtain ⟨h35, h⟩ := h
    refine r_iast x_397_192 hA34 (hok24.1 _ _) h35.1 h35.2 hv5 ?_
    obtain ⟨M36, hM37⟩ : ∃ Mz, Mz = g_wi M29 b26 (g_i M22 a0 64) v5 := ⟨_, rfl⟩
    rw [← hM37]
    refine g_Run.ok fun hok38 => ?_
    replace h := h M36 hM37 hok38
    have hx39 := g_extW hM37
    replace hO1 := hO1.up hx39
    replace hA20 := hA20.up hx39
    replace hA34 := hA34.up hx39
    refine r_aload_n x_397_193 rfl ?_
    refine r_iload x_397_194 rfl ?_
    refine r_invV x_397_196 (z := 235) (ns := 0) (by decide +kernel) (as := [g_n v5]) (r := []) rfl rfl rfl hO1 rfl rfl ?_
    refine r_callI h fun r43 M40 hx41 hok42 hr44 h => ?_
    replace h := h hx41 hok42 hr44
    replace hO1 := hO1.up hx41
    replace hA20 := hA20.up hx41
    replace hA34 := hA34.up hx41
    refine r_istore x_397_199 (by decide +kernel) rfl (lv1 := [(0, .ref a0), (1, g_n v1), (2, g_n v2), (3, g_n v3), (4, g_n v4), (5, g_n r43)]) rfl ?_
    refine r_goto x_397_201 (t := 150) (by decide +kernel) ?_
    exact h
theorem m_X12_bounds {d : Nat} {M : g_M} {Q : Int → g_M → Prop} {a0 : Nat} {v1 : Int} (hv1 : g_InR v1) {v2 : Int} (hv2 : g_InR v2) {v3 : Int} (hv3 : g_InR v3) (h : g_ok M → g_O M a0 12 ∧ (∀ M2, M2 = g_wi M a0 64 0 → g_ok M2 → g_Call d 358 [.ref a0, g_n v2, g_n v3] M2 (g_qI fun r9 M6 => g_ext M2 M6 → g_ok M6 → g_InR r9 → ∃ b11, g_r M6 a0 37 = some b11 ∧ g_InR (2 * v2) ∧ g_InR ((2 * v2) + v3) ∧ ∃ n15, g_A M6 b11 1 n15 ∧ ((0 : Int) ≤ (2 * v2) + v3 ∧ ((2 * v2) + v3 : Int) < n15) ∧ g_Call d 397 [.ref a0, g_n v1, g_n r9, g_n (g_i M6 b11 ((2 * v2) + v3))] M6 (g_qV fun M18 => g_ext M6 M18 → g_ok M18 → ∃ b21, g_r M18 a0 39 = some b21 ∧ g_InR (2 * v2) ∧ g_InR ((2 * v2) + v3) ∧ ∃ n25, g_A M18 b21 2 n25 ∧ ((0 : Int) ≤ (2 * v2) + v3 ∧ ((2 * v2) + v3 : Int) < n25) ∧ ((g_i M18 b21 ((2 * v2) + v3) = 0 → g_Run d 398 192 [(0, .ref a0), (1, g_n v1), (2, g_n v2), (3, g_n v3), (4, g_n (g_i M18 a0 61)), (5, g_n 0), (6, g_n 0)] [] M18 (g_qI Q)) ∧ (¬ g_i M18 b21 ((2 * v2) + v3) = 0 → g_Run d 398 51 [(0, .ref a0), (1, g_n v1), (2, g_n v2), (3, g_n v3), (4, g_n (g_i M18 a0 61)), (5, g_n 0), (6, g_n 0)] [] M18 (g_qI Q))))))) : g_Call (d + 1) 398 [.ref a0, g_n v1, g_n v2, g_n v3] M (g_qI Q) := by
  refine g_Call.ok fun hok0 => ?_
  replace h := h hok0
  refine r_body rfl (lv := [(0, .ref a0), (1, g_n v1), (2, g_n v2), (3, g_n v3)]) rfl ?_
  refine g_Run.ok fun hok => ?_
  refine r_aload_n x_398_0 rfl ?_
  refine r_iconst x_398_1 ?_
  obtain ⟨hO1, h⟩ := h
  refine r_putI x_398_2 (ci := 12) (k := 64) (ns := 0) (by decide +kernel) (by decide) (g_f0 (by decide +kernel)) rfl (g_Rk rfl) trivial (kz := 64) rfl hO1 ?_
  obtain ⟨M2, hM3⟩ : ∃ Mz, Mz = g_wi M a0 64 0 := ⟨_, rfl⟩
  rw [← hM3]
  refine g_Run.ok fun hok4 => ?_
  replace h := h M2 hM3 hok4
  have hx5 := g_extW hM3
  replace hO1 := hO1.up hx5
  refine r_aload_n x_398_5 rfl ?_
  refine r_iload_n x_398_6 rfl ?_
  refine r_aload_n x_398_7 rfl ?_
  refine r_iload_n x_398_8 rfl ?_
  refine r_iload_n x_398_9 rfl ?_
  refine r_invV x_398_10 (z := 358) (ns := 0) (by decide +kernel) (as := [g_n v2, g_n v3]) (r := [g_n v1, .ref a0]) rfl rfl rfl hO1 rfl rfl ?_
  refine r_callI h fun r9 M6 hx7 hok8 hr10 h => ?_
  replace h := h hx7 hok8 hr10
  replace hO1 := hO1.up hx7
  refine r_aload_n x_398_13 rfl ?_
  obtain ⟨b11, hb12, h⟩ := h
  refine r_getR x_398_14 rfl (ci := 12) (k := 37) (ns := 0) (by decide +kernel) (by decide) rfl (kz := 37) rfl hO1 hb12 ?_
  refine r_iconst x_398_17 ?_
  refine r_iload_n x_398_18 rfl ?_
  refine r_imul x_398_19 ?_
  obtain ⟨h13, h⟩ := h
  refine r_iload_n x_398_20 rfl ?_
  refine r_iadd x_398_21 ?_
  obtain ⟨h14, h⟩ := h
  obtain ⟨n15, hA16, h⟩ := h
  obtain ⟨h17, h⟩ := h
  refine r_iald x_398_22 hA16 h14 h17.1 h17.2 ?_
  refine r_invV x_398_23 (z := 397) (ns := 0) (by decide +kernel) (as := [g_n v1, g_n r9, g_n (g_i M6 b11 ((2 * v2) + v3))]) (r := []) rfl rfl rfl hO1 rfl rfl ?_
  refine r_callV h fun M18 hx19 hok20 h => ?_
  replace h := h hx19 hok20
  replace hO1 := hO1.up hx19
  replace hA16 := hA16.up hx19
  refine r_aload_n x_398_26 rfl ?_
  refine r_getI x_398_27 rfl (ci := 12) (k := 61) (ns := 0) (by decide +kernel) (by decide) rfl (kz := 61) rfl hO1 ?_
  refine r_istore x_398_30 (by decide +kernel) rfl (lv1 := [(0, .ref a0), (1, g_n v1), (2, g_n v2), (3, g_n v3), (4, g_n (g_i M18 a0 61))]) rfl ?_
  refine r_iconst x_398_32 ?_
  refine r_istore x_398_33 (by decide +kernel) rfl (lv1 := [(0, .ref a0), (1, g_n v1), (2, g_n v2), (3, g_n v3), (4, g_n (g_i M18 a0 61)), (5, g_n 0)]) rfl ?_
  refine r_aload_n x_398_35 rfl ?_
  obtain ⟨b21, hb22, h⟩ := h
  refine r_getR x_398_36 rfl (ci := 12) (k := 39) (ns := 0) (by decide +kernel) (by decide) rfl (kz := 39) rfl hO1 hb22 ?_
  refine r_iconst x_398_39 ?_
  refine r_iload_n x_398_40 rfl ?_
  refine r_imul x_398_41 ?_
  obtain ⟨h23, h⟩ := h
  refine r_iload_n x_398_42 rfl ?_
  refine r_iadd x_398_43 ?_
  obtain ⟨h24, h⟩ := h
  obtain ⟨n25, hA26, h⟩ := h
  obtain ⟨h27, h⟩ := h
  refine r_bald x_398_44 (Or.inr rfl) hA26 h24 h27.1 h27.2 ?_
  refine r_if_eq x_398_45 (t := 189) (by decide +kernel) (hok20.1 _ _) (fun hc => ?_) (fun hc => ?_)
  · replace h := h.1 hc
    refine r_iconst x_398_189 ?_
    refine r_istore x_398_190 (by decide +kernel) rfl (lv1 := [(0, .ref a0), (1, g_n v1), (2, g_n v2), (3, g_n v3), (4, g_n (g_i M18 a0 61)), (5, g_n 0), (6, g_n 0)]) rfl ?_
    exact h
  · replace h := h.2 hc
    refine r_iconst x_398_48 ?_
    refine r_istore x_398_49 (by decide +kernel) rfl (lv1 := [(0, .ref a0), (1, g_n v1), (2, g_n v2), (3, g_n v3), (4, g_n (g_i M18 a0 61)), (5, g_n 0), (6, g_n 0)]) rfl ?_
    exact h
theorem s_X12_bounds_51 {d : Nat} {M : g_M} {Q : Int → g_M → Prop} {a0 : Nat} {v1 : Int} (hv1 : g_InR v1) {v2 : Int} (hv2 : g_InR v2) {v3 : Int} (hv3 : g_InR v3) {v4 : Int} (hv4 : g_InR v4) {v5 : Int} (hv5 : g_InR v5) {v6 : Int} (hv6 : g_InR v6) (h : g_ok M → g_O M a0 12 ∧ ((v6 < g_i M a0 64 → ((v5 = 0 → ∃ b2, g_r M a0 63 = some b2 ∧ ∃ n4, g_A M b2 2 n4 ∧ ((0 : Int) ≤ v6 ∧ (v6 : Int) < n4) ∧ ((g_i M b2 v6 = 0 → ∃ b7, g_r M a0 62 = some b7 ∧ ∃ n9, g_A M b7 1 n9 ∧ ((0 : Int) ≤ v6 ∧ (v6 : Int) < n9) ∧ g_Call d 236 [.ref a0, g_n (g_i M b7 v6), .ref (4 * 97 + 1)] M (g_qI fun r15 M12 => g_ext M M12 → g_ok M12 → g_InR r15 → ((r15 = 0 → ∃ b17, g_r M12 a0 62 = some b17 ∧ ∃ n19, g_A M12 b17 1 n19 ∧ ((0 : Int) ≤ v6 ∧ (v6 : Int) < n19) ∧ g_Call d 236 [.ref a0, g_n (g_i M12 b17 v6), .ref (4 * 99 + 1)] M12 (g_qI fun r25 M22 => g_ext M12 M22 → g_ok M22 → g_InR r25 → ((r25 = 0 → g_InR (v6 + 1) ∧ g_Run d 398 51 [(0, .ref a0), (1, g_n v1), (2, g_n v2), (3, g_n v3), (4, g_n v4), (5, g_n 0), (6, g_n (v6 + 1))] [] M22 (g_qI Q)) ∧ (¬ r25 = 0 → g_Run d 398 109 [(0, .ref a0), (1, g_n v1), (2, g_n v2), (3, g_n v3), (4, g_n v4), (5, g_n v5), (6, g_n v6)] [] M22 (g_qI Q))))) ∧ (¬ r15 = 0 → g_Run d 398 109 [(0, .ref a0), (1, g_n v1), (2, g_n v2), (3, g_n v3), (4, g_n v4), (5, g_n v5), (6, g_n v6)] [] M12 (g_qI Q))))) ∧ (¬ g_i M b2 v6 = 0 → g_Run d 398 109 [(0, .ref a0), (1, g_n v1), (2, g_n v2), (3, g_n v3), (4, g_n v4), (5, g_n v5), (6, g_n v6)] [] M (g_qI Q)))) ∧ (¬ v5 = 0 → g_Run d 398 146 [(0, .ref a0), (1, g_n v1), (2, g_n v2), (3, g_n v3), (4, g_n v4), (5, g_n v5), (6, g_n 0)] [] M (g_qI Q)))) ∧ (¬ v6 < g_i M a0 64 → g_Run d 398 146 [(0, .ref a0), (1, g_n v1), (2, g_n v2), (3, g_n v3), (4, g_n v4), (5, g_n v5), (6, g_n 0)] [] M (g_qI Q)))) : g_Run d 398 51 [(0, .ref a0), (1, g_n v1), (2, g_n v2), (3, g_n v3), (4, g_n v4), (5, g_n v5), (6, g_n v6)] [] M (g_qI Q) := by
  refine g_Run.ok fun hok => ?_
  replace h := h hok
  refine r_iload x_398_51 rfl ?_
  refine r_aload_n x_398_53 rfl ?_
  obtain ⟨hO1, h⟩ := h
  refine r_getI x_398_54 rfl (ci := 12) (k := 64) (ns := 0) (by decide +kernel) (by decide) rfl (kz := 64) rfl hO1 ?_
  refine r_ic_ge x_398_57 (t := 143) (by decide +kernel) hv6 (hok.1 _ _) (fun hc => ?_) (fun hc => ?_)
  · replace h := h.2 hc
    refine r_iconst x_398_143 ?_
    refine r_istore x_398_144 (by decide +kernel) rfl (lv1 := [(0, .ref a0), (1, g_n v1), (2, g_n v2), (3, g_n v3), (4, g_n v4), (5, g_n v5), (6, g_n 0)]) rfl ?_
    exact h
  · replace h := h.1 hc
    refine r_iload x_398_60 rfl ?_
    refine r_if_ne x_398_62 (t := 143) (by decide +kernel) hv5 (fun hc => ?_) (fun hc => ?_)
    · replace h := h.2 hc
      refine r_iconst x_398_143 ?_
      refine r_istore x_398_144 (by decide +kernel) rfl (lv1 := [(0, .ref a0), (1, g_n v1), (2, g_n v2), (3, g_n v3), (4, g_n v4), (5, g_n v5), (6, g_n 0)]) rfl ?_
      exact h
    · replace h := h.1 hc
      refine r_aload_n x_398_65 rfl ?_
      obtain ⟨b2, hb3, h⟩ := h
      refine r_getR x_398_66 rfl (ci := 12) (k := 63) (ns := 0) (by decide +kernel) (by decide) rfl (kz := 63) rfl hO1 hb3 ?_
      refine r_iload x_398_69 rfl ?_
      obtain ⟨n4, hA5, h⟩ := h
      obtain ⟨h6, h⟩ := h
      refine r_bald x_398_71 (Or.inr rfl) hA5 hv6 h6.1 h6.2 ?_
      refine r_if_ne x_398_72 (t := 109) (by decide +kernel) (hok.1 _ _) (fun hc => ?_) (fun hc => ?_)
      · replace h := h.2 hc
        exact h
      · replace h := h.1 hc
        refine r_aload_n x_398_75 rfl ?_
        refine r_aload_n x_398_76 rfl ?_
        obtain ⟨b7, hb8, h⟩ := h
        refine r_getR x_398_77 rfl (ci := 12) (k := 62) (ns := 0) (by decide +kernel) (by decide) rfl (kz := 62) rfl hO1 hb8 ?_
        refine r_iload x_398_80 rfl ?_
        obtain ⟨n9, hA10, h⟩ := h
        obtain ⟨h11, h⟩ := h
        refine r_iald x_398_82 hA10 hv6 h11.1 h11.2 ?_
        refine r_ldcw x_398_83 (v := .ref (4 * 97 + 1)) rfl ?_
        refine r_invV x_398_86 (z := 236) (ns := 0) (by decide +kernel) (as := [g_n (g_i M b7 v6), .ref (4 * 97 + 1)]) (r := []) rfl rfl rfl hO1 rfl rfl ?_
        refine r_callI h fun r15 M12 hx13 hok14 hr16 h => ?_
        replace h := h hx13 hok14 hr16
        replace hO1 := hO1.up hx13
        replace hA5 := hA5.up hx13
        replace hA10 := hA10.up hx13
        refine r_if_ne x_398_89 (t := 109) (by decide +kernel) hr16 (fun hc => ?_) (fun hc => ?_)
        · replace h := h.2 hc
          exact h
        · replace h := h.1 hc
          refine r_aload_n x_398_92 rfl ?_
          refine r_aload_n x_398_93 rfl ?_
          obtain ⟨b17, hb18, h⟩ := h
          refine r_getR x_398_94 rfl (ci := 12) (k := 62) (ns := 0) (by decide +kernel) (by decide) rfl (kz := 62) rfl hO1 hb18 ?_
          refine r_iload x_398_97 rfl ?_
          obtain ⟨n19, hA20, h⟩ := h
          obtain ⟨h21, h⟩ := h
          refine r_iald x_398_99 hA20 hv6 h21.1 h21.2 ?_
          refine r_ldcw x_398_100 (v := .ref (4 * 99 + 1)) rfl ?_
          refine r_invV x_398_103 (z := 236) (ns := 0) (by decide +kernel) (as := [g_n (g_i M12 b17 v6), .ref (4 * 99 + 1)]) (r := []) rfl rfl rfl hO1 rfl rfl ?_
          refine r_callI h fun r25 M22 hx23 hok24 hr26 h => ?_
          replace h := h hx23 hok24 hr26
          replace hO1 := hO1.up hx23
          replace hA5 := hA5.up hx23
          replace hA10 := hA10.up hx23
          replace hA20 := hA20.up hx23
          refine r_if_eq x_398_106 (t := 134) (by decide +kernel) hr26 (fun hc => ?_) (fun hc => ?_)
          · replace h := h.1 hc
            refine r_iconst x_398_134 ?_
            refine r_istore x_398_135 (by decide +kernel) rfl (lv1 := [(0, .ref a0), (1, g_n v1), (2, g_n v2), (3, g_n v3), (4, g_n v4), (5, g_n 0), (6, g_n v6)]) rfl ?_
            obtain ⟨h27, h⟩ := h
            refine r_iinc x_398_137 (by decide +kernel) rfl rfl (lv1 := [(0, .ref a0), (1, g_n v1), (2, g_n v2), (3, g_n v3), (4, g_n v4), (5, g_n 0), (6, g_n (v6 + 1))]) rfl ?_
            refine r_goto x_398_140 (t := 51) (by decide +kernel) ?_
            exact h
          · replace h := h.2 hc
            exact h
theorem s_X12_bounds_109 {d : Nat} {M : g_M} {Q : Int → g_M → Prop} {a0 : Nat} {v1 : Int} (hv1 : g_InR v1) {v2 : Int} (hv2 : g_InR v2) {v3 : Int} (hv3 : g_InR v3) {v4 : Int} (hv4 : g_InR v4) {v5 : Int} (hv5 : g_InR v5) {v6 : Int} (hv6 : g_InR v6) (h : g_ok M → g_O M a0 12 ∧ ∃ b2, g_r M a0 62 = some b2 ∧ ∃ n4, g_A M b2 1 n4 ∧ ((0 : Int) ≤ v6 ∧ (v6 : Int) < n4) ∧ ∃ b7, g_r M a0 63 = some b7 ∧ ∃ n9, g_A M b7 2 n9 ∧ ((0 : Int) ≤ v6 ∧ (v6 : Int) < n9) ∧ g_Call d 394 [.ref a0, g_n (g_i M b2 v6), g_n (g_i M b7 v6)] M (g_qI fun r15 M12 => g_ext M M12 → g_ok M12 → g_InR r15 → ((r15 = 0 → g_InR (v6 + 1) ∧ g_Run d 398 51 [(0, .ref a0), (1, g_n v1), (2, g_n v2), (3, g_n v3), (4, g_n v4), (5, g_n 0), (6, g_n (v6 + 1))] [] M12 (g_qI Q)) ∧ (¬ r15 = 0 → g_InR (v6 + 1) ∧ g_Run d 398 51 [(0, .ref a0), (1, g_n v1), (2, g_n v2), (3, g_n v3), (4, g_n v4), (5, g_n 1), (6, g_n (v6 + 1))] [] M12 (g_qI Q))))) : g_Run d 398 109 [(0, .ref a0), (1, g_n v1), (2, g_n v2), (3, g_n v3), (4, g_n v4), (5, g_n v5), (6, g_n v6)] [] M (g_qI Q) := by
  refine g_Run.ok fun hok => ?_
  replace h := h hok
  refine r_aload_n x_398_109 rfl ?_
  refine r_aload_n x_398_110 rfl ?_
  obtain ⟨hO1, h⟩ := h
  obtain ⟨b2, hb3, h⟩ := h
  refine r_getR x_398_111 rfl (ci := 12) (k := 62) (ns := 0) (by decide +kernel) (by decide) rfl (kz := 62) rfl hO1 hb3 ?_
  refine r_iload x_398_114 rfl ?_
  obtain ⟨n4, hA5, h⟩ := h
  obtain ⟨h6, h⟩ := h
  refine r_iald x_398_116 hA5 hv6 h6.1 h6.2 ?_
  refine r_aload_n x_398_117 rfl ?_
  obtain ⟨b7, hb8, h⟩ := h
  refine r_getR x_398_118 rfl (ci := 12) (k := 63) (ns := 0) (by decide +kernel) (by decide) rfl (kz := 63) rfl hO1 hb8 ?_
  refine r_iload x_398_121 rfl ?_
  obtain ⟨n9, hA10, h⟩ := h
  obtain ⟨h11, h⟩ := h
  refine r_bald x_398_123 (Or.inr rfl) hA10 hv6 h11.1 h11.2 ?_
  refine r_invV x_398_124 (z := 394) (ns := 0) (by decide +kernel) (as := [g_n (g_i M b2 v6), g_n (g_i M b7 v6)]) (r := []) rfl rfl rfl hO1 rfl rfl ?_
  refine r_callI h fun r15 M12 hx13 hok14 hr16 h => ?_
  replace h := h hx13 hok14 hr16
  replace hO1 := hO1.up hx13
  replace hA5 := hA5.up hx13
  replace hA10 := hA10.up hx13
  refine r_if_eq x_398_127 (t := 134) (by decide +kernel) hr16 (fun hc => ?_) (fun hc => ?_)
  · replace h := h.1 hc
    refine r_iconst x_398_134 ?_
    refine r_istore x_398_135 (by decide +kernel) rfl (lv1 := [(0, .ref a0), (1, g_n v1), (2, g_n v2), (3, g_n v3), (4, g_n v4), (5, g_n 0), (6, g_n v6)]) rfl ?_
    obtain ⟨h17, h⟩ := h
    refine r_iinc x_398_137 (by decide +kernel) rfl rfl (lv1 := [(0, .ref a0), (1, g_n v1), (2, g_n v2), (3, g_n v3), (4, g_n v4), (5, g_n 0), (6, g_n (v6 + 1))]) rfl ?_
    refine r_goto x_398_140 (t := 51) (by decide +kernel) ?_
    exact h
  · replace h := h.2 hc
    refine r_iconst x_398_130 ?_
    refine r_goto x_398_131 (t := 135) (by decide +kernel) ?_
    refine r_istore x_398_135 (by decide +kernel) rfl (lv1 := [(0, .ref a0), (1, g_n v1), (2, g_n v2), (3, g_n v3), (4, g_n v4), (5, g_n 1), (6, g_n v6)]) rfl ?_
    obtain ⟨h18, h⟩ := h
    refine r_iinc x_398_137 (by decide +kernel) rfl rfl (lv1 := [(0, .ref a0), (1, g_n v1), (2, g_n v2), (3, g_n v3), (4, g_n v4), (5, g_n 1), (6, g_n (v6 + 1))]) rfl ?_
    refine r_goto x_398_140 (t := 51) (by decide +kernel) ?_
    exact h
theorem s_X12_bounds_146 {d : Nat} {M : g_M} {Q : Int → g_M → Prop} {a0 : Nat} {v1 : Int} (hv1 : g_InR v1) {v2 : Int} (hv2 : g_InR v2) {v3 : Int} (hv3 : g_InR v3) {v4 : Int} (hv4 : g_InR v4) {v5 : Int} (hv5 : g_InR v5) {v6 : Int} (hv6 : g_InR v6) (h : g_ok M → g_O M a0 12 ∧ ((v6 < g_i M a0 64 → ((v5 = 0 → ∃ b2, g_r M a0 62 = some b2 ∧ ∃ n4, g_A M b2 1 n4 ∧ ((0 : Int) ≤ v6 ∧ (v6 : Int) < n4) ∧ ∃ b7, g_r M a0 63 = some b7 ∧ ∃ n9, g_A M b7 2 n9 ∧ ((0 : Int) ≤ v6 ∧ (v6 : Int) < n9) ∧ g_Call d 395 [.ref a0, g_n (g_i M b2 v6), g_n (g_i M b7 v6)] M (g_qI fun r15 M12 => g_ext M M12 → g_ok M12 → g_InR r15 → g_InR (v6 + 1) ∧ g_Run d 398 146 [(0, .ref a0), (1, g_n v1), (2, g_n v2), (3, g_n v3), (4, g_n v4), (5, g_n r15), (6, g_n (v6 + 1))] [] M12 (g_qI Q))) ∧ (¬ v5 = 0 → (v5 = 0 ∨ v5 = 1) ∧ Q v5 M))) ∧ (¬ v6 < g_i M a0 64 → (v5 = 0 ∨ v5 = 1) ∧ Q v5 M))) : g_Run d 398 146 [(0, .ref a0), (1, g_n v1), (2, g_n v2), (3, g_n v3), (4, g_n v4), (5, g_n v5), (6, g_n v6)] [] M (g_qI Q) := by
  refine g_Run.ok fun hok => ?_
  replace h := h hok
  refine r_iload x_398_146 rfl ?_
  refine r_aload_n x_398_148 rfl ?_
  obtain ⟨hO1, h⟩ := h
  refine r_getI x_398_149 rfl (ci := 12) (k := 64) (ns := 0) (by decide +kernel) (by decide) rfl (kz := 64) rfl hO1 ?_
  refine r_ic_ge x_398_152 (t := 186) (by decide +kernel) hv6 (hok.1 _ _) (fun hc => ?_) (fun hc => ?_)
  · replace h := h.2 hc
    refine r_iload x_398_186 rfl ?_
    obtain ⟨hz, h⟩ := h
    exact r_retZ x_398_188 rfl hz h
  · replace h := h.1 hc
    refine r_iload x_398_155 rfl ?_
    refine r_if_ne x_398_157 (t := 186) (by decide +kernel) hv5 (fun hc => ?_) (fun hc => ?_)
    · replace h := h.2 hc
      refine r_iload x_398_186 rfl ?_
      obtain ⟨hz, h⟩ := h
      exact r_retZ x_398_188 rfl hz h
    · replace h := h.1 hc
      refine r_aload_n x_398_160 rfl ?_
      refine r_aload_n x_398_161 rfl ?_
      obtain ⟨b2, hb3, h⟩ := h
      refine r_getR x_398_162 rfl (ci := 12) (k := 62) (ns := 0) (by decide +kernel) (by decide) rfl (kz := 62) rfl hO1 hb3 ?_
      refine r_iload x_398_165 rfl ?_
      obtain ⟨n4, hA5, h⟩ := h
      obtain ⟨h6, h⟩ := h
      refine r_iald x_398_167 hA5 hv6 h6.1 h6.2 ?_
      refine r_aload_n x_398_168 rfl ?_
      obtain ⟨b7, hb8, h⟩ := h
      refine r_getR x_398_169 rfl (ci := 12) (k := 63) (ns := 0) (by decide +kernel) (by decide) rfl (kz := 63) rfl hO1 hb8 ?_
      refine r_iload x_398_172 rfl ?_
      obtain ⟨n9, hA10, h⟩ := h
      obtain ⟨h11, h⟩ := h
      refine r_bald x_398_174 (Or.inr rfl) hA10 hv6 h11.1 h11.2 ?_
      refine r_invV x_398_175 (z := 395) (ns := 0) (by decide +kernel) (as := [g_n (g_i M b2 v6), g_n (g_i M b7 v6)]) (r := []) rfl rfl rfl hO1 rfl rfl ?_
      refine r_callI h fun r15 M12 hx13 hok14 hr16 h => ?_
      replace h := h hx13 hok14 hr16
      replace hO1 := hO1.up hx13
      replace hA5 := hA5.up hx13
      replace hA10 := hA10.up hx13
      refine r_istore x_398_178 (by decide +kernel) rfl (lv1 := [(0, .ref a0), (1, g_n v1), (2, g_n v2), (3, g_n v3), (4, g_n v4), (5, g_n r15), (6, g_n v6)]) rfl ?_
      obtain ⟨h17, h⟩ := h
      refine r_iinc x_398_180 (by decide +kernel) rfl rfl (lv1 := [(0, .ref a0), (1, g_n v1), (2, g_n v2), (3, g_n v3), (4, g_n v4), (5, g_n r15), (6, g_n (v6 + 1))]) rfl ?_
      refine r_goto x_398_183 (t := 146) (by decide +kernel) ?_
      exact h
theorem s_X12_bounds_192 {d : Nat} {M : g_M} {Q : Int → g_M → Prop} {a0 : Nat} {v1 : Int} (hv1 : g_InR v1) {v2 : Int} (hv2 : g_InR v2) {v3 : Int} (hv3 : g_InR v3) {v4 : Int} (hv4 : g_InR v4) {v5 : Int} (hv5 : g_InR v5) {v6 : Int} (hv6 : g_InR v6) (h : g_ok M → g_O M a0 12 ∧ ((v6 < g_i M a0 64 → ∃ b2, g_r M a0 62 = some b2 ∧ ∃ n4, g_A M b2 1 n4 ∧ ((0 : Int) ≤ v6 ∧ (v6 : Int) < n4) ∧ ∃ b7, g_r M a0 63 = some b7 ∧ ∃ n9, g_A M b7 2 n9 ∧ ((0 : Int) ≤ v6 ∧ (v6 : Int) < n9) ∧ g_Call d 395 [.ref a0, g_n (g_i M b2 v6), g_n (g_i M b7 v6)] M (g_qI fun r15 M12 => g_ext M M12 → g_ok M12 → g_InR r15 → ((r15 = 0 → g_InR (v6 + 1) ∧ g_Run d 398 192 [(0, .ref a0), (1, g_n v1), (2, g_n v2), (3, g_n v3), (4, g_n v4), (5, g_n v5), (6, g_n (v6 + 1))] [] M12 (g_qI Q)) ∧ (¬ r15 = 0 → ((v5 = 0 → g_InR (v6 + 1) ∧ g_Run d 398 192 [(0, .ref a0), (1, g_n v1), (2, g_n v2), (3, g_n v3), (4, g_n v4), (5, g_n 1), (6, g_n (v6 + 1))] [] M12 (g_qI Q)) ∧ (¬ v5 = 0 → g_Call d 396 [.ref a0, g_n v4, g_n (g_i M a0 61)] M12 (g_qV fun M18 => g_ext M12 M18 → g_ok M18 → g_InR (v6 + 1) ∧ g_Run d 398 192 [(0, .ref a0), (1, g_n v1), (2, g_n v2), (3, g_n v3), (4, g_n v4), (5, g_n 1), (6, g_n (v6 + 1))] [] M18 (g_qI Q)))))))) ∧ (¬ v6 < g_i M a0 64 → (v5 = 0 ∨ v5 = 1) ∧ Q v5 M))) : g_Run d 398 192 [(0, .ref a0), (1, g_n v1), (2, g_n v2), (3, g_n v3), (4, g_n v4), (5, g_n v5), (6, g_n v6)] [] M (g_qI Q) := by
  refine g_Run.ok fun hok => ?_
  replace h := h hok
  refine r_iload x_398_192 rfl ?_
  refine r_aload_n x_398_194 rfl ?_
  obtain ⟨hO1, h⟩ := h
  refine r_getI x_398_195 rfl (ci := 12) (k := 64) (ns := 0) (by decide +kernel) (by decide) rfl (kz := 64) rfl hO1 ?_
  refine r_ic_ge x_398_198 (t := 253) (by decide +kernel) hv6 (hok.1 _ _) (fun hc => ?_) (fun hc => ?_)
  · replace h := h.2 hc
    refine r_iload x_398_253 rfl ?_
    obtain ⟨hz, h⟩ := h
    exact r_retZ x_398_255 rfl hz h
  · replace h := h.1 hc
    refine r_aload_n x_398_201 rfl ?_
    refine r_getI x_398_202 rfl (ci := 12) (k := 61) (ns := 0) (by decide +kernel) (by decide) rfl (kz := 61) rfl hO1 ?_
    refine r_istore x_398_205 (by decide +kernel) rfl (lv1 := [(0, .ref a0), (1, g_n v1), (2, g_n v2), (3, g_n v3), (4, g_n v4), (5, g_n v5), (6, g_n v6), (7, g_n (g_i M a0 61))]) rfl ?_
    refine r_aload_n x_398_207 rfl ?_
    refine r_aload_n x_398_208 rfl ?_
    obtain ⟨b2, hb3, h⟩ := h
    refine r_getR x_398_209 rfl (ci := 12) (k := 62) (ns := 0) (by decide +kernel) (by decide) rfl (kz := 62) rfl hO1 hb3 ?_
    refine r_iload x_398_212 rfl ?_
    obtain ⟨n4, hA5, h⟩ := h
    obtain ⟨h6, h⟩ := h
    refine r_iald x_398_214 hA5 hv6 h6.1 h6.2 ?_
    refine r_aload_n x_398_215 rfl ?_
    obtain ⟨b7, hb8, h⟩ := h
    refine r_getR x_398_216 rfl (ci := 12) (k := 63) (ns := 0) (by decide +kernel) (by decide) rfl (kz := 63) rfl hO1 hb8 ?_
    refine r_iload x_398_219 rfl ?_
    obtain ⟨n9, hA10, h⟩ := h
    obtain ⟨h11, h⟩ := h
    refine r_bald x_398_221 (Or.inr rfl) hA10 hv6 h11.1 h11.2 ?_
    refine r_invV x_398_222 (z := 395) (ns := 0) (by decide +kernel) (as := [g_n (g_i M b2 v6), g_n (g_i M b7 v6)]) (r := []) rfl rfl rfl hO1 rfl rfl ?_
    refine r_callI h fun r15 M12 hx13 hok14 hr16 h => ?_
    replace h := h hx13 hok14 hr16
    replace hO1 := hO1.up hx13
    replace hA5 := hA5.up hx13
    replace hA10 := hA10.up hx13
    refine r_if_ne x_398_225 (t := 231) (by decide +kernel) hr16 (fun hc => ?_) (fun hc => ?_)
    · replace h := h.2 hc
      refine r_iload x_398_231 rfl ?_
      refine r_if_eq x_398_233 (t := 244) (by decide +kernel) hv5 (fun hc => ?_) (fun hc => ?_)
      · replace h := h.1 hc
        refine r_iconst x_398_244 ?_
        refine r_istore x_398_245 (by decide +kernel) rfl (lv1 := [(0, .ref a0), (1, g_n v1), (2, g_n v2), (3, g_n v3), (4, g_n v4), (5, g_n 1), (6, g_n v6), (7, g_n (g_i M a0 61))]) rfl ?_
        obtain ⟨h17, h⟩ := h
        refine r_iinc x_398_247 (by decide +kernel) rfl rfl (lv1 := [(0, .ref a0), (1, g_n v1), (2, g_n v2), (3, g_n v3), (4, g_n v4), (5, g_n 1), (6, g_n (v6 + 1)), (7, g_n (g_i M a0 61))]) rfl ?_
        refine r_goto x_398_250 (t := 192) (by decide +kernel) ?_
        refine g_drop [0, 1, 2, 3, 4, 5, 6] (lv1 := [(0, .ref a0), (1, g_n v1), (2, g_n v2), (3, g_n v3), (4, g_n v4), (5, g_n 1), (6, g_n (v6 + 1))]) rfl ?_
        exact h
      · replace h := h.2 hc
        refine r_aload_n x_398_236 rfl ?_
        refine r_iload x_398_237 rfl ?_
        refine r_iload x_398_239 rfl ?_
        refine r_invV x_398_241 (z := 396) (ns := 0) (by decide +kernel) (as := [g_n v4, g_n (g_i M a0 61)]) (r := []) rfl rfl rfl hO1 rfl rfl ?_
        refine r_callV h fun M18 hx19 hok20 h => ?_
        replace h := h hx19 hok20
        replace hO1 := hO1.up hx19
        replace hA5 := hA5.up hx19
        replace hA10 := hA10.up hx19
        refine r_iconst x_398_244 ?_
        refine r_istore x_398_245 (by decide +kernel) rfl (lv1 := [(0, .ref a0), (1, g_n v1), (2, g_n v2), (3, g_n v3), (4, g_n v4), (5, g_n 1), (6, g_n v6), (7, g_n (g_i M a0 61))]) rfl ?_
        obtain ⟨h21, h⟩ := h
        refine r_iinc x_398_247 (by decide +kernel) rfl rfl (lv1 := [(0, .ref a0), (1, g_n v1), (2, g_n v2), (3, g_n v3), (4, g_n v4), (5, g_n 1), (6, g_n (v6 + 1)), (7, g_n (g_i M a0 61))]) rfl ?_
        refine r_goto x_398_250 (t := 192) (by decide +kernel) ?_
        refine g_drop [0, 1, 2, 3, 4, 5, 6] (lv1 := [(0, .ref a0), (1, g_n v1), (2, g_n v2), (3, g_n v3), (4, g_n v4), (5, g_n 1), (6, g_n (v6 + 1))]) rfl ?_
        exact h
    · replace h := h.1 hc
      refine r_goto x_398_228 (t := 247) (by decide +kernel) ?_
      obtain ⟨h22, h⟩ := h
      refine r_iinc x_398_247 (by decide +kernel) rfl rfl (lv1 := [(0, .ref a0), (1, g_n v1), (2, g_n v2), (3, g_n v3), (4, g_n v4), (5, g_n v5), (6, g_n (v6 + 1)), (7, g_n (g_i M a0 61))]) rfl ?_
      refine r_goto x_398_250 (t := 192) (by decide +kernel) ?_
      refine g_drop [0, 1, 2, 3, 4, 5, 6] (lv1 := [(0, .ref a0), (1, g_n v1), (2, g_n v2), (3, g_n v3), (4, g_n v4), (5, g_n v5), (6, g_n (v6 + 1))]) rfl ?_
      exact h
theorem m_X12_isPoint {d : Nat} {M : g_M} {Q : Int → g_M → Prop} {a0 : Nat} {v1 : Int} (hv1 : g_InR v1) (h : g_ok M → g_O M a0 12 ∧ ∃ b2, g_r M a0 57 = some b2 ∧ ∃ n4, g_A M b2 1 n4 ∧ ((0 : Int) ≤ v1 ∧ (v1 : Int) < n4) ∧ ((g_i M b2 v1 < 0 → Q 0 M) ∧ (¬ g_i M b2 v1 < 0 → ∃ b7, g_r M a0 58 = some b7 ∧ ∃ n9, g_A M b7 1 n9 ∧ ((0 : Int) ≤ v1 ∧ (v1 : Int) < n9) ∧ ((g_i M b7 v1 < 0 → Q 0 M) ∧ (¬ g_i M b7 v1 < 0 → ∃ b12, g_r M a0 57 = some b12 ∧ ∃ n14, g_A M b12 1 n14 ∧ ((0 : Int) ≤ v1 ∧ (v1 : Int) < n14) ∧ ∃ b17, g_r M a0 58 = some b17 ∧ ∃ n19, g_A M b17 1 n19 ∧ ((0 : Int) ≤ v1 ∧ (v1 : Int) < n19) ∧ g_Call d 271 [.ref a0, g_n (g_i M b12 v1), g_n (g_i M b17 v1)] M (g_qI fun r25 M22 => g_ext M M22 → g_ok M22 → g_InR r25 → ((r25 = 0 → Q 0 M22) ∧ (¬ r25 = 0 → Q 1 M22)))))))) : g_Call (d + 1) 399 [.ref a0, g_n v1] M (g_qI Q) := by
  refine g_Call.ok fun hok0 => ?_
  replace h := h hok0
  refine r_body rfl (lv := [(0, .ref a0), (1, g_n v1)]) rfl ?_
  refine g_Run.ok fun hok => ?_
  refine r_aload_n x_399_0 rfl ?_
  obtain ⟨hO1, h⟩ := h
  obtain ⟨b2, hb3, h⟩ := h
  refine r_getR x_399_1 rfl (ci := 12) (k := 57) (ns := 0) (by decide +kernel) (by decide) rfl (kz := 57) rfl hO1 hb3 ?_
  refine r_iload_n x_399_4 rfl ?_
  obtain ⟨n4, hA5, h⟩ := h
  obtain ⟨h6, h⟩ := h
  refine r_iald x_399_5 hA5 hv1 h6.1 h6.2 ?_
  refine r_if_lt x_399_6 (t := 41) (by decide +kernel) (hok.1 _ _) (fun hc => ?_) (fun hc => ?_)
  · replace h := h.1 hc
    refine r_iconst x_399_41 ?_
    exact r_retZ x_399_42 rfl (Or.inl rfl) h
  · replace h := h.2 hc
    refine r_aload_n x_399_9 rfl ?_
    obtain ⟨b7, hb8, h⟩ := h
    refine r_getR x_399_10 rfl (ci := 12) (k := 58) (ns := 0) (by decide +kernel) (by decide) rfl (kz := 58) rfl hO1 hb8 ?_
    refine r_iload_n x_399_13 rfl ?_
    obtain ⟨n9, hA10, h⟩ := h
    obtain ⟨h11, h⟩ := h
    refine r_iald x_399_14 hA10 hv1 h11.1 h11.2 ?_
    refine r_if_lt x_399_15 (t := 41) (by decide +kernel) (hok.1 _ _) (fun hc => ?_) (fun hc => ?_)
    · replace h := h.1 hc
      refine r_iconst x_399_41 ?_
      exact r_retZ x_399_42 rfl (Or.inl rfl) h
    · replace h := h.2 hc
      refine r_aload_n x_399_18 rfl ?_
      refine r_aload_n x_399_19 rfl ?_
      obtain ⟨b12, hb13, h⟩ := h
      refine r_getR x_399_20 rfl (ci := 12) (k := 57) (ns := 0) (by decide +kernel) (by decide) rfl (kz := 57) rfl hO1 hb13 ?_
      refine r_iload_n x_399_23 rfl ?_
      obtain ⟨n14, hA15, h⟩ := h
      obtain ⟨h16, h⟩ := h
      refine r_iald x_399_24 hA15 hv1 h16.1 h16.2 ?_
      refine r_aload_n x_399_25 rfl ?_
      obtain ⟨b17, hb18, h⟩ := h
      refine r_getR x_399_26 rfl (ci := 12) (k := 58) (ns := 0) (by decide +kernel) (by decide) rfl (kz := 58) rfl hO1 hb18 ?_
      refine r_iload_n x_399_29 rfl ?_
      obtain ⟨n19, hA20, h⟩ := h
      obtain ⟨h21, h⟩ := h
      refine r_iald x_399_30 hA20 hv1 h21.1 h21.2 ?_
      refine r_invV x_399_31 (z := 271) (ns := 0) (by decide +kernel) (as := [g_n (g_i M b12 v1), g_n (g_i M b17 v1)]) (r := []) rfl rfl rfl hO1 rfl rfl ?_
      refine r_callI h fun r25 M22 hx23 hok24 hr26 h => ?_
      replace h := h hx23 hok24 hr26
      replace hO1 := hO1.up hx23
      replace hA5 := hA5.up hx23
      replace hA10 := hA10.up hx23
      replace hA15 := hA15.up hx23
      replace hA20 := hA20.up hx23
      refine r_if_eq x_399_34 (t := 41) (by decide +kernel) hr26 (fun hc => ?_) (fun hc => ?_)
      · replace h := h.1 hc
        refine r_iconst x_399_41 ?_
        exact r_retZ x_399_42 rfl (Or.inl rfl) h
      · replace h := h.2 hc
        refine r_iconst x_399_37 ?_
        refine r_goto x_399_38 (t := 42) (by decide +kernel) ?_
        exact r_retZ x_399_42 rfl (Or.inr rfl) h
theorem m_X12_isWithin {d : Nat} {M : g_M} {Q : Int → g_M → Prop} {a0 : Nat} {v1 : Int} (hv1 : g_InR v1) {v2 : Int} (hv2 : g_InR v2) {v3 : Int} (hv3 : g_InR v3) (h : g_ok M → g_Run d 400 3 [(0, .ref a0), (1, g_n v1), (2, g_n v2), (3, g_n v3), (4, g_n v2)] [] M (g_qI Q)) : g_Call (d + 1) 400 [.ref a0, g_n v1, g_n v2, g_n v3] M (g_qI Q) := by
  refine g_Call.ok fun hok0 => ?_
  replace h := h hok0
  refine r_body rfl (lv := [(0, .ref a0), (1, g_n v1), (2, g_n v2), (3, g_n v3)]) rfl ?_
  refine g_Run.ok fun hok => ?_
  refine r_iload_n x_400_0 rfl ?_
  refine r_istore x_400_1 (by decide +kernel) rfl (lv1 := [(0, .ref a0), (1, g_n v1), (2, g_n v2), (3, g_n v3), (4, g_n v2)]) rfl ?_
  exact h
theorem s_X12_isWithin_3 {d : Nat} {M : g_M} {Q : Int → g_M → Prop} {a0 : Nat} {v1 : Int} (hv1 : g_InR v1) {v2 : Int} (hv2 : g_InR v2) {v3 : Int} (hv3 : g_InR v3) {v4 : Int} (hv4 : g_InR v4) (h : g_ok M → ((v4 < v3 → g_O M a0 12 ∧ ∃ b2, g_r M a0 57 = some b2 ∧ ∃ n4, g_A M b2 1 n4 ∧ ((0 : Int) ≤ v4 ∧ (v4 : Int) < n4) ∧ g_Call d 391 [.ref a0, g_n (g_i M b2 v4), g_n v1] M (g_qI fun r10 M7 => g_ext M M7 → g_ok M7 → g_InR r10 → ∃ b12, g_r M7 a0 58 = some b12 ∧ ∃ n14, g_A M7 b12 1 n14 ∧ ((0 : Int) ≤ v4 ∧ (v4 : Int) < n14) ∧ g_Call d 391 [.ref a0, g_n v1, g_n (g_i M7 b12 v4)] M7 (g_qI fun r20 M17 => g_ext M7 M17 → g_ok M17 → g_InR r20 → ((r10 < 0 → g_Run d 400 57 [(0, .ref a0), (1, g_n v1), (2, g_n v2), (3, g_n v3), (4, g_n v4), (5, g_n r10), (6, g_n r20)] [] M17 (g_qI Q)) ∧ (¬ r10 < 0 → ((r10 = 0 → ∃ b23, g_r M17 a0 59 = some b23 ∧ ∃ n25, g_A M17 b23 2 n25 ∧ ((0 : Int) ≤ v4 ∧ (v4 : Int) < n25) ∧ ((g_i M17 b23 v4 = 0 → g_InR (v4 + 1) ∧ g_Run d 400 3 [(0, .ref a0), (1, g_n v1), (2, g_n v2), (3, g_n v3), (4, g_n (v4 + 1))] [] M17 (g_qI Q)) ∧ (¬ g_i M17 b23 v4 = 0 → g_Run d 400 57 [(0, .ref a0), (1, g_n v1), (2, g_n v2), (3, g_n v3), (4, g_n v4), (5, g_n r10), (6, g_n r20)] [] M17 (g_qI Q)))) ∧ (¬ r10 = 0 → g_InR (v4 + 1) ∧ g_Run d 400 3 [(0, .ref a0), (1, g_n v1), (2, g_n v2), (3, g_n v3), (4, g_n (v4 + 1))] [] M17 (g_qI Q)))))))) ∧ (¬ v4 < v3 → Q 0 M))) : g_Run d 400 3 [(0, .ref a0), (1, g_n v1), (2, g_n v2), (3, g_n v3), (4, g_n v4)] [] M (g_qI Q) := by
  refine g_Run.ok fun hok => ?_
  replace h := h hok
  refine r_iload x_400_3 rfl ?_
  refine r_iload_n x_400_5 rfl ?_
  refine r_ic_ge x_400_6 (t := 85) (by decide +kernel) hv4 hv3 (fun hc => ?_) (fun hc => ?_)
  · replace h := h.2 hc
    refine r_iconst x_400_85 ?_
    exact r_retZ x_400_86 rfl (Or.inl rfl) h
  · replace h := h.1 hc
    refine r_aload_n x_400_9 rfl ?_
    refine r_aload_n x_400_10 rfl ?_
    obtain ⟨hO1, h⟩ := h
    obtain ⟨b2, hb3, h⟩ := h
    refine r_getR x_400_11 rfl (ci := 12) (k := 57) (ns := 0) (by decide +kernel) (by decide) rfl (kz := 57) rfl hO1 hb3 ?_
    refine r_iload x_400_14 rfl ?_
    obtain ⟨n4, hA5, h⟩ := h
    obtain ⟨h6, h⟩ := h
    refine r_iald x_400_16 hA5 hv4 h6.1 h6.2 ?_
    refine r_iload_n x_400_17 rfl ?_
    refine r_invV x_400_18 (z := 391) (ns := 0) (by decide +kernel) (as := [g_n (g_i M b2 v4), g_n v1]) (r := []) rfl rfl rfl hO1 rfl rfl ?_
    refine r_callI h fun r10 M7 hx8 hok9 hr11 h => ?_
    replace h := h hx8 hok9 hr11
    replace hO1 := hO1.up hx8
    replace hA5 := hA5.up hx8
    refine r_istore x_400_21 (by decide +kernel) rfl (lv1 := [(0, .ref a0), (1, g_n v1), (2, g_n v2), (3, g_n v3), (4, g_n v4), (5, g_n r10)]) rfl ?_
    refine r_aload_n x_400_23 rfl ?_
    refine r_iload_n x_400_24 rfl ?_
    refine r_aload_n x_400_25 rfl ?_
    obtain ⟨b12, hb13, h⟩ := h
    refine r_getR x_400_26 rfl (ci := 12) (k := 58) (ns := 0) (by decide +kernel) (by decide) rfl (kz := 58) rfl hO1 hb13 ?_
    refine r_iload x_400_29 rfl ?_
    obtain ⟨n14, hA15, h⟩ := h
    obtain ⟨h16, h⟩ := h
    refine r_iald x_400_31 hA15 hv4 h16.1 h16.2 ?_
    refine r_invV x_400_32 (z := 391) (ns := 0) (by decide +kernel) (as := [g_n v1, g_n (g_i M7 b12 v4)]) (r := []) rfl rfl rfl hO1 rfl rfl ?_
    refine r_callI h fun r20 M17 hx18 hok19 hr21 h => ?_
    replace h := h hx18 hok19 hr21
    replace hO1 := hO1.up hx18
    replace hA5 := hA5.up hx18
    replace hA15 := hA15.up hx18
    refine r_istore x_400_35 (by decide +kernel) rfl (lv1 := [(0, .ref a0), (1, g_n v1), (2, g_n v2), (3, g_n v3), (4, g_n v4), (5, g_n r10), (6, g_n r20)]) rfl ?_
    refine r_iload x_400_37 rfl ?_
    refine r_if_lt x_400_39 (t := 57) (by decide +kernel) hr11 (fun hc => ?_) (fun hc => ?_)
    · replace h := h.1 hc
      exact h
    · replace h := h.2 hc
      refine r_iload x_400_42 rfl ?_
      refine r_if_ne x_400_44 (t := 79) (by decide +kernel) hr11 (fun hc => ?_) (fun hc => ?_)
      · replace h := h.2 hc
        obtain ⟨h22, h⟩ := h
        refine r_iinc x_400_79 (by decide +kernel) rfl rfl (lv1 := [(0, .ref a0), (1, g_n v1), (2, g_n v2), (3, g_n v3), (4, g_n (v4 + 1)), (5, g_n r10), (6, g_n r20)]) rfl ?_
        refine r_goto x_400_82 (t := 3) (by decide +kernel) ?_
        refine g_drop [0, 1, 2, 3, 4] (lv1 := [(0, .ref a0), (1, g_n v1), (2, g_n v2), (3, g_n v3), (4, g_n (v4 + 1))]) rfl ?_
        exact h
      · replace h := h.1 hc
        refine r_aload_n x_400_47 rfl ?_
        obtain ⟨b23, hb24, h⟩ := h
        refine r_getR x_400_48 rfl (ci := 12) (k := 59) (ns := 0) (by decide +kernel) (by decide) rfl (kz := 59) rfl hO1 hb24 ?_
        refine r_iload x_400_51 rfl ?_
        obtain ⟨n25, hA26, h⟩ := h
        obtain ⟨h27, h⟩ := h
        refine r_bald x_400_53 (Or.inr rfl) hA26 hv4 h27.1 h27.2 ?_
        refine r_if_eq x_400_54 (t := 79) (by decide +kernel) (hok19.1 _ _) (fun hc => ?_) (fun hc => ?_)
        · replace h := h.1 hc
          obtain ⟨h28, h⟩ := h
          refine r_iinc x_400_79 (by decide +kernel) rfl rfl (lv1 := [(0, .ref a0), (1, g_n v1), (2, g_n v2), (3, g_n v3), (4, g_n (v4 + 1)), (5, g_n r10), (6, g_n r20)]) rfl ?_
          refine r_goto x_400_82 (t := 3) (by decide +kernel) ?_
          refine g_drop [0, 1, 2, 3, 4] (lv1 := [(0, .ref a0), (1, g_n v1), (2, g_n v2), (3, g_n v3), (4, g_n (v4 + 1))]) rfl ?_
          exact h
        · replace h := h.2 hc
          exact h
theorem s_X12_isWithin_57 {d : Nat} {M : g_M} {Q : Int → g_M → Prop} {a0 : Nat} {v1 : Int} (hv1 : g_InR v1) {v2 : Int} (hv2 : g_InR v2) {v3 : Int} (hv3 : g_InR v3) {v4 : Int} (hv4 : g_InR v4) {v5 : Int} (hv5 : g_InR v5) {v6 : Int} (hv6 : g_InR v6) (h : g_ok M → ((v6 < 0 → Q 1 M) ∧ (¬ v6 < 0 → ((v6 = 0 → g_O M a0 12 ∧ ∃ b3, g_r M a0 60 = some b3 ∧ ∃ n5, g_A M b3 2 n5 ∧ ((0 : Int) ≤ v4 ∧ (v4 : Int) < n5) ∧ ((g_i M b3 v4 = 0 → g_InR (v4 + 1) ∧ g_Run d 400 3 [(0, .ref a0), (1, g_n v1), (2, g_n v2), (3, g_n v3), (4, g_n (v4 + 1))] [] M (g_qI Q)) ∧ (¬ g_i M b3 v4 = 0 → Q 1 M))) ∧ (¬ v6 = 0 → g_InR (v4 + 1) ∧ g_Run d 400 3 [(0, .ref a0), (1, g_n v1), (2, g_n v2), (3, g_n v3), (4, g_n (v4 + 1))] [] M (g_qI Q)))))) : g_Run d 400 57 [(0, .ref a0), (1, g_n v1), (2, g_n v2), (3, g_n v3), (4, g_n v4), (5, g_n v5), (6, g_n v6)] [] M (g_qI Q) := by
  refine g_Run.ok fun hok => ?_
  replace h := h hok
  refine r_iload x_400_57 rfl ?_
  refine r_if_lt x_400_59 (t := 77) (by decide +kernel) hv6 (fun hc => ?_) (fun hc => ?_)
  · replace h := h.1 hc
    refine r_iconst x_400_77 ?_
    exact r_retZ x_400_78 rfl (Or.inr rfl) h
  · replace h := h.2 hc
    refine r_iload x_400_62 rfl ?_
    refine r_if_ne x_400_64 (t := 79) (by decide +kernel) hv6 (fun hc => ?_) (fun hc => ?_)
    · replace h := h.2 hc
      obtain ⟨h1, h⟩ := h
      refine r_iinc x_400_79 (by decide +kernel) rfl rfl (lv1 := [(0, .ref a0), (1, g_n v1), (2, g_n v2), (3, g_n v3), (4, g_n (v4 + 1)), (5, g_n v5), (6, g_n v6)]) rfl ?_
      refine r_goto x_400_82 (t := 3) (by decide +kernel) ?_
      refine g_drop [0, 1, 2, 3, 4] (lv1 := [(0, .ref a0), (1, g_n v1), (2, g_n v2), (3, g_n v3), (4, g_n (v4 + 1))]) rfl ?_
      exact h
    · replace h := h.1 hc
      refine r_aload_n x_400_67 rfl ?_
      obtain ⟨hO2, h⟩ := h
      obtain ⟨b3, hb4, h⟩ := h
      refine r_getR x_400_68 rfl (ci := 12) (k := 60) (ns := 0) (by decide +kernel) (by decide) rfl (kz := 60) rfl hO2 hb4 ?_
      refine r_iload x_400_71 rfl ?_
      obtain ⟨n5, hA6, h⟩ := h
      obtain ⟨h7, h⟩ := h
      refine r_bald x_400_73 (Or.inr rfl) hA6 hv4 h7.1 h7.2 ?_
      refine r_if_eq x_400_74 (t := 79) (by decide +kernel) (hok.1 _ _) (fun hc => ?_) (fun hc => ?_)
      · replace h := h.1 hc
        obtain ⟨h8, h⟩ := h
        refine r_iinc x_400_79 (by decide +kernel) rfl rfl (lv1 := [(0, .ref a0), (1, g_n v1), (2, g_n v2), (3, g_n v3), (4, g_n (v4 + 1)), (5, g_n v5), (6, g_n v6)]) rfl ?_
        refine r_goto x_400_82 (t := 3) (by decide +kernel) ?_
        refine g_drop [0, 1, 2, 3, 4] (lv1 := [(0, .ref a0), (1, g_n v1), (2, g_n v2), (3, g_n v3), (4, g_n (v4 + 1))]) rfl ?_
        exact h
      · replace h := h.2 hc
        refine r_iconst x_400_77 ?_
        exact r_retZ x_400_78 rfl (Or.inr rfl) h
theorem m_X12_weigh {d : Nat} {M : g_M} {Q : g_M → Prop} {a0 : Nat} {v1 : Int} (hv1 : g_InR v1) {v2 : Int} (hv2 : g_InR v2) (h : g_ok M → g_O M a0 12 ∧ (∀ M2, M2 = g_wi M a0 61 0 → g_ok M2 → (∀ M6, M6 = g_wi M2 a0 65 0 → g_ok M6 → (∀ M10, M10 = g_wi M6 a0 66 1 → g_ok M10 → g_Call d 398 [.ref a0, g_n v1, g_n v2, g_n 0] M10 (g_qI fun r17 M14 => g_ext M10 M14 → g_ok M14 → g_InR r17 → (∀ M19, M19 = g_wi M14 a0 67 (g_i M14 a0 61) → g_ok M19 → ((r17 = 0 → Q M19) ∧ (¬ r17 = 0 → (∀ M23, M23 = g_wi M19 a0 65 2 → g_ok M23 → (∀ M27, M27 = g_wi M23 a0 66 (g_i M23 a0 67) → g_ok M27 → g_Run d 401 52 [(0, .ref a0), (1, g_n v1), (2, g_n v2), (3, g_n r17), (4, g_n 0)] [] M27 (g_qV Q))))))))))) : g_Call (d + 1) 401 [.ref a0, g_n v1, g_n v2] M (g_qV Q) := by
  refine g_Call.ok fun hok0 => ?_
  replace h := h hok0
  refine r_body rfl (lv := [(0, .ref a0), (1, g_n v1), (2, g_n v2)]) rfl ?_
  refine g_Run.ok fun hok => ?_
  refine r_aload_n x_401_0 rfl ?_
  refine r_iconst x_401_1 ?_
  obtain ⟨hO1, h⟩ := h
  refine r_putI x_401_2 (ci := 12) (k := 61) (ns := 0) (by decide +kernel) (by decide) (g_f0 (by decide +kernel)) rfl (g_Rk rfl) trivial (kz := 61) rfl hO1 ?_
  obtain ⟨M2, hM3⟩ : ∃ Mz, Mz = g_wi M a0 61 0 := ⟨_, rfl⟩
  rw [← hM3]
  refine g_Run.ok fun hok4 => ?_
  replace h := h M2 hM3 hok4
  have hx5 := g_extW hM3
  replace hO1 := hO1.up hx5
  refine r_aload_n x_401_5 rfl ?_
  refine r_iconst x_401_6 ?_
  refine r_putI x_401_7 (ci := 12) (k := 65) (ns := 0) (by decide +kernel) (by decide) (g_f0 (by decide +kernel)) rfl (g_Rk rfl) trivial (kz := 65) rfl hO1 ?_
  obtain ⟨M6, hM7⟩ : ∃ Mz, Mz = g_wi M2 a0 65 0 := ⟨_, rfl⟩
  rw [← hM7]
  refine g_Run.ok fun hok8 => ?_
  replace h := h M6 hM7 hok8
  have hx9 := g_extW hM7
  replace hO1 := hO1.up hx9
  refine r_aload_n x_401_10 rfl ?_
  refine r_iconst x_401_11 ?_
  refine r_putI x_401_12 (ci := 12) (k := 66) (ns := 0) (by decide +kernel) (by decide) (g_f0 (by decide +kernel)) rfl (g_Rk rfl) trivial (kz := 66) rfl hO1 ?_
  obtain ⟨M10, hM11⟩ : ∃ Mz, Mz = g_wi M6 a0 66 1 := ⟨_, rfl⟩
  rw [← hM11]
  refine g_Run.ok fun hok12 => ?_
  replace h := h M10 hM11 hok12
  have hx13 := g_extW hM11
  replace hO1 := hO1.up hx13
  refine r_aload_n x_401_15 rfl ?_
  refine r_iload_n x_401_16 rfl ?_
  refine r_iload_n x_401_17 rfl ?_
  refine r_iconst x_401_18 ?_
  refine r_invV x_401_19 (z := 398) (ns := 0) (by decide +kernel) (as := [g_n v1, g_n v2, g_n 0]) (r := []) rfl rfl rfl hO1 rfl rfl ?_
  refine r_callI h fun r17 M14 hx15 hok16 hr18 h => ?_
  replace h := h hx15 hok16 hr18
  replace hO1 := hO1.up hx15
  refine r_istore_n x_401_22 (by decide +kernel) rfl (lv1 := [(0, .ref a0), (1, g_n v1), (2, g_n v2), (3, g_n r17)]) rfl ?_
  refine r_aload_n x_401_23 rfl ?_
  refine r_aload_n x_401_24 rfl ?_
  refine r_getI x_401_25 rfl (ci := 12) (k := 61) (ns := 0) (by decide +kernel) (by decide) rfl (kz := 61) rfl hO1 ?_
  refine r_putI x_401_28 (ci := 12) (k := 67) (ns := 0) (by decide +kernel) (by decide) (g_f0 (by decide +kernel)) rfl (hok16.1 _ _) trivial (kz := 67) rfl hO1 ?_
  obtain ⟨M19, hM20⟩ : ∃ Mz, Mz = g_wi M14 a0 67 (g_i M14 a0 61) := ⟨_, rfl⟩
  rw [← hM20]
  refine g_Run.ok fun hok21 => ?_
  replace h := h M19 hM20 hok21
  have hx22 := g_extW hM20
  replace hO1 := hO1.up hx22
  refine r_iload_n x_401_31 rfl ?_
  refine r_if_ne x_401_32 (t := 36) (by decide +kernel) hr18 (fun hc => ?_) (fun hc => ?_)
  · replace h := h.2 hc
    refine r_aload_n x_401_36 rfl ?_
    refine r_iconst x_401_37 ?_
    refine r_putI x_401_38 (ci := 12) (k := 65) (ns := 0) (by decide +kernel) (by decide) (g_f0 (by decide +kernel)) rfl (g_Rk rfl) trivial (kz := 65) rfl hO1 ?_
    obtain ⟨M23, hM24⟩ : ∃ Mz, Mz = g_wi M19 a0 65 2 := ⟨_, rfl⟩
    rw [← hM24]
    refine g_Run.ok fun hok25 => ?_
    replace h := h M23 hM24 hok25
    have hx26 := g_extW hM24
    replace hO1 := hO1.up hx26
    refine r_aload_n x_401_41 rfl ?_
    refine r_aload_n x_401_42 rfl ?_
    refine r_getI x_401_43 rfl (ci := 12) (k := 67) (ns := 0) (by decide +kernel) (by decide) rfl (kz := 67) rfl hO1 ?_
    refine r_putI x_401_46 (ci := 12) (k := 66) (ns := 0) (by decide +kernel) (by decide) (g_f0 (by decide +kernel)) rfl (hok25.1 _ _) trivial (kz := 66) rfl hO1 ?_
    obtain ⟨M27, hM28⟩ : ∃ Mz, Mz = g_wi M23 a0 66 (g_i M23 a0 67) := ⟨_, rfl⟩
    rw [← hM28]
    refine g_Run.ok fun hok29 => ?_
    replace h := h M27 hM28 hok29
    have hx30 := g_extW hM28
    replace hO1 := hO1.up hx30
    refine r_iconst x_401_49 ?_
    refine r_istore x_401_50 (by decide +kernel) rfl (lv1 := [(0, .ref a0), (1, g_n v1), (2, g_n v2), (3, g_n r17), (4, g_n 0)]) rfl ?_
    exact h
  · replace h := h.1 hc
    exact r_retV x_401_35 rfl h
theorem s_X12_weigh_52 {d : Nat} {M : g_M} {Q : g_M → Prop} {a0 : Nat} {v1 : Int} (hv1 : g_InR v1) {v2 : Int} (hv2 : g_InR v2) {v3 : Int} (hv3 : g_InR v3) {v4 : Int} (hv4 : g_InR v4) (h : g_ok M → g_O M a0 12 ∧ ((v4 < g_i M a0 67 → g_Call d 399 [.ref a0, g_n v4] M (g_qI fun r25 M22 => g_ext M M22 → g_ok M22 → g_InR r25 → ((r25 = 0 → (∀ M28, M28 = g_wi M22 a0 65 1 → g_ok M28 → g_InR (v4 + 1) ∧ g_Run d 401 52 [(0, .ref a0), (1, g_n v1), (2, g_n v2), (3, g_n v3), (4, g_n (v4 + 1))] [] M28 (g_qV Q))) ∧ (¬ r25 = 0 → g_InR (v4 + 1) ∧ g_Run d 401 52 [(0, .ref a0), (1, g_n v1), (2, g_n v2), (3, g_n v3), (4, g_n (v4 + 1))] [] M22 (g_qV Q))))) ∧ (¬ v4 < g_i M a0 67 → ((g_i M a0 65 = 1 → Q M) ∧ (¬ g_i M a0 65 = 1 → ∃ b2, g_r M a0 36 = some b2 ∧ ∃ n4, g_A M b2 1 n4 ∧ ((0 : Int) ≤ v2 ∧ (v2 : Int) < n4) ∧ ((g_i M b2 v2 < 2 → Q M) ∧ (¬ g_i M b2 v2 < 2 → g_Call d 398 [.ref a0, g_n v1, g_n v2, g_n 1] M (g_qI fun r10 M7 => g_ext M M7 → g_ok M7 → g_InR r10 → ((r10 = 0 → Q M7) ∧ (¬ r10 = 0 → (∀ M12, M12 = g_wi M7 a0 65 3 → g_ok M12 → g_InR ((g_i M12 a0 61) - (g_i M12 a0 67)) ∧ g_InR ((g_i M12 a0 67) * ((g_i M12 a0 61) - (g_i M12 a0 67))) ∧ (∀ M18, M18 = g_wi M12 a0 66 ((g_i M12 a0 67) * ((g_i M12 a0 61) - (g_i M12 a0 67))) → g_ok M18 → Q M18)))))))))))) : g_Run d 401 52 [(0, .ref a0), (1, g_n v1), (2, g_n v2), (3, g_n v3), (4, g_n v4)] [] M (g_qV Q) := by
  refine g_Run.ok fun hok => ?_
  replace h := h hok
  refine r_iload x_401_52 rfl ?_
  refine r_aload_n x_401_54 rfl ?_
  obtain ⟨hO1, h⟩ := h
  refine r_getI x_401_55 rfl (ci := 12) (k := 67) (ns := 0) (by decide +kernel) (by decide) rfl (kz := 67) rfl hO1 ?_
  refine r_ic_ge x_401_58 (t := 81) (by decide +kernel) hv4 (hok.1 _ _) (fun hc => ?_) (fun hc => ?_)
  · replace h := h.2 hc
    refine r_aload_n x_401_81 rfl ?_
    refine r_getI x_401_82 rfl (ci := 12) (k := 65) (ns := 0) (by decide +kernel) (by decide) rfl (kz := 65) rfl hO1 ?_
    refine r_iconst x_401_85 ?_
    refine r_ic_eq x_401_86 (t := 109) (by decide +kernel) (hok.1 _ _) (g_Rk rfl) (fun hc => ?_) (fun hc => ?_)
    · replace h := h.1 hc
      exact r_retV x_401_109 rfl h
    · replace h := h.2 hc
      refine r_aload_n x_401_89 rfl ?_
      obtain ⟨b2, hb3, h⟩ := h
      refine r_getR x_401_90 rfl (ci := 12) (k := 36) (ns := 0) (by decide +kernel) (by decide) rfl (kz := 36) rfl hO1 hb3 ?_
      refine r_iload_n x_401_93 rfl ?_
      obtain ⟨n4, hA5, h⟩ := h
      obtain ⟨h6, h⟩ := h
      refine r_iald x_401_94 hA5 hv2 h6.1 h6.2 ?_
      refine r_iconst x_401_95 ?_
      refine r_ic_lt x_401_96 (t := 109) (by decide +kernel) (hok.1 _ _) (g_Rk rfl) (fun hc => ?_) (fun hc => ?_)
      · replace h := h.1 hc
        exact r_retV x_401_109 rfl h
      · replace h := h.2 hc
        refine r_aload_n x_401_99 rfl ?_
        refine r_iload_n x_401_100 rfl ?_
        refine r_iload_n x_401_101 rfl ?_
        refine r_iconst x_401_102 ?_
        refine r_invV x_401_103 (z := 398) (ns := 0) (by decide +kernel) (as := [g_n v1, g_n v2, g_n 1]) (r := []) rfl rfl rfl hO1 rfl rfl ?_
        refine r_callI h fun r10 M7 hx8 hok9 hr11 h => ?_
        replace h := h hx8 hok9 hr11
        replace hO1 := hO1.up hx8
        replace hA5 := hA5.up hx8
        refine r_if_ne x_401_106 (t := 110) (by decide +kernel) hr11 (fun hc => ?_) (fun hc => ?_)
        · replace h := h.2 hc
          refine r_aload_n x_401_110 rfl ?_
          refine r_iconst x_401_111 ?_
          refine r_putI x_401_112 (ci := 12) (k := 65) (ns := 0) (by decide +kernel) (by decide) (g_f0 (by decide +kernel)) rfl (g_Rk rfl) trivial (kz := 65) rfl hO1 ?_
          obtain ⟨M12, hM13⟩ : ∃ Mz, Mz = g_wi M7 a0 65 3 := ⟨_, rfl⟩
          rw [← hM13]
          refine g_Run.ok fun hok14 => ?_
          replace h := h M12 hM13 hok14
          have hx15 := g_extW hM13
          replace hO1 := hO1.up hx15
          replace hA5 := hA5.up hx15
          refine r_aload_n x_401_115 rfl ?_
          refine r_aload_n x_401_116 rfl ?_
          refine r_getI x_401_117 rfl (ci := 12) (k := 67) (ns := 0) (by decide +kernel) (by decide) rfl (kz := 67) rfl hO1 ?_
          refine r_aload_n x_401_120 rfl ?_
          refine r_getI x_401_121 rfl (ci := 12) (k := 61) (ns := 0) (by decide +kernel) (by decide) rfl (kz := 61) rfl hO1 ?_
          refine r_aload_n x_401_124 rfl ?_
          refine r_getI x_401_125 rfl (ci := 12) (k := 67) (ns := 0) (by decide +kernel) (by decide) rfl (kz := 67) rfl hO1 ?_
          refine r_isub x_401_128 ?_
          obtain ⟨h16, h⟩ := h
          refine r_imul x_401_129 ?_
          obtain ⟨h17, h⟩ := h
          refine r_putI x_401_130 (ci := 12) (k := 66) (ns := 0) (by decide +kernel) (by decide) (g_f0 (by decide +kernel)) rfl h17 trivial (kz := 66) rfl hO1 ?_
          obtain ⟨M18, hM19⟩ : ∃ Mz, Mz = g_wi M12 a0 66 ((g_i M12 a0 67) * ((g_i M12 a0 61) - (g_i M12 a0 67))) := ⟨_, rfl⟩
          rw [← hM19]
          refine g_Run.ok fun hok20 => ?_
          replace h := h M18 hM19 hok20
          have hx21 := g_extW hM19
          replace hO1 := hO1.up hx21
          replace hA5 := hA5.up hx21
          exact r_retV x_401_133 rfl h
        · replace h := h.1 hc
          exact r_retV x_401_109 rfl h
  · replace h := h.1 hc
    refine r_aload_n x_401_61 rfl ?_
    refine r_iload x_401_62 rfl ?_
    refine r_invV x_401_64 (z := 399) (ns := 0) (by decide +kernel) (as := [g_n v4]) (r := []) rfl rfl rfl hO1 rfl rfl ?_
    refine r_callI h fun r25 M22 hx23 hok24 hr26 h => ?_
    replace h := h hx23 hok24 hr26
    replace hO1 := hO1.up hx23
    refine r_if_ne x_401_67 (t := 75) (by decide +kernel) hr26 (fun hc => ?_) (fun hc => ?_)
    · replace h := h.2 hc
      obtain ⟨h27, h⟩ := h
      refine r_iinc x_401_75 (by decide +kernel) rfl rfl (lv1 := [(0, .ref a0), (1, g_n v1), (2, g_n v2), (3, g_n v3), (4, g_n (v4 + 1))]) rfl ?_
      refine r_goto x_401_78 (t := 52) (by decide +kernel) ?_
      exact h
    · replace h := h.1 hc
      refine r_aload_n x_401_70 rfl ?_
      refine r_iconst x_401_71 ?_
      refine r_putI x_401_72 (ci := 12) (k := 65) (ns := 0) (by decide +kernel) (by decide) (g_f0 (by decide +kernel)) rfl (g_Rk rfl) trivial (kz := 65) rfl hO1 ?_
      obtain ⟨M28, hM29⟩ : ∃ Mz, Mz = g_wi M22 a0 65 1 := ⟨_, rfl⟩
      rw [← hM29]
      refine g_Run.ok fun hok30 => ?_
      replace h := h M28 hM29 hok30
      have hx31 := g_extW hM29
      replace hO1 := hO1.up hx31
      obtain ⟨h32, h⟩ := h
      refine r_iinc x_401_75 (by decide +kernel) rfl rfl (lv1 := [(0, .ref a0), (1, g_n v1), (2, g_n v2), (3, g_n v3), (4, g_n (v4 + 1))]) rfl ?_
      refine r_goto x_401_78 (t := 52) (by decide +kernel) ?_
      exact h
theorem m_X12_choose {d : Nat} {M : g_M} {Q : Int → g_M → Prop} {a0 : Nat} {v1 : Int} (hv1 : g_InR v1) {v2 : Int} (hv2 : g_InR v2) (h : g_ok M → g_InR (4 * v2) ∧ g_Run d 402 14 [(0, .ref a0), (1, g_n v1), (2, g_n v2), (3, g_n 8), (4, g_n 0), (5, g_n 1), (6, g_n (4 * v2))] [] M (g_qI Q)) : g_Call (d + 1) 402 [.ref a0, g_n v1, g_n v2] M (g_qI Q) := by
  refine g_Call.ok fun hok0 => ?_
  replace h := h hok0
  refine r_body rfl (lv := [(0, .ref a0), (1, g_n v1), (2, g_n v2)]) rfl ?_
  refine g_Run.ok fun hok => ?_
  refine r_bipush x_402_0 (x := 8) rfl ?_
  refine r_istore_n x_402_2 (by decide +kernel) rfl (lv1 := [(0, .ref a0), (1, g_n v1), (2, g_n v2), (3, g_n 8)]) rfl ?_
  refine r_iconst x_402_3 ?_
  refine r_istore x_402_4 (by decide +kernel) rfl (lv1 := [(0, .ref a0), (1, g_n v1), (2, g_n v2), (3, g_n 8), (4, g_n 0)]) rfl ?_
  refine r_iconst x_402_6 ?_
  refine r_istore x_402_7 (by decide +kernel) rfl (lv1 := [(0, .ref a0), (1, g_n v1), (2, g_n v2), (3, g_n 8), (4, g_n 0), (5, g_n 1)]) rfl ?_
  refine r_iconst x_402_9 ?_
  refine r_iload_n x_402_10 rfl ?_
  refine r_imul x_402_11 ?_
  obtain ⟨h1, h⟩ := h
  refine r_istore x_402_12 (by decide +kernel) rfl (lv1 := [(0, .ref a0), (1, g_n v1), (2, g_n v2), (3, g_n 8), (4, g_n 0), (5, g_n 1), (6, g_n (4 * v2))]) rfl ?_
  exact h
theorem s_X12_choose_14 {d : Nat} {M : g_M} {Q : Int → g_M → Prop} {a0 : Nat} {v1 : Int} (hv1 : g_InR v1) {v2 : Int} (hv2 : g_InR v2) {v3 : Int} (hv3 : g_InR v3) {v4 : Int} (hv4 : g_InR v4) {v5 : Int} (hv5 : g_InR v5) {v6 : Int} (hv6 : g_InR v6) (h : g_ok M → g_InR (4 * v2) ∧ g_InR ((4 * v2) + 4) ∧ ((v6 < (4 * v2) + 4 → g_O M a0 12 ∧ ∃ b16, g_r M a0 35 = some b16 ∧ ∃ n18, g_A M b16 2 n18 ∧ ((0 : Int) ≤ v6 ∧ (v6 : Int) < n18) ∧ ((g_i M b16 v6 = 0 → g_InR (v6 + 1) ∧ g_Run d 402 14 [(0, .ref a0), (1, g_n v1), (2, g_n v2), (3, g_n v3), (4, g_n v4), (5, g_n v5), (6, g_n (v6 + 1))] [] M (g_qI Q)) ∧ (¬ g_i M b16 v6 = 0 → g_Call d 401 [.ref a0, g_n v1, g_n v6] M (g_qV fun M21 => g_ext M M21 → g_ok M21 → ((v4 < g_i M21 a0 65 → g_Run d 402 78 [(0, .ref a0), (1, g_n v1), (2, g_n v2), (3, g_n v3), (4, g_n v4), (5, g_n v5), (6, g_n v6)] [] M21 (g_qI Q)) ∧ (¬ v4 < g_i M21 a0 65 → ((g_i M21 a0 65 = v4 → ((0 < g_i M21 a0 65 → ((g_i M21 a0 66 < v5 → g_Run d 402 78 [(0, .ref a0), (1, g_n v1), (2, g_n v2), (3, g_n v3), (4, g_n v4), (5, g_n v5), (6, g_n v6)] [] M21 (g_qI Q)) ∧ (¬ g_i M21 a0 66 < v5 → g_InR (v6 + 1) ∧ g_Run d 402 14 [(0, .ref a0), (1, g_n v1), (2, g_n v2), (3, g_n v3), (4, g_n v4), (5, g_n v5), (6, g_n (v6 + 1))] [] M21 (g_qI Q)))) ∧ (¬ 0 < g_i M21 a0 65 → g_InR (v6 + 1) ∧ g_Run d 402 14 [(0, .ref a0), (1, g_n v1), (2, g_n v2), (3, g_n v3), (4, g_n v4), (5, g_n v5), (6, g_n (v6 + 1))] [] M21 (g_qI Q)))) ∧ (¬ g_i M21 a0 65 = v4 → g_InR (v6 + 1) ∧ g_Run d 402 14 [(0, .ref a0), (1, g_n v1), (2, g_n v2), (3, g_n v3), (4, g_n v4), (5, g_n v5), (6, g_n (v6 + 1))] [] M21 (g_qI Q))))))))) ∧ (¬ v6 < (4 * v2) + 4 → g_O M a0 12 ∧ (∀ M4, M4 = g_wi M a0 65 0 → g_ok M4 → (∀ M8, M8 = g_wi M4 a0 66 1 → g_ok M8 → ((v3 < 8 → g_Call d 401 [.ref a0, g_n v1, g_n v3] M8 (g_qV fun M12 => g_ext M8 M12 → g_ok M12 → Q v3 M12)) ∧ (¬ v3 < 8 → Q v3 M8))))))) : g_Run d 402 14 [(0, .ref a0), (1, g_n v1), (2, g_n v2), (3, g_n v3), (4, g_n v4), (5, g_n v5), (6, g_n v6)] [] M (g_qI Q) := by
  refine g_Run.ok fun hok => ?_
  replace h := h hok
  refine r_iload x_402_14 rfl ?_
  refine r_iconst x_402_16 ?_
  refine r_iload_n x_402_17 rfl ?_
  refine r_imul x_402_18 ?_
  obtain ⟨h1, h⟩ := h
  refine r_iconst x_402_19 ?_
  refine r_iadd x_402_20 ?_
  obtain ⟨h2, h⟩ := h
  refine r_ic_ge x_402_21 (t := 99) (by decide +kernel) hv6 h2 (fun hc => ?_) (fun hc => ?_)
  · replace h := h.2 hc
    refine r_aload_n x_402_99 rfl ?_
    refine r_iconst x_402_100 ?_
    obtain ⟨hO3, h⟩ := h
    refine r_putI x_402_101 (ci := 12) (k := 65) (ns := 0) (by decide +kernel) (by decide) (g_f0 (by decide +kernel)) rfl (g_Rk rfl) trivial (kz := 65) rfl hO3 ?_
    obtain ⟨M4, hM5⟩ : ∃ Mz, Mz = g_wi M a0 65 0 := ⟨_, rfl⟩
    rw [← hM5]
    refine g_Run.ok fun hok6 => ?_
    replace h := h M4 hM5 hok6
    have hx7 := g_extW hM5
    replace hO3 := hO3.up hx7
    refine r_aload_n x_402_104 rfl ?_
    refine r_iconst x_402_105 ?_
    refine r_putI x_402_106 (ci := 12) (k := 66) (ns := 0) (by decide +kernel) (by decide) (g_f0 (by decide +kernel)) rfl (g_Rk rfl) trivial (kz := 66) rfl hO3 ?_
    obtain ⟨M8, hM9⟩ : ∃ Mz, Mz = g_wi M4 a0 66 1 := ⟨_, rfl⟩
    rw [← hM9]
    refine g_Run.ok fun hok10 => ?_
    replace h := h M8 hM9 hok10
    have hx11 := g_extW hM9
    replace hO3 := hO3.up hx11
    refine r_iload_n x_402_109 rfl ?_
    refine r_bipush x_402_110 (x := 8) rfl ?_
    refine r_ic_ge x_402_112 (t := 121) (by decide +kernel) hv3 (g_Rk rfl) (fun hc => ?_) (fun hc => ?_)
    · replace h := h.2 hc
      refine r_iload_n x_402_121 rfl ?_
      exact r_retI x_402_122 rfl hv3 h
    · replace h := h.1 hc
      refine r_aload_n x_402_115 rfl ?_
      refine r_iload_n x_402_116 rfl ?_
      refine r_iload_n x_402_117 rfl ?_
      refine r_invV x_402_118 (z := 401) (ns := 0) (by decide +kernel) (as := [g_n v1, g_n v3]) (r := []) rfl rfl rfl hO3 rfl rfl ?_
      refine r_callV h fun M12 hx13 hok14 h => ?_
      replace h := h hx13 hok14
      replace hO3 := hO3.up hx13
      refine r_iload_n x_402_121 rfl ?_
      exact r_retI x_402_122 rfl hv3 h
  · replace h := h.1 hc
    refine r_aload_n x_402_24 rfl ?_
    obtain ⟨hO15, h⟩ := h
    obtain ⟨b16, hb17, h⟩ := h
    refine r_getR x_402_25 rfl (ci := 12) (k := 35) (ns := 0) (by decide +kernel) (by decide) rfl (kz := 35) rfl hO15 hb17 ?_
    refine r_iload x_402_28 rfl ?_
    obtain ⟨n18, hA19, h⟩ := h
    obtain ⟨h20, h⟩ := h
    refine r_bald x_402_30 (Or.inr rfl) hA19 hv6 h20.1 h20.2 ?_
    refine r_if_ne x_402_31 (t := 37) (by decide +kernel) (hok.1 _ _) (fun hc => ?_) (fun hc => ?_)
    · replace h := h.2 hc
      refine r_aload_n x_402_37 rfl ?_
      refine r_iload_n x_402_38 rfl ?_
      refine r_iload x_402_39 rfl ?_
      refine r_invV x_402_41 (z := 401) (ns := 0) (by decide +kernel) (as := [g_n v1, g_n v6]) (r := []) rfl rfl rfl hO15 rfl rfl ?_
      refine r_callV h fun M21 hx22 hok23 h => ?_
      replace h := h hx22 hok23
      replace hO15 := hO15.up hx22
      replace hA19 := hA19.up hx22
      refine r_aload_n x_402_44 rfl ?_
      refine r_getI x_402_45 rfl (ci := 12) (k := 65) (ns := 0) (by decide +kernel) (by decide) rfl (kz := 65) rfl hO15 ?_
      refine r_iload x_402_48 rfl ?_
      refine r_ic_gt x_402_50 (t := 78) (by decide +kernel) (hok23.1 _ _) hv4 (fun hc => ?_) (fun hc => ?_)
      · replace h := h.1 hc
        exact h
      · replace h := h.2 hc
        refine r_aload_n x_402_53 rfl ?_
        refine r_getI x_402_54 rfl (ci := 12) (k := 65) (ns := 0) (by decide +kernel) (by decide) rfl (kz := 65) rfl hO15 ?_
        refine r_iload x_402_57 rfl ?_
        refine r_ic_ne x_402_59 (t := 93) (by decide +kernel) (hok23.1 _ _) hv4 (fun hc => ?_) (fun hc => ?_)
        · replace h := h.2 hc
          obtain ⟨h24, h⟩ := h
          refine r_iinc x_402_93 (by decide +kernel) rfl rfl (lv1 := [(0, .ref a0), (1, g_n v1), (2, g_n v2), (3, g_n v3), (4, g_n v4), (5, g_n v5), (6, g_n (v6 + 1))]) rfl ?_
          refine r_goto x_402_96 (t := 14) (by decide +kernel) ?_
          exact h
        · replace h := h.1 hc
          refine r_aload_n x_402_62 rfl ?_
          refine r_getI x_402_63 rfl (ci := 12) (k := 65) (ns := 0) (by decide +kernel) (by decide) rfl (kz := 65) rfl hO15 ?_
          refine r_if_le x_402_66 (t := 93) (by decide +kernel) (hok23.1 _ _) (fun hc => ?_) (fun hc => ?_)
          · replace h := h.2 hc
            obtain ⟨h25, h⟩ := h
            refine r_iinc x_402_93 (by decide +kernel) rfl rfl (lv1 := [(0, .ref a0), (1, g_n v1), (2, g_n v2), (3, g_n v3), (4, g_n v4), (5, g_n v5), (6, g_n (v6 + 1))]) rfl ?_
            refine r_goto x_402_96 (t := 14) (by decide +kernel) ?_
            exact h
          · replace h := h.1 hc
            refine r_aload_n x_402_69 rfl ?_
            refine r_getI x_402_70 rfl (ci := 12) (k := 66) (ns := 0) (by decide +kernel) (by decide) rfl (kz := 66) rfl hO15 ?_
            refine r_iload x_402_73 rfl ?_
            refine r_ic_ge x_402_75 (t := 93) (by decide +kernel) (hok23.1 _ _) hv5 (fun hc => ?_) (fun hc => ?_)
            · replace h := h.2 hc
              obtain ⟨h26, h⟩ := h
              refine r_iinc x_402_93 (by decide +kernel) rfl rfl (lv1 := [(0, .ref a0), (1, g_n v1), (2, g_n v2), (3, g_n v3), (4, g_n v4), (5, g_n v5), (6, g_n (v6 + 1))]) rfl ?_
              refine r_goto x_402_96 (t := 14) (by decide +kernel) ?_
              exact h
            · replace h := h.1 hc
              exact h
    · replace h := h.1 hc
      refine r_goto x_402_34 (t := 93) (by decide +kernel) ?_
      obtain ⟨h27, h⟩ := h
      refine r_iinc x_402_93 (by decide +kernel) rfl rfl (lv1 := [(0, .ref a0), (1, g_n v1), (2, g_n v2), (3, g_n v3), (4, g_n v4), (5, g_n v5), (6, g_n (v6 + 1))]) rfl ?_
      refine r_goto x_402_96 (t := 14) (by decide +kernel) ?_
      exact h
theorem s_X12_choose_78 {d : Nat} {M : g_M} {Q : Int → g_M → Prop} {a0 : Nat} {v1 : Int} (hv1 : g_InR v1) {v2 : Int} (hv2 : g_InR v2) {v3 : Int} (hv3 : g_InR v3) {v4 : Int} (hv4 : g_InR v4) {v5 : Int} (hv5 : g_InR v5) {v6 : Int} (hv6 : g_InR v6) (h : g_ok M → g_O M a0 12 ∧ g_InR (v6 + 1) ∧ g_Run d 402 14 [(0, .ref a0), (1, g_n v1), (2, g_n v2), (3, g_n v6), (4, g_n (g_i M a0 65)), (5, g_n (g_i M a0 66)), (6, g_n (v6 + 1))] [] M (g_qI Q)) : g_Run d 402 78 [(0, .ref a0), (1, g_n v1), (2, g_n v2), (3, g_n v3), (4, g_n v4), (5, g_n v5), (6, g_n v6)] [] M (g_qI Q) := by
  refine g_Run.ok fun hok => ?_
  replace h := h hok
  refine r_iload x_402_78 rfl ?_
  refine r_istore_n x_402_80 (by decide +kernel) rfl (lv1 := [(0, .ref a0), (1, g_n v1), (2, g_n v2), (3, g_n v6), (4, g_n v4), (5, g_n v5), (6, g_n v6)]) rfl ?_
  refine r_aload_n x_402_81 rfl ?_
  obtain ⟨hO1, h⟩ := h
  refine r_getI x_402_82 rfl (ci := 12) (k := 65) (ns := 0) (by decide +kernel) (by decide) rfl (kz := 65) rfl hO1 ?_
  refine r_istore x_402_85 (by decide +kernel) rfl (lv1 := [(0, .ref a0), (1, g_n v1), (2, g_n v2), (3, g_n v6), (4, g_n (g_i M a0 65)), (5, g_n v5), (6, g_n v6)]) rfl ?_
  refine r_aload_n x_402_87 rfl ?_
  refine r_getI x_402_88 rfl (ci := 12) (k := 66) (ns := 0) (by decide +kernel) (by decide) rfl (kz := 66) rfl hO1 ?_
  refine r_istore x_402_91 (by decide +kernel) rfl (lv1 := [(0, .ref a0), (1, g_n v1), (2, g_n v2), (3, g_n v6), (4, g_n (g_i M a0 65)), (5, g_n (g_i M a0 66)), (6, g_n v6)]) rfl ?_
  obtain ⟨h2, h⟩ := h
  refine r_iinc x_402_93 (by decide +kernel) rfl rfl (lv1 := [(0, .ref a0), (1, g_n v1), (2, g_n v2), (3, g_n v6), (4, g_n (g_i M a0 65)), (5, g_n (g_i M a0 66)), (6, g_n (v6 + 1))]) rfl ?_
  refine r_goto x_402_96 (t := 14) (by decide +kernel) ?_
  exact h
theorem m_X12_isLookedAt {d : Nat} {M : g_M} {Q : Int → g_M → Prop} {a0 : Nat} {v1 : Int} (hv1 : g_InR v1) {v2 : Int} (hv2 : g_InR v2) (h : g_ok M → g_O M a0 12 ∧ g_Call d 361 [.ref a0, g_n v1, g_n v2] M (g_qI fun r5 M2 => g_ext M M2 → g_ok M2 → g_InR r5 → ((g_i M2 a0 65 < 3 → g_Run d 403 36 [(0, .ref a0), (1, g_n v1), (2, g_n v2), (3, g_n (g_i M a0 10)), (4, g_n 0), (5, g_n 1), (6, g_n (g_i M2 a0 41))] [] M2 (g_qI Q)) ∧ (¬ g_i M2 a0 65 < 3 → g_Run d 403 36 [(0, .ref a0), (1, g_n v1), (2, g_n v2), (3, g_n (g_i M a0 10)), (4, g_n 0), (5, g_n 0), (6, g_n (g_i M2 a0 41))] [] M2 (g_qI Q))))) : g_Call (d + 1) 403 [.ref a0, g_n v1, g_n v2] M (g_qI Q) := by
  refine g_Call.ok fun hok0 => ?_
  replace h := h hok0
  refine r_body rfl (lv := [(0, .ref a0), (1, g_n v1), (2, g_n v2)]) rfl ?_
  refine g_Run.ok fun hok => ?_
  refine r_aload_n x_403_0 rfl ?_
  obtain ⟨hO1, h⟩ := h
  refine r_getI x_403_1 rfl (ci := 12) (k := 10) (ns := 0) (by decide +kernel) (by decide) rfl (kz := 10) rfl hO1 ?_
  refine r_istore_n x_403_4 (by decide +kernel) rfl (lv1 := [(0, .ref a0), (1, g_n v1), (2, g_n v2), (3, g_n (g_i M a0 10))]) rfl ?_
  refine r_aload_n x_403_5 rfl ?_
  refine r_iload_n x_403_6 rfl ?_
  refine r_iload_n x_403_7 rfl ?_
  refine r_invV x_403_8 (z := 361) (ns := 0) (by decide +kernel) (as := [g_n v1, g_n v2]) (r := []) rfl rfl rfl hO1 rfl rfl ?_
  refine r_callI h fun r5 M2 hx3 hok4 hr6 h => ?_
  replace h := h hx3 hok4 hr6
  replace hO1 := hO1.up hx3
  refine r_pop x_403_11 rfl ?_
  refine r_iconst x_403_12 ?_
  refine r_istore x_403_13 (by decide +kernel) rfl (lv1 := [(0, .ref a0), (1, g_n v1), (2, g_n v2), (3, g_n (g_i M a0 10)), (4, g_n 0)]) rfl ?_
  refine r_aload_n x_403_15 rfl ?_
  refine r_getI x_403_16 rfl (ci := 12) (k := 65) (ns := 0) (by decide +kernel) (by decide) rfl (kz := 65) rfl hO1 ?_
  refine r_iconst x_403_19 ?_
  refine r_ic_ge x_403_20 (t := 27) (by decide +kernel) (hok4.1 _ _) (g_Rk rfl) (fun hc => ?_) (fun hc => ?_)
  · replace h := h.2 hc
    refine r_iconst x_403_27 ?_
    refine r_istore x_403_28 (by decide +kernel) rfl (lv1 := [(0, .ref a0), (1, g_n v1), (2, g_n v2), (3, g_n (g_i M a0 10)), (4, g_n 0), (5, g_n 0)]) rfl ?_
    refine r_aload_n x_403_30 rfl ?_
    refine r_getI x_403_31 rfl (ci := 12) (k := 41) (ns := 0) (by decide +kernel) (by decide) rfl (kz := 41) rfl hO1 ?_
    refine r_istore x_403_34 (by decide +kernel) rfl (lv1 := [(0, .ref a0), (1, g_n v1), (2, g_n v2), (3, g_n (g_i M a0 10)), (4, g_n 0), (5, g_n 0), (6, g_n (g_i M2 a0 41))]) rfl ?_
    exact h
  · replace h := h.1 hc
    refine r_iconst x_403_23 ?_
    refine r_goto x_403_24 (t := 28) (by decide +kernel) ?_
    refine r_istore x_403_28 (by decide +kernel) rfl (lv1 := [(0, .ref a0), (1, g_n v1), (2, g_n v2), (3, g_n (g_i M a0 10)), (4, g_n 0), (5, g_n 1)]) rfl ?_
    refine r_aload_n x_403_30 rfl ?_
    refine r_getI x_403_31 rfl (ci := 12) (k := 41) (ns := 0) (by decide +kernel) (by decide) rfl (kz := 41) rfl hO1 ?_
    refine r_istore x_403_34 (by decide +kernel) rfl (lv1 := [(0, .ref a0), (1, g_n v1), (2, g_n v2), (3, g_n (g_i M a0 10)), (4, g_n 0), (5, g_n 1), (6, g_n (g_i M2 a0 41))]) rfl ?_
    exact h
theorem s_X12_isLookedAt_36 {d : Nat} {M : g_M} {Q : Int → g_M → Prop} {a0 : Nat} {v1 : Int} (hv1 : g_InR v1) {v2 : Int} (hv2 : g_InR v2) {v3 : Int} (hv3 : g_InR v3) {v4 : Int} (hv4 : g_InR v4) {v5 : Int} (hv5 : g_InR v5) {v6 : Int} (hv6 : g_InR v6) (h : g_ok M → g_O M a0 12 ∧ g_InR ((g_i M a0 41) + (g_i M a0 42)) ∧ ((v6 < (g_i M a0 41) + (g_i M a0 42) → ∃ b3, g_r M a0 9 = some b3 ∧ ∃ n5, g_A M b3 1 n5 ∧ ((0 : Int) ≤ v6 ∧ (v6 : Int) < n5) ∧ g_Call d 400 [.ref a0, g_n (g_i M b3 v6), g_n 0, g_n (g_i M a0 67)] M (g_qI fun r11 M8 => g_ext M M8 → g_ok M8 → g_InR r11 → g_InR (v6 + 1) ∧ g_Run d 403 36 [(0, .ref a0), (1, g_n v1), (2, g_n v2), (3, g_n v3), (4, g_n (g_or v4 r11)), (5, g_n v5), (6, g_n (v6 + 1))] [] M8 (g_qI Q))) ∧ (¬ v6 < (g_i M a0 41) + (g_i M a0 42) → g_Run d 403 83 [(0, .ref a0), (1, g_n v1), (2, g_n v2), (3, g_n v3), (4, g_n v4), (5, g_n v5), (6, g_n (g_i M a0 43))] [] M (g_qI Q)))) : g_Run d 403 36 [(0, .ref a0), (1, g_n v1), (2, g_n v2), (3, g_n v3), (4, g_n v4), (5, g_n v5), (6, g_n v6)] [] M (g_qI Q) := by
  refine g_Run.ok fun hok => ?_
  replace h := h hok
  refine r_iload x_403_36 rfl ?_
  refine r_aload_n x_403_38 rfl ?_
  obtain ⟨hO1, h⟩ := h
  refine r_getI x_403_39 rfl (ci := 12) (k := 41) (ns := 0) (by decide +kernel) (by decide) rfl (kz := 41) rfl hO1 ?_
  refine r_aload_n x_403_42 rfl ?_
  refine r_getI x_403_43 rfl (ci := 12) (k := 42) (ns := 0) (by decide +kernel) (by decide) rfl (kz := 42) rfl hO1 ?_
  refine r_iadd x_403_46 ?_
  obtain ⟨h2, h⟩ := h
  refine r_ic_ge x_403_47 (t := 77) (by decide +kernel) hv6 h2 (fun hc => ?_) (fun hc => ?_)
  · replace h := h.2 hc
    refine r_aload_n x_403_77 rfl ?_
    refine r_getI x_403_78 rfl (ci := 12) (k := 43) (ns := 0) (by decide +kernel) (by decide) rfl (kz := 43) rfl hO1 ?_
    refine r_istore x_403_81 (by decide +kernel) rfl (lv1 := [(0, .ref a0), (1, g_n v1), (2, g_n v2), (3, g_n v3), (4, g_n v4), (5, g_n v5), (6, g_n (g_i M a0 43))]) rfl ?_
    exact h
  · replace h := h.1 hc
    refine r_iload x_403_50 rfl ?_
    refine r_aload_n x_403_52 rfl ?_
    refine r_aload_n x_403_53 rfl ?_
    obtain ⟨b3, hb4, h⟩ := h
    refine r_getR x_403_54 rfl (ci := 12) (k := 9) (ns := 0) (by decide +kernel) (by decide) rfl (kz := 9) rfl hO1 hb4 ?_
    refine r_iload x_403_57 rfl ?_
    obtain ⟨n5, hA6, h⟩ := h
    obtain ⟨h7, h⟩ := h
    refine r_iald x_403_59 hA6 hv6 h7.1 h7.2 ?_
    refine r_iconst x_403_60 ?_
    refine r_aload_n x_403_61 rfl ?_
    refine r_getI x_403_62 rfl (ci := 12) (k := 67) (ns := 0) (by decide +kernel) (by decide) rfl (kz := 67) rfl hO1 ?_
    refine r_invV x_403_65 (z := 400) (ns := 0) (by decide +kernel) (as := [g_n (g_i M b3 v6), g_n 0, g_n (g_i M a0 67)]) (r := [g_n v4]) rfl rfl rfl hO1 rfl rfl ?_
    refine r_callI h fun r11 M8 hx9 hok10 hr12 h => ?_
    replace h := h hx9 hok10 hr12
    replace hO1 := hO1.up hx9
    replace hA6 := hA6.up hx9
    refine r_ior x_403_68 ?_
    refine r_istore x_403_69 (by decide +kernel) rfl (lv1 := [(0, .ref a0), (1, g_n v1), (2, g_n v2), (3, g_n v3), (4, g_n (g_or v4 r11)), (5, g_n v5), (6, g_n v6)]) rfl ?_
    obtain ⟨h13, h⟩ := h
    refine r_iinc x_403_71 (by decide +kernel) rfl rfl (lv1 := [(0, .ref a0), (1, g_n v1), (2, g_n v2), (3, g_n v3), (4, g_n (g_or v4 r11)), (5, g_n v5), (6, g_n (v6 + 1))]) rfl ?_
    refine r_goto x_403_74 (t := 36) (by decide +kernel) ?_
    exact h
theorem s_X12_isLookedAt_83 {d : Nat} {M : g_M} {Q : Int → g_M → Prop} {a0 : Nat} {v1 : Int} (hv1 : g_InR v1) {v2 : Int} (hv2 : g_InR v2) {v3 : Int} (hv3 : g_InR v3) {v4 : Int} (hv4 : g_InR v4) {v5 : Int} (hv5 : g_InR v5) {v6 : Int} (hv6 : g_InR v6) (h : g_ok M → g_O M a0 12 ∧ ((v6 < g_i M a0 44 → ((v5 = 0 → ∃ b2, g_r M a0 9 = some b2 ∧ ∃ n4, g_A M b2 1 n4 ∧ ((0 : Int) ≤ v6 ∧ (v6 : Int) < n4) ∧ g_Call d 400 [.ref a0, g_n (g_i M b2 v6), g_n (g_i M a0 67), g_n (g_i M a0 61)] M (g_qI fun r10 M7 => g_ext M M7 → g_ok M7 → g_InR r10 → g_InR (v6 + 1) ∧ g_Run d 403 83 [(0, .ref a0), (1, g_n v1), (2, g_n v2), (3, g_n v3), (4, g_n v4), (5, g_n r10), (6, g_n (v6 + 1))] [] M7 (g_qI Q))) ∧ (¬ v5 = 0 → g_Run d 403 124 [(0, .ref a0), (1, g_n v1), (2, g_n v2), (3, g_n v3), (4, g_n v4), (5, g_n v5), (6, g_n v6)] [] M (g_qI Q)))) ∧ (¬ v6 < g_i M a0 44 → g_Run d 403 124 [(0, .ref a0), (1, g_n v1), (2, g_n v2), (3, g_n v3), (4, g_n v4), (5, g_n v5), (6, g_n v6)] [] M (g_qI Q)))) : g_Run d 403 83 [(0, .ref a0), (1, g_n v1), (2, g_n v2), (3, g_n v3), (4, g_n v4), (5, g_n v5), (6, g_n v6)] [] M (g_qI Q) := by
  refine g_Run.ok fun hok => ?_
  replace h := h hok
  refine r_iload x_403_83 rfl ?_
  refine r_aload_n x_403_85 rfl ?_
  obtain ⟨hO1, h⟩ := h
  refine r_getI x_403_86 rfl (ci := 12) (k := 44) (ns := 0) (by decide +kernel) (by decide) rfl (kz := 44) rfl hO1 ?_
  refine r_ic_ge x_403_89 (t := 124) (by decide +kernel) hv6 (hok.1 _ _) (fun hc => ?_) (fun hc => ?_)
  · replace h := h.2 hc
    exact h
  · replace h := h.1 hc
    refine r_iload x_403_92 rfl ?_
    refine r_if_ne x_403_94 (t := 124) (by decide +kernel) hv5 (fun hc => ?_) (fun hc => ?_)
    · replace h := h.2 hc
      exact h
    · replace h := h.1 hc
      refine r_aload_n x_403_97 rfl ?_
      refine r_aload_n x_403_98 rfl ?_
      obtain ⟨b2, hb3, h⟩ := h
      refine r_getR x_403_99 rfl (ci := 12) (k := 9) (ns := 0) (by decide +kernel) (by decide) rfl (kz := 9) rfl hO1 hb3 ?_
      refine r_iload x_403_102 rfl ?_
      obtain ⟨n4, hA5, h⟩ := h
      obtain ⟨h6, h⟩ := h
      refine r_iald x_403_104 hA5 hv6 h6.1 h6.2 ?_
      refine r_aload_n x_403_105 rfl ?_
      refine r_getI x_403_106 rfl (ci := 12) (k := 67) (ns := 0) (by decide +kernel) (by decide) rfl (kz := 67) rfl hO1 ?_
      refine r_aload_n x_403_109 rfl ?_
      refine r_getI x_403_110 rfl (ci := 12) (k := 61) (ns := 0) (by decide +kernel) (by decide) rfl (kz := 61) rfl hO1 ?_
      refine r_invV x_403_113 (z := 400) (ns := 0) (by decide +kernel) (as := [g_n (g_i M b2 v6), g_n (g_i M a0 67), g_n (g_i M a0 61)]) (r := []) rfl rfl rfl hO1 rfl rfl ?_
      refine r_callI h fun r10 M7 hx8 hok9 hr11 h => ?_
      replace h := h hx8 hok9 hr11
      replace hO1 := hO1.up hx8
      replace hA5 := hA5.up hx8
      refine r_istore x_403_116 (by decide +kernel) rfl (lv1 := [(0, .ref a0), (1, g_n v1), (2, g_n v2), (3, g_n v3), (4, g_n v4), (5, g_n r10), (6, g_n v6)]) rfl ?_
      obtain ⟨h12, h⟩ := h
      refine r_iinc x_403_118 (by decide +kernel) rfl rfl (lv1 := [(0, .ref a0), (1, g_n v1), (2, g_n v2), (3, g_n v3), (4, g_n v4), (5, g_n r10), (6, g_n (v6 + 1))]) rfl ?_
      refine r_goto x_403_121 (t := 83) (by decide +kernel) ?_
      exact h
theorem s_X12_isLookedAt_124 {d : Nat} {M : g_M} {Q : Int → g_M → Prop} {a0 : Nat} {v1 : Int} (hv1 : g_InR v1) {v2 : Int} (hv2 : g_InR v2) {v3 : Int} (hv3 : g_InR v3) {v4 : Int} (hv4 : g_InR v4) {v5 : Int} (hv5 : g_InR v5) {v6 : Int} (hv6 : g_InR v6) (h : g_ok M → g_O M a0 12 ∧ (∀ M2, M2 = g_wi M a0 10 v3 → g_ok M2 → ((v4 = 0 → Q 0 M2) ∧ (¬ v4 = 0 → ((v5 = 0 → Q 0 M2) ∧ (¬ v5 = 0 → Q 1 M2)))))) : g_Run d 403 124 [(0, .ref a0), (1, g_n v1), (2, g_n v2), (3, g_n v3), (4, g_n v4), (5, g_n v5), (6, g_n v6)] [] M (g_qI Q) := by
  refine g_Run.ok fun hok => ?_
  replace h := h hok
  refine r_aload_n x_403_124 rfl ?_
  refine r_iload_n x_403_125 rfl ?_
  obtain ⟨hO1, h⟩ := h
  refine r_putI x_403_126 (ci := 12) (k := 10) (ns := 0) (by decide +kernel) (by decide) (g_f0 (by decide +kernel)) rfl hv3 trivial (kz := 10) rfl hO1 ?_
  obtain ⟨M2, hM3⟩ : ∃ Mz, Mz = g_wi M a0 10 v3 := ⟨_, rfl⟩
  rw [← hM3]
  refine g_Run.ok fun hok4 => ?_
  replace h := h M2 hM3 hok4
  have hx5 := g_extW hM3
  replace hO1 := hO1.up hx5
  refine r_iload x_403_129 rfl ?_
  refine r_if_eq x_403_131 (t := 143) (by decide +kernel) hv4 (fun hc => ?_) (fun hc => ?_)
  · replace h := h.1 hc
    refine r_iconst x_403_143 ?_
    exact r_retZ x_403_144 rfl (Or.inl rfl) h
  · replace h := h.2 hc
    refine r_iload x_403_134 rfl ?_
    refine r_if_eq x_403_136 (t := 143) (by decide +kernel) hv5 (fun hc => ?_) (fun hc => ?_)
    · replace h := h.1 hc
      refine r_iconst x_403_143 ?_
      exact r_retZ x_403_144 rfl (Or.inl rfl) h
    · replace h := h.2 hc
      refine r_iconst x_403_139 ?_
      refine r_goto x_403_140 (t := 144) (by decide +kernel) ?_
      exact r_retZ x_403_144 rfl (Or.inr rfl) h
theorem m_X12_document {d : Nat} {M : g_M} {Q : Int → g_M → Prop} {a0 : Nat} {v1 : Int} (hv1 : g_InR v1) {v2 : Int} (hv2 : g_InR v2) (h : g_ok M → g_O M a0 12 ∧ ∃ b2, g_r M a0 71 = some b2 ∧ g_InR (200 * v1) ∧ g_InR ((200 * v1) + v2) ∧ ∃ n6, g_A M b2 1 n6 ∧ ((0 : Int) ≤ (200 * v1) + v2 ∧ ((200 * v1) + v2 : Int) < n6) ∧ g_InR (2000 * (g_i M b2 ((200 * v1) + v2))) ∧ g_InR (2000 + (2000 * (g_i M b2 ((200 * v1) + v2)))) ∧ Q (2000 + (2000 * (g_i M b2 ((200 * v1) + v2)))) M) : g_Call (d + 1) 404 [.ref a0, g_n v1, g_n v2] M (g_qI Q) := by
  refine g_Call.ok fun hok0 => ?_
  replace h := h hok0
  refine r_body rfl (lv := [(0, .ref a0), (1, g_n v1), (2, g_n v2)]) rfl ?_
  refine g_Run.ok fun hok => ?_
  refine r_sipush x_404_0 (x := 2000) rfl ?_
  refine r_sipush x_404_3 (x := 2000) rfl ?_
  refine r_aload_n x_404_6 rfl ?_
  obtain ⟨hO1, h⟩ := h
  obtain ⟨b2, hb3, h⟩ := h
  refine r_getR x_404_7 rfl (ci := 12) (k := 71) (ns := 0) (by decide +kernel) (by decide) rfl (kz := 71) rfl hO1 hb3 ?_
  refine r_sipush x_404_10 (x := 200) rfl ?_
  refine r_iload_n x_404_13 rfl ?_
  refine r_imul x_404_14 ?_
  obtain ⟨h4, h⟩ := h
  refine r_iload_n x_404_15 rfl ?_
  refine r_iadd x_404_16 ?_
  obtain ⟨h5, h⟩ := h
  obtain ⟨n6, hA7, h⟩ := h
  obtain ⟨h8, h⟩ := h
  refine r_iald x_404_17 hA7 h5 h8.1 h8.2 ?_
  refine r_imul x_404_18 ?_
  obtain ⟨h9, h⟩ := h
  refine r_iadd x_404_19 ?_
  obtain ⟨h10, h⟩ := h
  exact r_retI x_404_20 rfl h10 h
theorem m_X12_refuses {d : Nat} {M : g_M} {Q : Int → g_M → Prop} {a0 : Nat} {v1 : Int} (hv1 : g_InR v1) {v2 : Int} (hv2 : g_InR v2) (h : g_ok M → g_O M a0 12 ∧ (∀ M2, M2 = g_wi M a0 7 v1 → g_ok M2 → (∀ M6, M6 = g_wi M2 a0 8 v2 → g_ok M6 → Q 0 M6))) : g_Call (d + 1) 405 [.ref a0, g_n v1, g_n v2] M (g_qI Q) := by
  refine g_Call.ok fun hok0 => ?_
  replace h := h hok0
  refine r_body rfl (lv := [(0, .ref a0), (1, g_n v1), (2, g_n v2)]) rfl ?_
  refine g_Run.ok fun hok => ?_
  refine r_aload_n x_405_0 rfl ?_
  refine r_iload_n x_405_1 rfl ?_
  obtain ⟨hO1, h⟩ := h
  refine r_putI x_405_2 (ci := 12) (k := 7) (ns := 0) (by decide +kernel) (by decide) (g_f0 (by decide +kernel)) rfl hv1 trivial (kz := 7) rfl hO1 ?_
  obtain ⟨M2, hM3⟩ : ∃ Mz, Mz = g_wi M a0 7 v1 := ⟨_, rfl⟩
  rw [← hM3]
  refine g_Run.ok fun hok4 => ?_
  replace h := h M2 hM3 hok4
  have hx5 := g_extW hM3
  replace hO1 := hO1.up hx5
  refine r_aload_n x_405_5 rfl ?_
  refine r_iload_n x_405_6 rfl ?_
  refine r_putI x_405_7 (ci := 12) (k := 8) (ns := 0) (by decide +kernel) (by decide) (g_f0 (by decide +kernel)) rfl hv2 trivial (kz := 8) rfl hO1 ?_
  obtain ⟨M6, hM7⟩ : ∃ Mz, Mz = g_wi M2 a0 8 v2 := ⟨_, rfl⟩
  rw [← hM7]
  refine g_Run.ok fun hok8 => ?_
  replace h := h M6 hM7 hok8
  have hx9 := g_extW hM7
  replace hO1 := hO1.up hx9
  refine r_iconst x_405_10 ?_
  exact r_retZ x_405_11 rfl (Or.inl rfl) h
theorem m_X12_isNone {d : Nat} {M : g_M} {Q : Int → g_M → Prop} {a0 : Nat} {v1 : Int} (hv1 : g_InR v1) (h : g_ok M → ((v1 = (-1) → g_O M a0 12 ∧ g_Call d 238 [.ref a0, g_n 0] M (g_qI fun r11 M8 => g_ext M M8 → g_ok M8 → g_InR r11 → g_Call d 405 [.ref a0, g_n 9, g_n r11] M8 (g_qI fun r16 M13 => g_ext M8 M13 → g_ok M13 → g_InR r16 → (r16 = 0 ∨ r16 = 1) ∧ Q r16 M13))) ∧ (¬ v1 = (-1) → g_O M a0 12 ∧ g_Call d 405 [.ref a0, g_n 9, g_n v1] M (g_qI fun r5 M2 => g_ext M M2 → g_ok M2 → g_InR r5 → (r5 = 0 ∨ r5 = 1) ∧ Q r5 M2)))) : g_Call (d + 1) 406 [.ref a0, g_n v1] M (g_qI Q) := by
  refine g_Call.ok fun hok0 => ?_
  replace h := h hok0
  refine r_body rfl (lv := [(0, .ref a0), (1, g_n v1)]) rfl ?_
  refine g_Run.ok fun hok => ?_
  refine r_aload_n x_406_0 rfl ?_
  refine r_bipush x_406_1 (x := 9) rfl ?_
  refine r_iload_n x_406_3 rfl ?_
  refine r_iconst x_406_4 ?_
  refine r_ic_ne x_406_5 (t := 16) (by decide +kernel) hv1 (g_Rk rfl) (fun hc => ?_) (fun hc => ?_)
  · replace h := h.2 hc
    refine r_iload_n x_406_16 rfl ?_
    obtain ⟨hO1, h⟩ := h
    refine r_invV x_406_17 (z := 405) (ns := 0) (by decide +kernel) (as := [g_n 9, g_n v1]) (r := []) rfl rfl rfl hO1 rfl rfl ?_
    refine r_callI h fun r5 M2 hx3 hok4 hr6 h => ?_
    replace h := h hx3 hok4 hr6
    replace hO1 := hO1.up hx3
    obtain ⟨hz, h⟩ := h
    exact r_retZ x_406_20 rfl hz h
  · replace h := h.1 hc
    refine r_aload_n x_406_8 rfl ?_
    refine r_iconst x_406_9 ?_
    obtain ⟨hO7, h⟩ := h
    refine r_invV x_406_10 (z := 238) (ns := 0) (by decide +kernel) (as := [g_n 0]) (r := [g_n 9, .ref a0]) rfl rfl rfl hO7 rfl rfl ?_
    refine r_callI h fun r11 M8 hx9 hok10 hr12 h => ?_
    replace h := h hx9 hok10 hr12
    replace hO7 := hO7.up hx9
    refine r_goto x_406_13 (t := 17) (by decide +kernel) ?_
    refine r_invV x_406_17 (z := 405) (ns := 0) (by decide +kernel) (as := [g_n 9, g_n r11]) (r := []) rfl rfl rfl hO7 rfl rfl ?_
    refine r_callI h fun r16 M13 hx14 hok15 hr17 h => ?_
    replace h := h hx14 hok15 hr17
    replace hO7 := hO7.up hx14
    obtain ⟨hz, h⟩ := h
    exact r_retZ x_406_20 rfl hz h
theorem m_X12_isShelf {d : Nat} {M : g_M} {Q : Int → g_M → Prop} {a0 : Nat} {v1 : Int} (hv1 : g_InR v1) (h : g_ok M → ((v1 = (-1) → Q 0 M) ∧ (¬ v1 = (-1) → g_O M a0 12 ∧ g_Call d 236 [.ref a0, g_n v1, .ref (4 * 83 + 1)] M (g_qI fun r5 M2 => g_ext M M2 → g_ok M2 → g_InR r5 → ((r5 = 0 → Q 0 M2) ∧ (¬ r5 = 0 → g_Call d 242 [.ref a0, g_n v1] M2 (g_qI fun r10 M7 => g_ext M2 M7 → g_ok M7 → g_InR r10 → ((r10 = 0 → Q 0 M7) ∧ (¬ r10 = 0 → g_Call d 243 [.ref a0, g_n v1] M7 (g_qL fun R15 M12 => g_ext M7 M12 → g_ok M12 → ((g_lc R15 0 = 0 → Q 1 M12) ∧ (¬ g_lc R15 0 = 0 → g_Call d 243 [.ref a0, g_n v1] M12 (g_qL fun R19 M16 => g_ext M12 M16 → g_ok M16 → ((g_lc R19 1 = 0 → Q 1 M16) ∧ (¬ g_lc R19 1 = 0 → Q 0 M16))))))))))))))) : g_Call (d + 1) 407 [.ref a0, g_n v1] M (g_qI Q) := by
  refine g_Call.ok fun hok0 => ?_
  replace h := h hok0
  refine r_body rfl (lv := [(0, .ref a0), (1, g_n v1)]) rfl ?_
  refine g_Run.ok fun hok => ?_
  refine r_iload_n x_407_0 rfl ?_
  refine r_iconst x_407_1 ?_
  refine r_ic_eq x_407_2 (t := 48) (by decide +kernel) hv1 (g_Rk rfl) (fun hc => ?_) (fun hc => ?_)
  · replace h := h.1 hc
    refine r_iconst x_407_48 ?_
    exact r_retZ x_407_49 rfl (Or.inl rfl) h
  · replace h := h.2 hc
    refine r_aload_n x_407_5 rfl ?_
    refine r_iload_n x_407_6 rfl ?_
    refine r_ldcw x_407_7 (v := .ref (4 * 83 + 1)) rfl ?_
    obtain ⟨hO1, h⟩ := h
    refine r_invV x_407_10 (z := 236) (ns := 0) (by decide +kernel) (as := [g_n v1, .ref (4 * 83 + 1)]) (r := []) rfl rfl rfl hO1 rfl rfl ?_
    refine r_callI h fun r5 M2 hx3 hok4 hr6 h => ?_
    replace h := h hx3 hok4 hr6
    replace hO1 := hO1.up hx3
    refine r_if_eq x_407_13 (t := 48) (by decide +kernel) hr6 (fun hc => ?_) (fun hc => ?_)
    · replace h := h.1 hc
      refine r_iconst x_407_48 ?_
      exact r_retZ x_407_49 rfl (Or.inl rfl) h
    · replace h := h.2 hc
      refine r_aload_n x_407_16 rfl ?_
      refine r_iload_n x_407_17 rfl ?_
      refine r_invV x_407_18 (z := 242) (ns := 0) (by decide +kernel) (as := [g_n v1]) (r := []) rfl rfl rfl hO1 rfl rfl ?_
      refine r_callI h fun r10 M7 hx8 hok9 hr11 h => ?_
      replace h := h hx8 hok9 hr11
      replace hO1 := hO1.up hx8
      refine r_if_eq x_407_21 (t := 48) (by decide +kernel) hr11 (fun hc => ?_) (fun hc => ?_)
      · replace h := h.1 hc
        refine r_iconst x_407_48 ?_
        exact r_retZ x_407_49 rfl (Or.inl rfl) h
      · replace h := h.2 hc
        refine r_aload_n x_407_24 rfl ?_
        refine r_iload_n x_407_25 rfl ?_
        refine r_invV x_407_26 (z := 243) (ns := 0) (by decide +kernel) (as := [g_n v1]) (r := []) rfl rfl rfl hO1 rfl rfl ?_
        refine r_callL h fun R15 M12 hx13 hok14 h => ?_
        replace h := h hx13 hok14
        replace hO1 := hO1.up hx13
        refine r_lconst x_407_29 ?_
        show g_Run d 407 30 [(0, .ref a0), (1, g_n v1)] [.long 0, .long R15] M12 _
        refine r_lcmp x_407_30 ?_
        refine r_if_eq x_407_31 (t := 44) (by decide +kernel) (g_InR_toInt _) (fun hc => ?_) (fun hc => ?_)
        · replace h := h.1 hc
          refine r_iconst x_407_44 ?_
          refine r_goto x_407_45 (t := 49) (by decide +kernel) ?_
          exact r_retZ x_407_49 rfl (Or.inr rfl) h
        · replace h := h.2 hc
          refine r_aload_n x_407_34 rfl ?_
          refine r_iload_n x_407_35 rfl ?_
          refine r_invV x_407_36 (z := 243) (ns := 0) (by decide +kernel) (as := [g_n v1]) (r := []) rfl rfl rfl hO1 rfl rfl ?_
          refine r_callL h fun R19 M16 hx17 hok18 h => ?_
          replace h := h hx17 hok18
          replace hO1 := hO1.up hx17
          refine r_lconst x_407_39 ?_
          show g_Run d 407 40 [(0, .ref a0), (1, g_n v1)] [.long 1, .long R19] M16 _
          refine r_lcmp x_407_40 ?_
          refine r_if_ne x_407_41 (t := 48) (by decide +kernel) (g_InR_toInt _) (fun hc => ?_) (fun hc => ?_)
          · replace h := h.2 hc
            refine r_iconst x_407_48 ?_
            exact r_retZ x_407_49 rfl (Or.inl rfl) h
          · replace h := h.1 hc
            refine r_iconst x_407_44 ?_
            refine r_goto x_407_45 (t := 49) (by decide +kernel) ?_
            exact r_retZ x_407_49 rfl (Or.inr rfl) h
theorem m_X12_takesDocument {d : Nat} {M : g_M} {Q : Int → g_M → Prop} {a0 : Nat} {v1 : Int} (hv1 : g_InR v1) (h : g_ok M → g_O M a0 12 ∧ g_Call d 236 [.ref a0, g_n v1, .ref (4 * 73 + 1)] M (g_qI fun r5 M2 => g_ext M M2 → g_ok M2 → g_InR r5 → ((r5 = 0 → g_Call d 236 [.ref a0, g_n v1, .ref (4 * 74 + 1)] M2 (g_qI fun r10 M7 => g_ext M2 M7 → g_ok M7 → g_InR r10 → ((r10 = 0 → g_Call d 236 [.ref a0, g_n v1, .ref (4 * 75 + 1)] M7 (g_qI fun r15 M12 => g_ext M7 M12 → g_ok M12 → g_InR r15 → ((r15 = 0 → g_Call d 236 [.ref a0, g_n v1, .ref (4 * 76 + 1)] M12 (g_qI fun r20 M17 => g_ext M12 M17 → g_ok M17 → g_InR r20 → ((r20 = 0 → g_Call d 236 [.ref a0, g_n v1, .ref (4 * 77 + 1)] M17 (g_qI fun r25 M22 => g_ext M17 M22 → g_ok M22 → g_InR r25 → ((r25 = 0 → g_Run d 408 60 [(0, .ref a0), (1, g_n v1)] [g_n 0] M22 (g_qI Q)) ∧ (¬ r25 = 0 → g_Run d 408 60 [(0, .ref a0), (1, g_n v1)] [g_n 1] M22 (g_qI Q))))) ∧ (¬ r20 = 0 → g_Run d 408 60 [(0, .ref a0), (1, g_n v1)] [g_n 1] M17 (g_qI Q))))) ∧ (¬ r15 = 0 → g_Run d 408 60 [(0, .ref a0), (1, g_n v1)] [g_n 1] M12 (g_qI Q))))) ∧ (¬ r10 = 0 → g_Run d 408 60 [(0, .ref a0), (1, g_n v1)] [g_n 1] M7 (g_qI Q))))) ∧ (¬ r5 = 0 → g_Run d 408 60 [(0, .ref a0), (1, g_n v1)] [g_n 1] M2 (g_qI Q))))) : g_Call (d + 1) 408 [.ref a0, g_n v1] M (g_qI Q) := by
  refine g_Call.ok fun hok0 => ?_
  replace h := h hok0
  refine r_body rfl (lv := [(0, .ref a0), (1, g_n v1)]) rfl ?_
  refine g_Run.ok fun hok => ?_
  refine r_aload_n x_408_0 rfl ?_
  refine r_iload_n x_408_1 rfl ?_
  refine r_ldcw x_408_2 (v := .ref (4 * 73 + 1)) rfl ?_
  obtain ⟨hO1, h⟩ := h
  refine r_invV x_408_5 (z := 236) (ns := 0) (by decide +kernel) (as := [g_n v1, .ref (4 * 73 + 1)]) (r := []) rfl rfl rfl hO1 rfl rfl ?_
  refine r_callI h fun r5 M2 hx3 hok4 hr6 h => ?_
  replace h := h hx3 hok4 hr6
  replace hO1 := hO1.up hx3
  refine r_if_ne x_408_8 (t := 55) (by decide +kernel) hr6 (fun hc => ?_) (fun hc => ?_)
  · replace h := h.2 hc
    refine r_iconst x_408_55 ?_
    refine r_goto x_408_56 (t := 60) (by decide +kernel) ?_
    exact h
  · replace h := h.1 hc
    refine r_aload_n x_408_11 rfl ?_
    refine r_iload_n x_408_12 rfl ?_
    refine r_ldcw x_408_13 (v := .ref (4 * 74 + 1)) rfl ?_
    refine r_invV x_408_16 (z := 236) (ns := 0) (by decide +kernel) (as := [g_n v1, .ref (4 * 74 + 1)]) (r := []) rfl rfl rfl hO1 rfl rfl ?_
    refine r_callI h fun r10 M7 hx8 hok9 hr11 h => ?_
    replace h := h hx8 hok9 hr11
    replace hO1 := hO1.up hx8
    refine r_if_ne x_408_19 (t := 55) (by decide +kernel) hr11 (fun hc => ?_) (fun hc => ?_)
    · replace h := h.2 hc
      refine r_iconst x_408_55 ?_
      refine r_goto x_408_56 (t := 60) (by decide +kernel) ?_
      exact h
    · replace h := h.1 hc
      refine r_aload_n x_408_22 rfl ?_
      refine r_iload_n x_408_23 rfl ?_
      refine r_ldcw x_408_24 (v := .ref (4 * 75 + 1)) rfl ?_
      refine r_invV x_408_27 (z := 236) (ns := 0) (by decide +kernel) (as := [g_n v1, .ref (4 * 75 + 1)]) (r := []) rfl rfl rfl hO1 rfl rfl ?_
      refine r_callI h fun r15 M12 hx13 hok14 hr16 h => ?_
      replace h := h hx13 hok14 hr16
      replace hO1 := hO1.up hx13
      refine r_if_ne x_408_30 (t := 55) (by decide +kernel) hr16 (fun hc => ?_) (fun hc => ?_)
      · replace h := h.2 hc
        refine r_iconst x_408_55 ?_
        refine r_goto x_408_56 (t := 60) (by decide +kernel) ?_
        exact h
      · replace h := h.1 hc
        refine r_aload_n x_408_33 rfl ?_
        refine r_iload_n x_408_34 rfl ?_
        refine r_ldcw x_408_35 (v := .ref (4 * 76 + 1)) rfl ?_
        refine r_invV x_408_38 (z := 236) (ns := 0) (by decide +kernel) (as := [g_n v1, .ref (4 * 76 + 1)]) (r := []) rfl rfl rfl hO1 rfl rfl ?_
        refine r_callI h fun r20 M17 hx18 hok19 hr21 h => ?_
        replace h := h hx18 hok19 hr21
        replace hO1 := hO1.up hx18
        refine r_if_ne x_408_41 (t := 55) (by decide +kernel) hr21 (fun hc => ?_) (fun hc => ?_)
        · replace h := h.2 hc
          refine r_iconst x_408_55 ?_
          refine r_goto x_408_56 (t := 60) (by decide +kernel) ?_
          exact h
        · replace h := h.1 hc
          refine r_aload_n x_408_44 rfl ?_
          refine r_iload_n x_408_45 rfl ?_
          refine r_ldcw x_408_46 (v := .ref (4 * 77 + 1)) rfl ?_
          refine r_invV x_408_49 (z := 236) (ns := 0) (by decide +kernel) (as := [g_n v1, .ref (4 * 77 + 1)]) (r := []) rfl rfl rfl hO1 rfl rfl ?_
          refine r_callI h fun r25 M22 hx23 hok24 hr26 h => ?_
          replace h := h hx23 hok24 hr26
          replace hO1 := hO1.up hx23
          refine r_if_eq x_408_52 (t := 59) (by decide +kernel) hr26 (fun hc => ?_) (fun hc => ?_)
          · replace h := h.1 hc
            refine r_iconst x_408_59 ?_
            exact h
          · replace h := h.2 hc
            refine r_iconst x_408_55 ?_
            refine r_goto x_408_56 (t := 60) (by decide +kernel) ?_
            exact h
theorem s_X12_takesDocument_60 {d : Nat} {M : g_M} {Q : Int → g_M → Prop} {a0 : Nat} {v1 : Int} (hv1 : g_InR v1) {w0 : Int} (hw0 : g_InR w0) (h : g_ok M → ((w0 = 0 → g_O M a0 12 ∧ g_Call d 236 [.ref a0, g_n v1, .ref (4 * 78 + 1)] M (g_qI fun r5 M2 => g_ext M M2 → g_ok M2 → g_InR r5 → ((r5 = 0 → Q 0 M2) ∧ (¬ r5 = 0 → Q 1 M2)))) ∧ (¬ w0 = 0 → Q 1 M))) : g_Run d 408 60 [(0, .ref a0), (1, g_n v1)] [g_n w0] M (g_qI Q) := by
  refine g_Run.ok fun hok => ?_
  replace h := h hok
  refine r_istore_n x_408_60 (by decide +kernel) rfl (lv1 := [(0, .ref a0), (1, g_n v1), (2, g_n w0)]) rfl ?_
  refine r_iload_n x_408_61 rfl ?_
  refine r_if_ne x_408_62 (t := 76) (by decide +kernel) hw0 (fun hc => ?_) (fun hc => ?_)
  · replace h := h.2 hc
    refine r_iconst x_408_76 ?_
    refine r_goto x_408_77 (t := 81) (by decide +kernel) ?_
    exact r_retZ x_408_81 rfl (Or.inr rfl) h
  · replace h := h.1 hc
    refine r_aload_n x_408_65 rfl ?_
    refine r_iload_n x_408_66 rfl ?_
    refine r_ldcw x_408_67 (v := .ref (4 * 78 + 1)) rfl ?_
    obtain ⟨hO1, h⟩ := h
    refine r_invV x_408_70 (z := 236) (ns := 0) (by decide +kernel) (as := [g_n v1, .ref (4 * 78 + 1)]) (r := []) rfl rfl rfl hO1 rfl rfl ?_
    refine r_callI h fun r5 M2 hx3 hok4 hr6 h => ?_
    replace h := h hx3 hok4 hr6
    replace hO1 := hO1.up hx3
    refine r_if_eq x_408_73 (t := 80) (by decide +kernel) hr6 (fun hc => ?_) (fun hc => ?_)
    · replace h := h.1 hc
      refine r_iconst x_408_80 ?_
      exact r_retZ x_408_81 rfl (Or.inl rfl) h
    · replace h := h.2 hc
      refine r_iconst x_408_76 ?_
      refine r_goto x_408_77 (t := 81) (by decide +kernel) ?_
      exact r_retZ x_408_81 rfl (Or.inr rfl) h
theorem m_X12_isRequest {d : Nat} {M : g_M} {Q : Int → g_M → Prop} {a0 : Nat} (h : g_ok M → g_O M a0 12 ∧ g_Call d 241 [.ref a0, g_n 0, g_n 0] M (g_qI fun r5 M2 => g_ext M M2 → g_ok M2 → g_InR r5 → ((r5 = (-1) → g_Call d 406 [.ref a0, g_n r5] M2 (g_qI fun r95 M92 => g_ext M2 M92 → g_ok M92 → g_InR r95 → (r95 = 0 ∨ r95 = 1) ∧ Q r95 M92)) ∧ (¬ r5 = (-1) → g_Call d 408 [.ref a0, g_n r5] M2 (g_qI fun r10 M7 => g_ext M2 M7 → g_ok M7 → g_InR r10 → ((r10 = 0 → g_Call d 236 [.ref a0, g_n r5, .ref (4 * 79 + 1)] M7 (g_qI fun r15 M12 => g_ext M7 M12 → g_ok M12 → g_InR r15 → ((r15 = 0 → g_Call d 236 [.ref a0, g_n r5, .ref (4 * 80 + 1)] M12 (g_qI fun r30 M27 => g_ext M12 M27 → g_ok M27 → g_InR r30 → ((r30 = 0 → g_Call d 236 [.ref a0, g_n r5, .ref (4 * 81 + 1)] M27 (g_qI fun r35 M32 => g_ext M27 M32 → g_ok M32 → g_InR r35 → ((r35 = 0 → g_Call d 236 [.ref a0, g_n r5, .ref (4 * 82 + 1)] M32 (g_qI fun r40 M37 => g_ext M32 M37 → g_ok M37 → g_InR r40 → ((r40 = 0 → g_Call d 406 [.ref a0, g_n r5] M37 (g_qI fun r50 M47 => g_ext M37 M47 → g_ok M47 → g_InR r50 → (r50 = 0 ∨ r50 = 1) ∧ Q r50 M47)) ∧ (¬ r40 = 0 → g_Call d 410 [.ref a0, g_n r5] M37 (g_qI fun r45 M42 => g_ext M37 M42 → g_ok M42 → g_InR r45 → ((r45 = 0 → Q 0 M42) ∧ (¬ r45 = 0 → g_Run d 409 182 [(0, .ref a0), (1, g_n r5)] [] M42 (g_qI Q)))))))) ∧ (¬ r35 = 0 → ∃ b52, g_r M32 a0 0 = some b52 ∧ ∃ n54, g_A M32 b52 0 n54 ∧ ((0 : Int) ≤ r5 ∧ (r5 : Int) < n54) ∧ ((g_i M32 b52 r5 = 4 → g_Call d 233 [.ref a0, g_n r5] M32 (g_qI fun r60 M57 => g_ext M32 M57 → g_ok M57 → g_InR r60 → g_Call d 237 [g_n r60] M57 (g_qI fun r65 M62 => g_ext M57 M62 → g_ok M62 → g_InR r65 → g_Run d 409 114 [(0, .ref a0), (1, g_n r5), (2, g_n r65)] [] M62 (g_qI Q)))) ∧ (¬ g_i M32 b52 r5 = 4 → g_Call d 406 [.ref a0, g_n r5] M32 (g_qI fun r70 M67 => g_ext M32 M67 → g_ok M67 → g_InR r70 → (r70 = 0 ∨ r70 = 1) ∧ Q r70 M67))))))) ∧ (¬ r30 = 0 → g_Call d 242 [.ref a0, g_n r5] M27 (g_qI fun r75 M72 => g_ext M27 M72 → g_ok M72 → g_InR r75 → ((r75 = 0 → g_Call d 406 [.ref a0, g_n r5] M72 (g_qI fun r80 M77 => g_ext M72 M77 → g_ok M77 → g_InR r80 → (r80 = 0 ∨ r80 = 1) ∧ Q r80 M77)) ∧ (¬ r75 = 0 → g_Run d 409 182 [(0, .ref a0), (1, g_n r5)] [] M72 (g_qI Q)))))))) ∧ (¬ r15 = 0 → g_Call d 242 [.ref a0, g_n r5] M12 (g_qI fun r20 M17 => g_ext M12 M17 → g_ok M17 → g_InR r20 → ((r20 = 0 → g_Call d 406 [.ref a0, g_n r5] M17 (g_qI fun r25 M22 => g_ext M17 M22 → g_ok M22 → g_InR r25 → (r25 = 0 ∨ r25 = 1) ∧ Q r25 M22)) ∧ (¬ r20 = 0 → g_Run d 409 182 [(0, .ref a0), (1, g_n r5)] [] M17 (g_qI Q)))))))) ∧ (¬ r10 = 0 → ∃ b82, g_r M7 a0 0 = some b82 ∧ ∃ n84, g_A M7 b82 0 n84 ∧ ((0 : Int) ≤ r5 ∧ (r5 : Int) < n84) ∧ ((g_i M7 b82 r5 = 3 → g_Run d 409 182 [(0, .ref a0), (1, g_n r5)] [] M7 (g_qI Q)) ∧ (¬ g_i M7 b82 r5 = 3 → g_Call d 406 [.ref a0, g_n r5] M7 (g_qI fun r90 M87 => g_ext M7 M87 → g_ok M87 → g_InR r90 → (r90 = 0 ∨ r90 = 1) ∧ Q r90 M87)))))))))) : g_Call (d + 1) 409 [.ref a0] M (g_qI Q) := by
  refine g_Call.ok fun hok0 => ?_
  replace h := h hok0
  refine r_body rfl (lv := [(0, .ref a0)]) rfl ?_
  refine g_Run.ok fun hok => ?_
  refine r_aload_n x_409_0 rfl ?_
  refine r_iconst x_409_1 ?_
  refine r_iconst x_409_2 ?_
  obtain ⟨hO1, h⟩ := h
  refine r_invV x_409_3 (z := 241) (ns := 0) (by decide +kernel) (as := [g_n 0, g_n 0]) (r := []) rfl rfl rfl hO1 rfl rfl ?_
  refine r_callI h fun r5 M2 hx3 hok4 hr6 h => ?_
  replace h := h hx3 hok4 hr6
  replace hO1 := hO1.up hx3
  refine r_istore_n x_409_6 (by decide +kernel) rfl (lv1 := [(0, .ref a0), (1, g_n r5)]) rfl ?_
  refine r_iload_n x_409_7 rfl ?_
  refine r_iconst x_409_8 ?_
  refine r_ic_ne x_409_9 (t := 18) (by decide +kernel) hr6 (g_Rk rfl) (fun hc => ?_) (fun hc => ?_)
  · replace h := h.2 hc
    refine r_aload_n x_409_18 rfl ?_
    refine r_iload_n x_409_19 rfl ?_
    refine r_invV x_409_20 (z := 408) (ns := 0) (by decide +kernel) (as := [g_n r5]) (r := []) rfl rfl rfl hO1 rfl rfl ?_
    refine r_callI h fun r10 M7 hx8 hok9 hr11 h => ?_
    replace h := h hx8 hok9 hr11
    replace hO1 := hO1.up hx8
    refine r_if_eq x_409_23 (t := 42) (by decide +kernel) hr11 (fun hc => ?_) (fun hc => ?_)
    · replace h := h.1 hc
      refine r_aload_n x_409_42 rfl ?_
      refine r_iload_n x_409_43 rfl ?_
      refine r_ldcw x_409_44 (v := .ref (4 * 79 + 1)) rfl ?_
      refine r_invV x_409_47 (z := 236) (ns := 0) (by decide +kernel) (as := [g_n r5, .ref (4 * 79 + 1)]) (r := []) rfl rfl rfl hO1 rfl rfl ?_
      refine r_callI h fun r15 M12 hx13 hok14 hr16 h => ?_
      replace h := h hx13 hok14 hr16
      replace hO1 := hO1.up hx13
      refine r_if_ne x_409_50 (t := 64) (by decide +kernel) hr16 (fun hc => ?_) (fun hc => ?_)
      · replace h := h.2 hc
        refine r_aload_n x_409_64 rfl ?_
        refine r_iload_n x_409_65 rfl ?_
        refine r_invV x_409_66 (z := 242) (ns := 0) (by decide +kernel) (as := [g_n r5]) (r := []) rfl rfl rfl hO1 rfl rfl ?_
        refine r_callI h fun r20 M17 hx18 hok19 hr21 h => ?_
        replace h := h hx18 hok19 hr21
        replace hO1 := hO1.up hx18
        refine r_if_ne x_409_69 (t := 182) (by decide +kernel) hr21 (fun hc => ?_) (fun hc => ?_)
        · replace h := h.2 hc
          exact h
        · replace h := h.1 hc
          refine r_aload_n x_409_72 rfl ?_
          refine r_iload_n x_409_73 rfl ?_
          refine r_invV x_409_74 (z := 406) (ns := 0) (by decide +kernel) (as := [g_n r5]) (r := []) rfl rfl rfl hO1 rfl rfl ?_
          refine r_callI h fun r25 M22 hx23 hok24 hr26 h => ?_
          replace h := h hx23 hok24 hr26
          replace hO1 := hO1.up hx23
          obtain ⟨hz, h⟩ := h
          exact r_retZ x_409_77 rfl hz h
      · replace h := h.1 hc
        refine r_aload_n x_409_53 rfl ?_
        refine r_iload_n x_409_54 rfl ?_
        refine r_ldcw x_409_55 (v := .ref (4 * 80 + 1)) rfl ?_
        refine r_invV x_409_58 (z := 236) (ns := 0) (by decide +kernel) (as := [g_n r5, .ref (4 * 80 + 1)]) (r := []) rfl rfl rfl hO1 rfl rfl ?_
        refine r_callI h fun r30 M27 hx28 hok29 hr31 h => ?_
        replace h := h hx28 hok29 hr31
        replace hO1 := hO1.up hx28
        refine r_if_eq x_409_61 (t := 78) (by decide +kernel) hr31 (fun hc => ?_) (fun hc => ?_)
        · replace h := h.1 hc
          refine r_aload_n x_409_78 rfl ?_
          refine r_iload_n x_409_79 rfl ?_
          refine r_ldcw x_409_80 (v := .ref (4 * 81 + 1)) rfl ?_
          refine r_invV x_409_83 (z := 236) (ns := 0) (by decide +kernel) (as := [g_n r5, .ref (4 * 81 + 1)]) (r := []) rfl rfl rfl hO1 rfl rfl ?_
          refine r_callI h fun r35 M32 hx33 hok34 hr36 h => ?_
          replace h := h hx33 hok34 hr36
          replace hO1 := hO1.up hx33
          refine r_if_eq x_409_86 (t := 155) (by decide +kernel) hr36 (fun hc => ?_) (fun hc => ?_)
          · replace h := h.1 hc
            refine r_aload_n x_409_155 rfl ?_
            refine r_iload_n x_409_156 rfl ?_
            refine r_ldcw x_409_157 (v := .ref (4 * 82 + 1)) rfl ?_
            refine r_invV x_409_160 (z := 236) (ns := 0) (by decide +kernel) (as := [g_n r5, .ref (4 * 82 + 1)]) (r := []) rfl rfl rfl hO1 rfl rfl ?_
            refine r_callI h fun r40 M37 hx38 hok39 hr41 h => ?_
            replace h := h hx38 hok39 hr41
            replace hO1 := hO1.up hx38
            refine r_if_ne x_409_163 (t := 172) (by decide +kernel) hr41 (fun hc => ?_) (fun hc => ?_)
            · replace h := h.2 hc
              refine r_aload_n x_409_172 rfl ?_
              refine r_iload_n x_409_173 rfl ?_
              refine r_invV x_409_174 (z := 410) (ns := 0) (by decide +kernel) (as := [g_n r5]) (r := []) rfl rfl rfl hO1 rfl rfl ?_
              refine r_callI h fun r45 M42 hx43 hok44 hr46 h => ?_
              replace h := h hx43 hok44 hr46
              replace hO1 := hO1.up hx43
              refine r_if_ne x_409_177 (t := 182) (by decide +kernel) hr46 (fun hc => ?_) (fun hc => ?_)
              · replace h := h.2 hc
                exact h
              · replace h := h.1 hc
                refine r_iconst x_409_180 ?_
                exact r_retZ x_409_181 rfl (Or.inl rfl) h
            · replace h := h.1 hc
              refine r_aload_n x_409_166 rfl ?_
              refine r_iload_n x_409_167 rfl ?_
              refine r_invV x_409_168 (z := 406) (ns := 0) (by decide +kernel) (as := [g_n r5]) (r := []) rfl rfl rfl hO1 rfl rfl ?_
              refine r_callI h fun r50 M47 hx48 hok49 hr51 h => ?_
              replace h := h hx48 hok49 hr51
              replace hO1 := hO1.up hx48
              obtain ⟨hz, h⟩ := h
              exact r_retZ x_409_171 rfl hz h
          · replace h := h.2 hc
            refine r_aload_n x_409_89 rfl ?_
            obtain ⟨b52, hb53, h⟩ := h
            refine r_getR x_409_90 rfl (ci := 12) (k := 0) (ns := 0) (by decide +kernel) (by decide) rfl (kz := 0) rfl hO1 hb53 ?_
            refine r_iload_n x_409_93 rfl ?_
            obtain ⟨n54, hA55, h⟩ := h
            obtain ⟨h56, h⟩ := h
            refine r_bald x_409_94 (Or.inl rfl) hA55 hr6 h56.1 h56.2 ?_
            refine r_iconst x_409_95 ?_
            refine r_ic_eq x_409_96 (t := 105) (by decide +kernel) (hok34.1 _ _) (g_Rk rfl) (fun hc => ?_) (fun hc => ?_)
            · replace h := h.1 hc
              refine r_aload_n x_409_105 rfl ?_
              refine r_iload_n x_409_106 rfl ?_
              refine r_invV x_409_107 (z := 233) (ns := 0) (by decide +kernel) (as := [g_n r5]) (r := []) rfl rfl rfl hO1 rfl rfl ?_
              refine r_callI h fun r60 M57 hx58 hok59 hr61 h => ?_
              replace h := h hx58 hok59 hr61
              replace hO1 := hO1.up hx58
              replace hA55 := hA55.up hx58
              refine r_invS x_409_110 (z := 237) (ns := 0) (by decide +kernel) (as := [g_n r60]) (r := []) rfl rfl rfl ?_
              refine r_callI h fun r65 M62 hx63 hok64 hr66 h => ?_
              replace h := h hx63 hok64 hr66
              replace hO1 := hO1.up hx63
              replace hA55 := hA55.up hx63
              refine r_istore_n x_409_113 (by decide +kernel) rfl (lv1 := [(0, .ref a0), (1, g_n r5), (2, g_n r65)]) rfl ?_
              exact h
            · replace h := h.2 hc
              refine r_aload_n x_409_99 rfl ?_
              refine r_iload_n x_409_100 rfl ?_
              refine r_invV x_409_101 (z := 406) (ns := 0) (by decide +kernel) (as := [g_n r5]) (r := []) rfl rfl rfl hO1 rfl rfl ?_
              refine r_callI h fun r70 M67 hx68 hok69 hr71 h => ?_
              replace h := h hx68 hok69 hr71
              replace hO1 := hO1.up hx68
              replace hA55 := hA55.up hx68
              obtain ⟨hz, h⟩ := h
              exact r_retZ x_409_104 rfl hz h
        · replace h := h.2 hc
          refine r_aload_n x_409_64 rfl ?_
          refine r_iload_n x_409_65 rfl ?_
          refine r_invV x_409_66 (z := 242) (ns := 0) (by decide +kernel) (as := [g_n r5]) (r := []) rfl rfl rfl hO1 rfl rfl ?_
          refine r_callI h fun r75 M72 hx73 hok74 hr76 h => ?_
          replace h := h hx73 hok74 hr76
          replace hO1 := hO1.up hx73
          refine r_if_ne x_409_69 (t := 182) (by decide +kernel) hr76 (fun hc => ?_) (fun hc => ?_)
          · replace h := h.2 hc
            exact h
          · replace h := h.1 hc
            refine r_aload_n x_409_72 rfl ?_
            refine r_iload_n x_409_73 rfl ?_
            refine r_invV x_409_74 (z := 406) (ns := 0) (by decide +kernel) (as := [g_n r5]) (r := []) rfl rfl rfl hO1 rfl rfl ?_
            refine r_callI h fun r80 M77 hx78 hok79 hr81 h => ?_
            replace h := h hx78 hok79 hr81
            replace hO1 := hO1.up hx78
            obtain ⟨hz, h⟩ := h
            exact r_retZ x_409_77 rfl hz h
    · replace h := h.2 hc
      refine r_aload_n x_409_26 rfl ?_
      obtain ⟨b82, hb83, h⟩ := h
      refine r_getR x_409_27 rfl (ci := 12) (k := 0) (ns := 0) (by decide +kernel) (by decide) rfl (kz := 0) rfl hO1 hb83 ?_
      refine r_iload_n x_409_30 rfl ?_
      obtain ⟨n84, hA85, h⟩ := h
      obtain ⟨h86, h⟩ := h
      refine r_bald x_409_31 (Or.inl rfl) hA85 hr6 h86.1 h86.2 ?_
      refine r_iconst x_409_32 ?_
      refine r_ic_eq x_409_33 (t := 182) (by decide +kernel) (hok9.1 _ _) (g_Rk rfl) (fun hc => ?_) (fun hc => ?_)
      · replace h := h.1 hc
        exact h
      · replace h := h.2 hc
        refine r_aload_n x_409_36 rfl ?_
        refine r_iload_n x_409_37 rfl ?_
        refine r_invV x_409_38 (z := 406) (ns := 0) (by decide +kernel) (as := [g_n r5]) (r := []) rfl rfl rfl hO1 rfl rfl ?_
        refine r_callI h fun r90 M87 hx88 hok89 hr91 h => ?_
        replace h := h hx88 hok89 hr91
        replace hO1 := hO1.up hx88
        replace hA85 := hA85.up hx88
        obtain ⟨hz, h⟩ := h
        exact r_retZ x_409_41 rfl hz h
  · replace h := h.1 hc
    refine r_aload_n x_409_12 rfl ?_
    refine r_iload_n x_409_13 rfl ?_
    refine r_invV x_409_14 (z := 406) (ns := 0) (by decide +kernel) (as := [g_n r5]) (r := []) rfl rfl rfl hO1 rfl rfl ?_
    refine r_callI h fun r95 M92 hx93 hok94 hr96 h => ?_
    replace h := h hx93 hok94 hr96
    replace hO1 := hO1.up hx93
    obtain ⟨hz, h⟩ := h
    exact r_retZ x_409_17 rfl hz h
theorem s_X12_isRequest_114 {d : Nat} {M : g_M} {Q : Int → g_M → Prop} {a0 : Nat} {v1 : Int} (hv1 : g_InR v1) {v2 : Int} (hv2 : g_InR v2) (h : g_ok M → g_O M a0 12 ∧ g_Call d 233 [.ref a0, g_n v1] M (g_qI fun r5 M2 => g_ext M M2 → g_ok M2 → g_InR r5 → g_Call d 238 [.ref a0, g_n r5] M2 (g_qI fun r10 M7 => g_ext M2 M7 → g_ok M7 → g_InR r10 → ((v2 < r10 → ∃ b12, g_r M7 a0 0 = some b12 ∧ ∃ n14, g_A M7 b12 0 n14 ∧ ((0 : Int) ≤ v2 ∧ (v2 : Int) < n14) ∧ ((g_i M7 b12 v2 = 3 → g_Call d 235 [.ref a0, g_n v2] M7 (g_qI fun r20 M17 => g_ext M7 M17 → g_ok M17 → g_InR r20 → g_Run d 409 114 [(0, .ref a0), (1, g_n v1), (2, g_n r20)] [] M17 (g_qI Q))) ∧ (¬ g_i M7 b12 v2 = 3 → g_Call d 406 [.ref a0, g_n v2] M7 (g_qI fun r25 M22 => g_ext M7 M22 → g_ok M22 → g_InR r25 → (r25 = 0 ∨ r25 = 1) ∧ Q r25 M22)))) ∧ (¬ v2 < r10 → g_Run d 409 182 [(0, .ref a0), (1, g_n v1)] [] M7 (g_qI Q)))))) : g_Run d 409 114 [(0, .ref a0), (1, g_n v1), (2, g_n v2)] [] M (g_qI Q) := by
  refine g_Run.ok fun hok => ?_
  replace h := h hok
  refine r_iload_n x_409_114 rfl ?_
  refine r_aload_n x_409_115 rfl ?_
  refine r_aload_n x_409_116 rfl ?_
  refine r_iload_n x_409_117 rfl ?_
  obtain ⟨hO1, h⟩ := h
  refine r_invV x_409_118 (z := 233) (ns := 0) (by decide +kernel) (as := [g_n v1]) (r := [.ref a0, g_n v2]) rfl rfl rfl hO1 rfl rfl ?_
  refine r_callI h fun r5 M2 hx3 hok4 hr6 h => ?_
  replace h := h hx3 hok4 hr6
  replace hO1 := hO1.up hx3
  refine r_invV x_409_121 (z := 238) (ns := 0) (by decide +kernel) (as := [g_n r5]) (r := [g_n v2]) rfl rfl rfl hO1 rfl rfl ?_
  refine r_callI h fun r10 M7 hx8 hok9 hr11 h => ?_
  replace h := h hx8 hok9 hr11
  replace hO1 := hO1.up hx8
  refine r_ic_ge x_409_124 (t := 152) (by decide +kernel) hv2 hr11 (fun hc => ?_) (fun hc => ?_)
  · replace h := h.2 hc
    refine r_goto x_409_152 (t := 182) (by decide +kernel) ?_
    refine g_drop [0, 1] (lv1 := [(0, .ref a0), (1, g_n v1)]) rfl ?_
    exact h
  · replace h := h.1 hc
    refine r_aload_n x_409_127 rfl ?_
    obtain ⟨b12, hb13, h⟩ := h
    refine r_getR x_409_128 rfl (ci := 12) (k := 0) (ns := 0) (by decide +kernel) (by decide) rfl (kz := 0) rfl hO1 hb13 ?_
    refine r_iload_n x_409_131 rfl ?_
    obtain ⟨n14, hA15, h⟩ := h
    obtain ⟨h16, h⟩ := h
    refine r_bald x_409_132 (Or.inl rfl) hA15 hv2 h16.1 h16.2 ?_
    refine r_iconst x_409_133 ?_
    refine r_ic_eq x_409_134 (t := 143) (by decide +kernel) (hok9.1 _ _) (g_Rk rfl) (fun hc => ?_) (fun hc => ?_)
    · replace h := h.1 hc
      refine r_aload_n x_409_143 rfl ?_
      refine r_iload_n x_409_144 rfl ?_
      refine r_invV x_409_145 (z := 235) (ns := 0) (by decide +kernel) (as := [g_n v2]) (r := []) rfl rfl rfl hO1 rfl rfl ?_
      refine r_callI h fun r20 M17 hx18 hok19 hr21 h => ?_
      replace h := h hx18 hok19 hr21
      replace hO1 := hO1.up hx18
      replace hA15 := hA15.up hx18
      refine r_istore_n x_409_148 (by decide +kernel) rfl (lv1 := [(0, .ref a0), (1, g_n v1), (2, g_n r20)]) rfl ?_
      refine r_goto x_409_149 (t := 114) (by decide +kernel) ?_
      exact h
    · replace h := h.2 hc
      refine r_aload_n x_409_137 rfl ?_
      refine r_iload_n x_409_138 rfl ?_
      refine r_invV x_409_139 (z := 406) (ns := 0) (by decide +kernel) (as := [g_n v2]) (r := []) rfl rfl rfl hO1 rfl rfl ?_
      refine r_callI h fun r25 M22 hx23 hok24 hr26 h => ?_
      replace h := h hx23 hok24 hr26
      replace hO1 := hO1.up hx23
      replace hA15 := hA15.up hx23
      obtain ⟨hz, h⟩ := h
      exact r_retZ x_409_142 rfl hz h
theorem s_X12_isRequest_182 {d : Nat} {M : g_M} {Q : Int → g_M → Prop} {a0 : Nat} {v1 : Int} (hv1 : g_InR v1) (h : g_ok M → g_O M a0 12 ∧ g_Call d 241 [.ref a0, g_n 0, g_n 1] M (g_qI fun r5 M2 => g_ext M M2 → g_ok M2 → g_InR r5 → g_Call d 407 [.ref a0, g_n r5] M2 (g_qI fun r10 M7 => g_ext M2 M7 → g_ok M7 → g_InR r10 → ((r10 = 0 → g_Call d 406 [.ref a0, g_n r5] M7 (g_qI fun r70 M67 => g_ext M7 M67 → g_ok M67 → g_InR r70 → (r70 = 0 ∨ r70 = 1) ∧ Q r70 M67)) ∧ (¬ r10 = 0 → g_Call d 241 [.ref a0, g_n 0, g_n 2] M7 (g_qI fun r15 M12 => g_ext M7 M12 → g_ok M12 → g_InR r15 → g_Call d 236 [.ref a0, g_n v1, .ref (4 * 76 + 1)] M12 (g_qI fun r20 M17 => g_ext M12 M17 → g_ok M17 → g_InR r20 → ((r20 = 0 → g_Call d 236 [.ref a0, g_n v1, .ref (4 * 82 + 1)] M17 (g_qI fun r25 M22 => g_ext M17 M22 → g_ok M22 → g_InR r25 → ((r25 = 0 → g_Run d 409 292 [(0, .ref a0), (1, g_n v1), (2, g_n r5), (3, g_n r15)] [] M22 (g_qI Q)) ∧ (¬ r25 = 0 → g_Call d 411 [.ref a0, g_n v1, g_n r15] M22 (g_qI fun r30 M27 => g_ext M22 M27 → g_ok M27 → g_InR r30 → ((r30 = 0 → Q 0 M27) ∧ (¬ r30 = 0 → g_Call d 241 [.ref a0, g_n 0, g_n 3] M27 (g_qI fun r35 M32 => g_ext M27 M32 → g_ok M32 → g_InR r35 → g_Run d 409 292 [(0, .ref a0), (1, g_n v1), (2, g_n r5), (3, g_n r35)] [] M32 (g_qI Q))))))))) ∧ (¬ r20 = 0 → ((r15 = (-1) → g_Call d 406 [.ref a0, g_n r15] M17 (g_qI fun r40 M37 => g_ext M17 M37 → g_ok M37 → g_InR r40 → (r40 = 0 ∨ r40 = 1) ∧ Q r40 M37)) ∧ (¬ r15 = (-1) → g_Call d 236 [.ref a0, g_n r15, .ref (4 * 84 + 1)] M17 (g_qI fun r45 M42 => g_ext M17 M42 → g_ok M42 → g_InR r45 → ((r45 = 0 → g_Call d 406 [.ref a0, g_n r15] M42 (g_qI fun r50 M47 => g_ext M42 M47 → g_ok M47 → g_InR r50 → (r50 = 0 ∨ r50 = 1) ∧ Q r50 M47)) ∧ (¬ r45 = 0 → ∃ b52, g_r M42 a0 0 = some b52 ∧ ∃ n54, g_A M42 b52 0 n54 ∧ ((0 : Int) ≤ r15 ∧ (r15 : Int) < n54) ∧ ((g_i M42 b52 r15 = 3 → g_Call d 241 [.ref a0, g_n 0, g_n 3] M42 (g_qI fun r60 M57 => g_ext M42 M57 → g_ok M57 → g_InR r60 → g_Run d 409 292 [(0, .ref a0), (1, g_n v1), (2, g_n r5), (3, g_n r60)] [] M57 (g_qI Q))) ∧ (¬ g_i M42 b52 r15 = 3 → g_Call d 406 [.ref a0, g_n r15] M42 (g_qI fun r65 M62 => g_ext M42 M62 → g_ok M62 → g_InR r65 → (r65 = 0 ∨ r65 = 1) ∧ Q r65 M62))))))))))))))))) : g_Run d 409 182 [(0, .ref a0), (1, g_n v1)] [] M (g_qI Q) := by
  refine g_Run.ok fun hok => ?_
  replace h := h hok
  refine r_aload_n x_409_182 rfl ?_
  refine r_iconst x_409_183 ?_
  refine r_iconst x_409_184 ?_
  obtain ⟨hO1, h⟩ := h
  refine r_invV x_409_185 (z := 241) (ns := 0) (by decide +kernel) (as := [g_n 0, g_n 1]) (r := []) rfl rfl rfl hO1 rfl rfl ?_
  refine r_callI h fun r5 M2 hx3 hok4 hr6 h => ?_
  replace h := h hx3 hok4 hr6
  replace hO1 := hO1.up hx3
  refine r_istore_n x_409_188 (by decide +kernel) rfl (lv1 := [(0, .ref a0), (1, g_n v1), (2, g_n r5)]) rfl ?_
  refine r_aload_n x_409_189 rfl ?_
  refine r_iload_n x_409_190 rfl ?_
  refine r_invV x_409_191 (z := 407) (ns := 0) (by decide +kernel) (as := [g_n r5]) (r := []) rfl rfl rfl hO1 rfl rfl ?_
  refine r_callI h fun r10 M7 hx8 hok9 hr11 h => ?_
  replace h := h hx8 hok9 hr11
  replace hO1 := hO1.up hx8
  refine r_if_ne x_409_194 (t := 203) (by decide +kernel) hr11 (fun hc => ?_) (fun hc => ?_)
  · replace h := h.2 hc
    refine r_aload_n x_409_203 rfl ?_
    refine r_iconst x_409_204 ?_
    refine r_iconst x_409_205 ?_
    refine r_invV x_409_206 (z := 241) (ns := 0) (by decide +kernel) (as := [g_n 0, g_n 2]) (r := []) rfl rfl rfl hO1 rfl rfl ?_
    refine r_callI h fun r15 M12 hx13 hok14 hr16 h => ?_
    replace h := h hx13 hok14 hr16
    replace hO1 := hO1.up hx13
    refine r_istore_n x_409_209 (by decide +kernel) rfl (lv1 := [(0, .ref a0), (1, g_n v1), (2, g_n r5), (3, g_n r15)]) rfl ?_
    refine r_aload_n x_409_210 rfl ?_
    refine r_iload_n x_409_211 rfl ?_
    refine r_ldcw x_409_212 (v := .ref (4 * 76 + 1)) rfl ?_
    refine r_invV x_409_215 (z := 236) (ns := 0) (by decide +kernel) (as := [g_n v1, .ref (4 * 76 + 1)]) (r := []) rfl rfl rfl hO1 rfl rfl ?_
    refine r_callI h fun r20 M17 hx18 hok19 hr21 h => ?_
    replace h := h hx18 hok19 hr21
    replace hO1 := hO1.up hx18
    refine r_if_eq x_409_218 (t := 263) (by decide +kernel) hr21 (fun hc => ?_) (fun hc => ?_)
    · replace h := h.1 hc
      refine r_aload_n x_409_263 rfl ?_
      refine r_iload_n x_409_264 rfl ?_
      refine r_ldcw x_409_265 (v := .ref (4 * 82 + 1)) rfl ?_
      refine r_invV x_409_268 (z := 236) (ns := 0) (by decide +kernel) (as := [g_n v1, .ref (4 * 82 + 1)]) (r := []) rfl rfl rfl hO1 rfl rfl ?_
      refine r_callI h fun r25 M22 hx23 hok24 hr26 h => ?_
      replace h := h hx23 hok24 hr26
      replace hO1 := hO1.up hx23
      refine r_if_eq x_409_271 (t := 292) (by decide +kernel) hr26 (fun hc => ?_) (fun hc => ?_)
      · replace h := h.1 hc
        exact h
      · replace h := h.2 hc
        refine r_aload_n x_409_274 rfl ?_
        refine r_iload_n x_409_275 rfl ?_
        refine r_iload_n x_409_276 rfl ?_
        refine r_invV x_409_277 (z := 411) (ns := 0) (by decide +kernel) (as := [g_n v1, g_n r15]) (r := []) rfl rfl rfl hO1 rfl rfl ?_
        refine r_callI h fun r30 M27 hx28 hok29 hr31 h => ?_
        replace h := h hx28 hok29 hr31
        replace hO1 := hO1.up hx28
        refine r_if_ne x_409_280 (t := 285) (by decide +kernel) hr31 (fun hc => ?_) (fun hc => ?_)
        · replace h := h.2 hc
          refine r_aload_n x_409_285 rfl ?_
          refine r_iconst x_409_286 ?_
          refine r_iconst x_409_287 ?_
          refine r_invV x_409_288 (z := 241) (ns := 0) (by decide +kernel) (as := [g_n 0, g_n 3]) (r := []) rfl rfl rfl hO1 rfl rfl ?_
          refine r_callI h fun r35 M32 hx33 hok34 hr36 h => ?_
          replace h := h hx33 hok34 hr36
          replace hO1 := hO1.up hx33
          refine r_istore_n x_409_291 (by decide +kernel) rfl (lv1 := [(0, .ref a0), (1, g_n v1), (2, g_n r5), (3, g_n r35)]) rfl ?_
          exact h
        · replace h := h.1 hc
          refine r_iconst x_409_283 ?_
          exact r_retZ x_409_284 rfl (Or.inl rfl) h
    · replace h := h.2 hc
      refine r_iload_n x_409_221 rfl ?_
      refine r_iconst x_409_222 ?_
      refine r_ic_eq x_409_223 (t := 247) (by decide +kernel) hr16 (g_Rk rfl) (fun hc => ?_) (fun hc => ?_)
      · replace h := h.1 hc
        refine r_aload_n x_409_247 rfl ?_
        refine r_iload_n x_409_248 rfl ?_
        refine r_invV x_409_249 (z := 406) (ns := 0) (by decide +kernel) (as := [g_n r15]) (r := []) rfl rfl rfl hO1 rfl rfl ?_
        refine r_callI h fun r40 M37 hx38 hok39 hr41 h => ?_
        replace h := h hx38 hok39 hr41
        replace hO1 := hO1.up hx38
        obtain ⟨hz, h⟩ := h
        exact r_retZ x_409_252 rfl hz h
      · replace h := h.2 hc
        refine r_aload_n x_409_226 rfl ?_
        refine r_iload_n x_409_227 rfl ?_
        refine r_ldcw x_409_228 (v := .ref (4 * 84 + 1)) rfl ?_
        refine r_invV x_409_231 (z := 236) (ns := 0) (by decide +kernel) (as := [g_n r15, .ref (4 * 84 + 1)]) (r := []) rfl rfl rfl hO1 rfl rfl ?_
        refine r_callI h fun r45 M42 hx43 hok44 hr46 h => ?_
        replace h := h hx43 hok44 hr46
        replace hO1 := hO1.up hx43
        refine r_if_eq x_409_234 (t := 247) (by decide +kernel) hr46 (fun hc => ?_) (fun hc => ?_)
        · replace h := h.1 hc
          refine r_aload_n x_409_247 rfl ?_
          refine r_iload_n x_409_248 rfl ?_
          refine r_invV x_409_249 (z := 406) (ns := 0) (by decide +kernel) (as := [g_n r15]) (r := []) rfl rfl rfl hO1 rfl rfl ?_
          refine r_callI h fun r50 M47 hx48 hok49 hr51 h => ?_
          replace h := h hx48 hok49 hr51
          replace hO1 := hO1.up hx48
          obtain ⟨hz, h⟩ := h
          exact r_retZ x_409_252 rfl hz h
        · replace h := h.2 hc
          refine r_aload_n x_409_237 rfl ?_
          obtain ⟨b52, hb53, h⟩ := h
          refine r_getR x_409_238 rfl (ci := 12) (k := 0) (ns := 0) (by decide +kernel) (by decide) rfl (kz := 0) rfl hO1 hb53 ?_
          refine r_iload_n x_409_241 rfl ?_
          obtain ⟨n54, hA55, h⟩ := h
          obtain ⟨h56, h⟩ := h
          refine r_bald x_409_242 (Or.inl rfl) hA55 hr16 h56.1 h56.2 ?_
          refine r_iconst x_409_243 ?_
          refine r_ic_eq x_409_244 (t := 253) (by decide +kernel) (hok44.1 _ _) (g_Rk rfl) (fun hc => ?_) (fun hc => ?_)
          · replace h := h.1 hc
            refine r_aload_n x_409_253 rfl ?_
            refine r_iconst x_409_254 ?_
            refine r_iconst x_409_255 ?_
            refine r_invV x_409_256 (z := 241) (ns := 0) (by decide +kernel) (as := [g_n 0, g_n 3]) (r := []) rfl rfl rfl hO1 rfl rfl ?_
            refine r_callI h fun r60 M57 hx58 hok59 hr61 h => ?_
            replace h := h hx58 hok59 hr61
            replace hO1 := hO1.up hx58
            replace hA55 := hA55.up hx58
            refine r_istore_n x_409_259 (by decide +kernel) rfl (lv1 := [(0, .ref a0), (1, g_n v1), (2, g_n r5), (3, g_n r60)]) rfl ?_
            refine r_goto x_409_260 (t := 292) (by decide +kernel) ?_
            exact h
          · replace h := h.2 hc
            refine r_aload_n x_409_247 rfl ?_
            refine r_iload_n x_409_248 rfl ?_
            refine r_invV x_409_249 (z := 406) (ns := 0) (by decide +kernel) (as := [g_n r15]) (r := []) rfl rfl rfl hO1 rfl rfl ?_
            refine r_callI h fun r65 M62 hx63 hok64 hr66 h => ?_
            replace h := h hx63 hok64 hr66
            replace hO1 := hO1.up hx63
            replace hA55 := hA55.up hx63
            obtain ⟨hz, h⟩ := h
            exact r_retZ x_409_252 rfl hz h
  · replace h := h.1 hc
    refine r_aload_n x_409_197 rfl ?_
    refine r_iload_n x_409_198 rfl ?_
    refine r_invV x_409_199 (z := 406) (ns := 0) (by decide +kernel) (as := [g_n r5]) (r := []) rfl rfl rfl hO1 rfl rfl ?_
    refine r_callI h fun r70 M67 hx68 hok69 hr71 h => ?_
    replace h := h hx68 hok69 hr71
    replace hO1 := hO1.up hx68
    obtain ⟨hz, h⟩ := h
    exact r_retZ x_409_202 rfl hz h
theorem s_X12_isRequest_292 {d : Nat} {M : g_M} {Q : Int → g_M → Prop} {a0 : Nat} {v1 : Int} (hv1 : g_InR v1) {v2 : Int} (hv2 : g_InR v2) {v3 : Int} (hv3 : g_InR v3) (h : g_ok M → ((v3 = (-1) → Q 1 M) ∧ (¬ v3 = (-1) → g_O M a0 12 ∧ g_Call d 406 [.ref a0, g_n v3] M (g_qI fun r5 M2 => g_ext M M2 → g_ok M2 → g_InR r5 → ((r5 = 0 → Q 0 M2) ∧ (¬ r5 = 0 → Q 1 M2)))))) : g_Run d 409 292 [(0, .ref a0), (1, g_n v1), (2, g_n v2), (3, g_n v3)] [] M (g_qI Q) := by
  refine g_Run.ok fun hok => ?_
  replace h := h hok
  refine r_iload_n x_409_292 rfl ?_
  refine r_iconst x_409_293 ?_
  refine r_ic_eq x_409_294 (t := 305) (by decide +kernel) hv3 (g_Rk rfl) (fun hc => ?_) (fun hc => ?_)
  · replace h := h.1 hc
    refine r_iconst x_409_305 ?_
    refine r_goto x_409_306 (t := 310) (by decide +kernel) ?_
    exact r_retZ x_409_310 rfl (Or.inr rfl) h
  · replace h := h.2 hc
    refine r_aload_n x_409_297 rfl ?_
    refine r_iload_n x_409_298 rfl ?_
    obtain ⟨hO1, h⟩ := h
    refine r_invV x_409_299 (z := 406) (ns := 0) (by decide +kernel) (as := [g_n v3]) (r := []) rfl rfl rfl hO1 rfl rfl ?_
    refine r_callI h fun r5 M2 hx3 hok4 hr6 h => ?_
    replace h := h hx3 hok4 hr6
    replace hO1 := hO1.up hx3
    refine r_if_eq x_409_302 (t := 309) (by decide +kernel) hr6 (fun hc => ?_) (fun hc => ?_)
    · replace h := h.1 hc
      refine r_iconst x_409_309 ?_
      exact r_retZ x_409_310 rfl (Or.inl rfl) h
    · replace h := h.2 hc
      refine r_iconst x_409_305 ?_
      refine r_goto x_409_306 (t := 310) (by decide +kernel) ?_
      exact r_retZ x_409_310 rfl (Or.inr rfl) h
theorem m_X12_arePaths {d : Nat} {M : g_M} {Q : Int → g_M → Prop} {a0 : Nat} {v1 : Int} (hv1 : g_InR v1) (h : g_ok M → g_O M a0 12 ∧ ∃ b2, g_r M a0 0 = some b2 ∧ ∃ n4, g_A M b2 0 n4 ∧ ((0 : Int) ≤ v1 ∧ (v1 : Int) < n4) ∧ ((g_i M b2 v1 = 4 → g_Call d 233 [.ref a0, g_n v1] M (g_qI fun r15 M12 => g_ext M M12 → g_ok M12 → g_InR r15 → g_Call d 239 [.ref a0, g_n r15] M12 (g_qI fun r20 M17 => g_ext M12 M17 → g_ok M17 → g_InR r20 → ((r20 = 0 → g_Call d 406 [.ref a0, g_n v1] M17 (g_qI fun r35 M32 => g_ext M17 M32 → g_ok M32 → g_InR r35 → (r35 = 0 ∨ r35 = 1) ∧ Q r35 M32)) ∧ (¬ r20 = 0 → g_Call d 233 [.ref a0, g_n v1] M17 (g_qI fun r25 M22 => g_ext M17 M22 → g_ok M22 → g_InR r25 → g_Call d 237 [g_n r25] M22 (g_qI fun r30 M27 => g_ext M22 M27 → g_ok M27 → g_InR r30 → g_Run d 410 42 [(0, .ref a0), (1, g_n v1), (2, g_n 0), (3, g_n r30), (4, g_n r30)] [] M27 (g_qI Q)))))))) ∧ (¬ g_i M b2 v1 = 4 → g_Call d 406 [.ref a0, g_n v1] M (g_qI fun r10 M7 => g_ext M M7 → g_ok M7 → g_InR r10 → (r10 = 0 ∨ r10 = 1) ∧ Q r10 M7)))) : g_Call (d + 1) 410 [.ref a0, g_n v1] M (g_qI Q) := by
  refine g_Call.ok fun hok0 => ?_
  replace h := h hok0
  refine r_body rfl (lv := [(0, .ref a0), (1, g_n v1)]) rfl ?_
  refine g_Run.ok fun hok => ?_
  refine r_aload_n x_410_0 rfl ?_
  obtain ⟨hO1, h⟩ := h
  obtain ⟨b2, hb3, h⟩ := h
  refine r_getR x_410_1 rfl (ci := 12) (k := 0) (ns := 0) (by decide +kernel) (by decide) rfl (kz := 0) rfl hO1 hb3 ?_
  refine r_iload_n x_410_4 rfl ?_
  obtain ⟨n4, hA5, h⟩ := h
  obtain ⟨h6, h⟩ := h
  refine r_bald x_410_5 (Or.inl rfl) hA5 hv1 h6.1 h6.2 ?_
  refine r_iconst x_410_6 ?_
  refine r_ic_ne x_410_7 (t := 22) (by decide +kernel) (hok.1 _ _) (g_Rk rfl) (fun hc => ?_) (fun hc => ?_)
  · replace h := h.2 hc
    refine r_aload_n x_410_22 rfl ?_
    refine r_iload_n x_410_23 rfl ?_
    refine r_invV x_410_24 (z := 406) (ns := 0) (by decide +kernel) (as := [g_n v1]) (r := []) rfl rfl rfl hO1 rfl rfl ?_
    refine r_callI h fun r10 M7 hx8 hok9 hr11 h => ?_
    replace h := h hx8 hok9 hr11
    replace hO1 := hO1.up hx8
    replace hA5 := hA5.up hx8
    obtain ⟨hz, h⟩ := h
    exact r_retZ x_410_27 rfl hz h
  · replace h := h.1 hc
    refine r_aload_n x_410_10 rfl ?_
    refine r_aload_n x_410_11 rfl ?_
    refine r_iload_n x_410_12 rfl ?_
    refine r_invV x_410_13 (z := 233) (ns := 0) (by decide +kernel) (as := [g_n v1]) (r := [.ref a0]) rfl rfl rfl hO1 rfl rfl ?_
    refine r_callI h fun r15 M12 hx13 hok14 hr16 h => ?_
    replace h := h hx13 hok14 hr16
    replace hO1 := hO1.up hx13
    replace hA5 := hA5.up hx13
    refine r_invV x_410_16 (z := 239) (ns := 0) (by decide +kernel) (as := [g_n r15]) (r := []) rfl rfl rfl hO1 rfl rfl ?_
    refine r_callI h fun r20 M17 hx18 hok19 hr21 h => ?_
    replace h := h hx18 hok19 hr21
    replace hO1 := hO1.up hx18
    replace hA5 := hA5.up hx18
    refine r_if_ne x_410_19 (t := 28) (by decide +kernel) hr21 (fun hc => ?_) (fun hc => ?_)
    · replace h := h.2 hc
      refine r_iconst x_410_28 ?_
      refine r_istore_n x_410_29 (by decide +kernel) rfl (lv1 := [(0, .ref a0), (1, g_n v1), (2, g_n 0)]) rfl ?_
      refine r_aload_n x_410_30 rfl ?_
      refine r_iload_n x_410_31 rfl ?_
      refine r_invV x_410_32 (z := 233) (ns := 0) (by decide +kernel) (as := [g_n v1]) (r := []) rfl rfl rfl hO1 rfl rfl ?_
      refine r_callI h fun r25 M22 hx23 hok24 hr26 h => ?_
      replace h := h hx23 hok24 hr26
      replace hO1 := hO1.up hx23
      replace hA5 := hA5.up hx23
      refine r_invS x_410_35 (z := 237) (ns := 0) (by decide +kernel) (as := [g_n r25]) (r := []) rfl rfl rfl ?_
      refine r_callI h fun r30 M27 hx28 hok29 hr31 h => ?_
      replace h := h hx28 hok29 hr31
      replace hO1 := hO1.up hx28
      replace hA5 := hA5.up hx28
      refine r_istore_n x_410_38 (by decide +kernel) rfl (lv1 := [(0, .ref a0), (1, g_n v1), (2, g_n 0), (3, g_n r30)]) rfl ?_
      refine r_iload_n x_410_39 rfl ?_
      refine r_istore x_410_40 (by decide +kernel) rfl (lv1 := [(0, .ref a0), (1, g_n v1), (2, g_n 0), (3, g_n r30), (4, g_n r30)]) rfl ?_
      exact h
    · replace h := h.1 hc
      refine r_aload_n x_410_22 rfl ?_
      refine r_iload_n x_410_23 rfl ?_
      refine r_invV x_410_24 (z := 406) (ns := 0) (by decide +kernel) (as := [g_n v1]) (r := []) rfl rfl rfl hO1 rfl rfl ?_
      refine r_callI h fun r35 M32 hx33 hok34 hr36 h => ?_
      replace h := h hx33 hok34 hr36
      replace hO1 := hO1.up hx33
      replace hA5 := hA5.up hx33
      obtain ⟨hz, h⟩ := h
      exact r_retZ x_410_27 rfl hz h
theorem s_X12_arePaths_42 {d : Nat} {M : g_M} {Q : Int → g_M → Prop} {a0 : Nat} {v1 : Int} (hv1 : g_InR v1) {v2 : Int} (hv2 : g_InR v2) {v3 : Int} (hv3 : g_InR v3) {v4 : Int} (hv4 : g_InR v4) (h : g_ok M → g_O M a0 12 ∧ g_Call d 233 [.ref a0, g_n v1] M (g_qI fun r5 M2 => g_ext M M2 → g_ok M2 → g_InR r5 → g_Call d 238 [.ref a0, g_n r5] M2 (g_qI fun r10 M7 => g_ext M2 M7 → g_ok M7 → g_InR r10 → ((v4 < r10 → ((v2 = 2 → g_Call d 406 [.ref a0, g_n v4] M7 (g_qI fun r15 M12 => g_ext M7 M12 → g_ok M12 → g_InR r15 → (r15 = 0 ∨ r15 = 1) ∧ Q r15 M12)) ∧ (¬ v2 = 2 → ∃ b17, g_r M7 a0 0 = some b17 ∧ ∃ n19, g_A M7 b17 0 n19 ∧ ((0 : Int) ≤ v4 ∧ (v4 : Int) < n19) ∧ ((g_i M7 b17 v4 = 2 → g_Call d 233 [.ref a0, g_n v4] M7 (g_qI fun r30 M27 => g_ext M7 M27 → g_ok M27 → g_InR r30 → g_InR (r30 + 4) ∧ g_Call d 322 [.ref a0, g_n v4] M27 (g_qI fun r36 M33 => g_ext M27 M33 → g_ok M33 → g_InR r36 → g_Call d 275 [.ref a0, g_n (r30 + 4), g_n r36] M33 (g_qI fun r41 M38 => g_ext M33 M38 → g_ok M38 → g_InR r41 → ((r41 = 0 → g_Call d 406 [.ref a0, g_n v4] M38 (g_qI fun r46 M43 => g_ext M38 M43 → g_ok M43 → g_InR r46 → (r46 = 0 ∨ r46 = 1) ∧ Q r46 M43)) ∧ (¬ r41 = 0 → ((v2 = 1 → g_Call d 271 [.ref a0, g_n v4, g_n v3] M38 (g_qI fun r57 M54 => g_ext M38 M54 → g_ok M54 → g_InR r57 → ((r57 = 0 → g_InR (v2 + 1) ∧ g_Call d 235 [.ref a0, g_n v4] M54 (g_qI fun r63 M60 => g_ext M54 M60 → g_ok M60 → g_InR r63 → g_Run d 410 42 [(0, .ref a0), (1, g_n v1), (2, g_n (v2 + 1)), (3, g_n v3), (4, g_n r63)] [] M60 (g_qI Q))) ∧ (¬ r57 = 0 → g_Call d 406 [.ref a0, g_n v4] M54 (g_qI fun r68 M65 => g_ext M54 M65 → g_ok M65 → g_InR r68 → (r68 = 0 ∨ r68 = 1) ∧ Q r68 M65))))) ∧ (¬ v2 = 1 → g_InR (v2 + 1) ∧ g_Call d 235 [.ref a0, g_n v4] M38 (g_qI fun r52 M49 => g_ext M38 M49 → g_ok M49 → g_InR r52 → g_Run d 410 42 [(0, .ref a0), (1, g_n v1), (2, g_n (v2 + 1)), (3, g_n v3), (4, g_n r52)] [] M49 (g_qI Q)))))))))) ∧ (¬ g_i M7 b17 v4 = 2 → g_Call d 406 [.ref a0, g_n v4] M7 (g_qI fun r25 M22 => g_ext M7 M22 → g_ok M22 → g_InR r25 → (r25 = 0 ∨ r25 = 1) ∧ Q r25 M22)))))) ∧ (¬ v4 < r10 → Q 1 M7))))) : g_Run d 410 42 [(0, .ref a0), (1, g_n v1), (2, g_n v2), (3, g_n v3), (4, g_n v4)] [] M (g_qI Q) := by
  refine g_Run.ok fun hok => ?_
  replace h := h hok
  refine r_iload x_410_42 rfl ?_
  refine r_aload_n x_410_44 rfl ?_
  refine r_aload_n x_410_45 rfl ?_
  refine r_iload_n x_410_46 rfl ?_
  obtain ⟨hO1, h⟩ := h
  refine r_invV x_410_47 (z := 233) (ns := 0) (by decide +kernel) (as := [g_n v1]) (r := [.ref a0, g_n v4]) rfl rfl rfl hO1 rfl rfl ?_
  refine r_callI h fun r5 M2 hx3 hok4 hr6 h => ?_
  replace h := h hx3 hok4 hr6
  replace hO1 := hO1.up hx3
  refine r_invV x_410_50 (z := 238) (ns := 0) (by decide +kernel) (as := [g_n r5]) (r := [g_n v4]) rfl rfl rfl hO1 rfl rfl ?_
  refine r_callI h fun r10 M7 hx8 hok9 hr11 h => ?_
  replace h := h hx8 hok9 hr11
  replace hO1 := hO1.up hx8
  refine r_ic_ge x_410_53 (t := 129) (by decide +kernel) hv4 hr11 (fun hc => ?_) (fun hc => ?_)
  · replace h := h.2 hc
    refine r_iconst x_410_129 ?_
    exact r_retZ x_410_130 rfl (Or.inr rfl) h
  · replace h := h.1 hc
    refine r_iload_n x_410_56 rfl ?_
    refine r_iconst x_410_57 ?_
    refine r_ic_eq x_410_58 (t := 108) (by decide +kernel) hv2 (g_Rk rfl) (fun hc => ?_) (fun hc => ?_)
    · replace h := h.1 hc
      refine r_aload_n x_410_108 rfl ?_
      refine r_iload x_410_109 rfl ?_
      refine r_invV x_410_111 (z := 406) (ns := 0) (by decide +kernel) (as := [g_n v4]) (r := []) rfl rfl rfl hO1 rfl rfl ?_
      refine r_callI h fun r15 M12 hx13 hok14 hr16 h => ?_
      replace h := h hx13 hok14 hr16
      replace hO1 := hO1.up hx13
      obtain ⟨hz, h⟩ := h
      exact r_retZ x_410_114 rfl hz h
    · replace h := h.2 hc
      refine r_aload_n x_410_61 rfl ?_
      obtain ⟨b17, hb18, h⟩ := h
      refine r_getR x_410_62 rfl (ci := 12) (k := 0) (ns := 0) (by decide +kernel) (by decide) rfl (kz := 0) rfl hO1 hb18 ?_
      refine r_iload x_410_65 rfl ?_
      obtain ⟨n19, hA20, h⟩ := h
      obtain ⟨h21, h⟩ := h
      refine r_bald x_410_67 (Or.inl rfl) hA20 hv4 h21.1 h21.2 ?_
      refine r_iconst x_410_68 ?_
      refine r_ic_ne x_410_69 (t := 108) (by decide +kernel) (hok9.1 _ _) (g_Rk rfl) (fun hc => ?_) (fun hc => ?_)
      · replace h := h.2 hc
        refine r_aload_n x_410_108 rfl ?_
        refine r_iload x_410_109 rfl ?_
        refine r_invV x_410_111 (z := 406) (ns := 0) (by decide +kernel) (as := [g_n v4]) (r := []) rfl rfl rfl hO1 rfl rfl ?_
        refine r_callI h fun r25 M22 hx23 hok24 hr26 h => ?_
        replace h := h hx23 hok24 hr26
        replace hO1 := hO1.up hx23
        replace hA20 := hA20.up hx23
        obtain ⟨hz, h⟩ := h
        exact r_retZ x_410_114 rfl hz h
      · replace h := h.1 hc
        refine r_aload_n x_410_72 rfl ?_
        refine r_aload_n x_410_73 rfl ?_
        refine r_iload x_410_74 rfl ?_
        refine r_invV x_410_76 (z := 233) (ns := 0) (by decide +kernel) (as := [g_n v4]) (r := [.ref a0]) rfl rfl rfl hO1 rfl rfl ?_
        refine r_callI h fun r30 M27 hx28 hok29 hr31 h => ?_
        replace h := h hx28 hok29 hr31
        replace hO1 := hO1.up hx28
        replace hA20 := hA20.up hx28
        refine r_iconst x_410_79 ?_
        refine r_iadd x_410_80 ?_
        obtain ⟨h32, h⟩ := h
        refine r_aload_n x_410_81 rfl ?_
        refine r_iload x_410_82 rfl ?_
        refine r_invV x_410_84 (z := 322) (ns := 0) (by decide +kernel) (as := [g_n v4]) (r := [g_n (r30 + 4), .ref a0]) rfl rfl rfl hO1 rfl rfl ?_
        refine r_callI h fun r36 M33 hx34 hok35 hr37 h => ?_
        replace h := h hx34 hok35 hr37
        replace hO1 := hO1.up hx34
        replace hA20 := hA20.up hx34
        refine r_invV x_410_87 (z := 275) (ns := 0) (by decide +kernel) (as := [g_n (r30 + 4), g_n r36]) (r := []) rfl rfl rfl hO1 rfl rfl ?_
        refine r_callI h fun r41 M38 hx39 hok40 hr42 h => ?_
        replace h := h hx39 hok40 hr42
        replace hO1 := hO1.up hx39
        replace hA20 := hA20.up hx39
        refine r_if_eq x_410_90 (t := 108) (by decide +kernel) hr42 (fun hc => ?_) (fun hc => ?_)
        · replace h := h.1 hc
          refine r_aload_n x_410_108 rfl ?_
          refine r_iload x_410_109 rfl ?_
          refine r_invV x_410_111 (z := 406) (ns := 0) (by decide +kernel) (as := [g_n v4]) (r := []) rfl rfl rfl hO1 rfl rfl ?_
          refine r_callI h fun r46 M43 hx44 hok45 hr47 h => ?_
          replace h := h hx44 hok45 hr47
          replace hO1 := hO1.up hx44
          replace hA20 := hA20.up hx44
          obtain ⟨hz, h⟩ := h
          exact r_retZ x_410_114 rfl hz h
        · replace h := h.2 hc
          refine r_iload_n x_410_93 rfl ?_
          refine r_iconst x_410_94 ?_
          refine r_ic_ne x_410_95 (t := 115) (by decide +kernel) hv2 (g_Rk rfl) (fun hc => ?_) (fun hc => ?_)
          · replace h := h.2 hc
            obtain ⟨h48, h⟩ := h
            refine r_iinc x_410_115 (by decide +kernel) rfl rfl (lv1 := [(0, .ref a0), (1, g_n v1), (2, g_n (v2 + 1)), (3, g_n v3), (4, g_n v4)]) rfl ?_
            refine r_aload_n x_410_118 rfl ?_
            refine r_iload x_410_119 rfl ?_
            refine r_invV x_410_121 (z := 235) (ns := 0) (by decide +kernel) (as := [g_n v4]) (r := []) rfl rfl rfl hO1 rfl rfl ?_
            refine r_callI h fun r52 M49 hx50 hok51 hr53 h => ?_
            replace h := h hx50 hok51 hr53
            replace hO1 := hO1.up hx50
            replace hA20 := hA20.up hx50
            refine r_istore x_410_124 (by decide +kernel) rfl (lv1 := [(0, .ref a0), (1, g_n v1), (2, g_n (v2 + 1)), (3, g_n v3), (4, g_n r52)]) rfl ?_
            refine r_goto x_410_126 (t := 42) (by decide +kernel) ?_
            exact h
          · replace h := h.1 hc
            refine r_aload_n x_410_98 rfl ?_
            refine r_iload x_410_99 rfl ?_
            refine r_iload_n x_410_101 rfl ?_
            refine r_invV x_410_102 (z := 271) (ns := 0) (by decide +kernel) (as := [g_n v4, g_n v3]) (r := []) rfl rfl rfl hO1 rfl rfl ?_
            refine r_callI h fun r57 M54 hx55 hok56 hr58 h => ?_
            replace h := h hx55 hok56 hr58
            replace hO1 := hO1.up hx55
            replace hA20 := hA20.up hx55
            refine r_if_eq x_410_105 (t := 115) (by decide +kernel) hr58 (fun hc => ?_) (fun hc => ?_)
            · replace h := h.1 hc
              obtain ⟨h59, h⟩ := h
              refine r_iinc x_410_115 (by decide +kernel) rfl rfl (lv1 := [(0, .ref a0), (1, g_n v1), (2, g_n (v2 + 1)), (3, g_n v3), (4, g_n v4)]) rfl ?_
              refine r_aload_n x_410_118 rfl ?_
              refine r_iload x_410_119 rfl ?_
              refine r_invV x_410_121 (z := 235) (ns := 0) (by decide +kernel) (as := [g_n v4]) (r := []) rfl rfl rfl hO1 rfl rfl ?_
              refine r_callI h fun r63 M60 hx61 hok62 hr64 h => ?_
              replace h := h hx61 hok62 hr64
              replace hO1 := hO1.up hx61
              replace hA20 := hA20.up hx61
              refine r_istore x_410_124 (by decide +kernel) rfl (lv1 := [(0, .ref a0), (1, g_n v1), (2, g_n (v2 + 1)), (3, g_n v3), (4, g_n r63)]) rfl ?_
              refine r_goto x_410_126 (t := 42) (by decide +kernel) ?_
              exact h
            · replace h := h.2 hc
              refine r_aload_n x_410_108 rfl ?_
              refine r_iload x_410_109 rfl ?_
              refine r_invV x_410_111 (z := 406) (ns := 0) (by decide +kernel) (as := [g_n v4]) (r := []) rfl rfl rfl hO1 rfl rfl ?_
              refine r_callI h fun r68 M65 hx66 hok67 hr69 h => ?_
              replace h := h hx66 hok67 hr69
              replace hO1 := hO1.up hx66
              replace hA20 := hA20.up hx66
              obtain ⟨hz, h⟩ := h
              exact r_retZ x_410_114 rfl hz h
theorem m_X12_areDirections {d : Nat} {M : g_M} {Q : Int → g_M → Prop} {a0 : Nat} {v1 : Int} (hv1 : g_InR v1) {v2 : Int} (hv2 : g_InR v2) (h : g_ok M → ((v2 = (-1) → g_O M a0 12 ∧ g_Call d 406 [.ref a0, g_n v2] M (g_qI fun r5 M2 => g_ext M M2 → g_ok M2 → g_InR r5 → (r5 = 0 ∨ r5 = 1) ∧ Q r5 M2)) ∧ (¬ v2 = (-1) → g_O M a0 12 ∧ g_Call d 236 [.ref a0, g_n v2, .ref (4 * 85 + 1)] M (g_qI fun r11 M8 => g_ext M M8 → g_ok M8 → g_InR r11 → ((r11 = 0 → g_Call d 406 [.ref a0, g_n v2] M8 (g_qI fun r16 M13 => g_ext M8 M13 → g_ok M13 → g_InR r16 → (r16 = 0 ∨ r16 = 1) ∧ Q r16 M13)) ∧ (¬ r11 = 0 → ∃ b18, g_r M8 a0 0 = some b18 ∧ ∃ n20, g_A M8 b18 0 n20 ∧ ((0 : Int) ≤ v2 ∧ (v2 : Int) < n20) ∧ ((g_i M8 b18 v2 = 4 → g_Call d 233 [.ref a0, g_n v2] M8 (g_qI fun r31 M28 => g_ext M8 M28 → g_ok M28 → g_InR r31 → g_Call d 239 [.ref a0, g_n r31] M28 (g_qI fun r36 M33 => g_ext M28 M33 → g_ok M33 → g_InR r36 → g_Call d 233 [.ref a0, g_n v1] M33 (g_qI fun r41 M38 => g_ext M33 M38 → g_ok M38 → g_InR r41 → g_Call d 239 [.ref a0, g_n r41] M38 (g_qI fun r46 M43 => g_ext M38 M43 → g_ok M43 → g_InR r46 → ((r36 = r46 → g_Call d 233 [.ref a0, g_n v2] M43 (g_qI fun r51 M48 => g_ext M43 M48 → g_ok M48 → g_InR r51 → g_Call d 237 [g_n r51] M48 (g_qI fun r56 M53 => g_ext M48 M53 → g_ok M53 → g_InR r56 → g_Run d 411 62 [(0, .ref a0), (1, g_n v1), (2, g_n v2), (3, g_n r56)] [] M53 (g_qI Q)))) ∧ (¬ r36 = r46 → g_Call d 406 [.ref a0, g_n v2] M43 (g_qI fun r61 M58 => g_ext M43 M58 → g_ok M58 → g_InR r61 → (r61 = 0 ∨ r61 = 1) ∧ Q r61 M58)))))))) ∧ (¬ g_i M8 b18 v2 = 4 → g_Call d 406 [.ref a0, g_n v2] M8 (g_qI fun r26 M23 => g_ext M8 M23 → g_ok M23 → g_InR r26 → (r26 = 0 ∨ r26 = 1) ∧ Q r26 M23))))))))) : g_Call (d + 1) 411 [.ref a0, g_n v1, g_n v2] M (g_qI Q) := by
  refine g_Call.ok fun hok0 => ?_
  replace h := h hok0
  refine r_body rfl (lv := [(0, .ref a0), (1, g_n v1), (2, g_n v2)]) rfl ?_
  refine g_Run.ok fun hok => ?_
  refine r_iload_n x_411_0 rfl ?_
  refine r_iconst x_411_1 ?_
  refine r_ic_eq x_411_2 (t := 47) (by decide +kernel) hv2 (g_Rk rfl) (fun hc => ?_) (fun hc => ?_)
  · replace h := h.1 hc
    refine r_aload_n x_411_47 rfl ?_
    refine r_iload_n x_411_48 rfl ?_
    obtain ⟨hO1, h⟩ := h
    refine r_invV x_411_49 (z := 406) (ns := 0) (by decide +kernel) (as := [g_n v2]) (r := []) rfl rfl rfl hO1 rfl rfl ?_
    refine r_callI h fun r5 M2 hx3 hok4 hr6 h => ?_
    replace h := h hx3 hok4 hr6
    replace hO1 := hO1.up hx3
    obtain ⟨hz, h⟩ := h
    exact r_retZ x_411_52 rfl hz h
  · replace h := h.2 hc
    refine r_aload_n x_411_5 rfl ?_
    refine r_iload_n x_411_6 rfl ?_
    refine r_ldcw x_411_7 (v := .ref (4 * 85 + 1)) rfl ?_
    obtain ⟨hO7, h⟩ := h
    refine r_invV x_411_10 (z := 236) (ns := 0) (by decide +kernel) (as := [g_n v2, .ref (4 * 85 + 1)]) (r := []) rfl rfl rfl hO7 rfl rfl ?_
    refine r_callI h fun r11 M8 hx9 hok10 hr12 h => ?_
    replace h := h hx9 hok10 hr12
    replace hO7 := hO7.up hx9
    refine r_if_eq x_411_13 (t := 47) (by decide +kernel) hr12 (fun hc => ?_) (fun hc => ?_)
    · replace h := h.1 hc
      refine r_aload_n x_411_47 rfl ?_
      refine r_iload_n x_411_48 rfl ?_
      refine r_invV x_411_49 (z := 406) (ns := 0) (by decide +kernel) (as := [g_n v2]) (r := []) rfl rfl rfl hO7 rfl rfl ?_
      refine r_callI h fun r16 M13 hx14 hok15 hr17 h => ?_
      replace h := h hx14 hok15 hr17
      replace hO7 := hO7.up hx14
      obtain ⟨hz, h⟩ := h
      exact r_retZ x_411_52 rfl hz h
    · replace h := h.2 hc
      refine r_aload_n x_411_16 rfl ?_
      obtain ⟨b18, hb19, h⟩ := h
      refine r_getR x_411_17 rfl (ci := 12) (k := 0) (ns := 0) (by decide +kernel) (by decide) rfl (kz := 0) rfl hO7 hb19 ?_
      refine r_iload_n x_411_20 rfl ?_
      obtain ⟨n20, hA21, h⟩ := h
      obtain ⟨h22, h⟩ := h
      refine r_bald x_411_21 (Or.inl rfl) hA21 hv2 h22.1 h22.2 ?_
      refine r_iconst x_411_22 ?_
      refine r_ic_ne x_411_23 (t := 47) (by decide +kernel) (hok10.1 _ _) (g_Rk rfl) (fun hc => ?_) (fun hc => ?_)
      · replace h := h.2 hc
        refine r_aload_n x_411_47 rfl ?_
        refine r_iload_n x_411_48 rfl ?_
        refine r_invV x_411_49 (z := 406) (ns := 0) (by decide +kernel) (as := [g_n v2]) (r := []) rfl rfl rfl hO7 rfl rfl ?_
        refine r_callI h fun r26 M23 hx24 hok25 hr27 h => ?_
        replace h := h hx24 hok25 hr27
        replace hO7 := hO7.up hx24
        replace hA21 := hA21.up hx24
        obtain ⟨hz, h⟩ := h
        exact r_retZ x_411_52 rfl hz h
      · replace h := h.1 hc
        refine r_aload_n x_411_26 rfl ?_
        refine r_aload_n x_411_27 rfl ?_
        refine r_iload_n x_411_28 rfl ?_
        refine r_invV x_411_29 (z := 233) (ns := 0) (by decide +kernel) (as := [g_n v2]) (r := [.ref a0]) rfl rfl rfl hO7 rfl rfl ?_
        refine r_callI h fun r31 M28 hx29 hok30 hr32 h => ?_
        replace h := h hx29 hok30 hr32
        replace hO7 := hO7.up hx29
        replace hA21 := hA21.up hx29
        refine r_invV x_411_32 (z := 239) (ns := 0) (by decide +kernel) (as := [g_n r31]) (r := []) rfl rfl rfl hO7 rfl rfl ?_
        refine r_callI h fun r36 M33 hx34 hok35 hr37 h => ?_
        replace h := h hx34 hok35 hr37
        replace hO7 := hO7.up hx34
        replace hA21 := hA21.up hx34
        refine r_aload_n x_411_35 rfl ?_
        refine r_aload_n x_411_36 rfl ?_
        refine r_iload_n x_411_37 rfl ?_
        refine r_invV x_411_38 (z := 233) (ns := 0) (by decide +kernel) (as := [g_n v1]) (r := [.ref a0, g_n r36]) rfl rfl rfl hO7 rfl rfl ?_
        refine r_callI h fun r41 M38 hx39 hok40 hr42 h => ?_
        replace h := h hx39 hok40 hr42
        replace hO7 := hO7.up hx39
        replace hA21 := hA21.up hx39
        refine r_invV x_411_41 (z := 239) (ns := 0) (by decide +kernel) (as := [g_n r41]) (r := [g_n r36]) rfl rfl rfl hO7 rfl rfl ?_
        refine r_callI h fun r46 M43 hx44 hok45 hr47 h => ?_
        replace h := h hx44 hok45 hr47
        replace hO7 := hO7.up hx44
        replace hA21 := hA21.up hx44
        refine r_ic_eq x_411_44 (t := 53) (by decide +kernel) hr37 hr47 (fun hc => ?_) (fun hc => ?_)
        · replace h := h.1 hc
          refine r_aload_n x_411_53 rfl ?_
          refine r_iload_n x_411_54 rfl ?_
          refine r_invV x_411_55 (z := 233) (ns := 0) (by decide +kernel) (as := [g_n v2]) (r := []) rfl rfl rfl hO7 rfl rfl ?_
          refine r_callI h fun r51 M48 hx49 hok50 hr52 h => ?_
          replace h := h hx49 hok50 hr52
          replace hO7 := hO7.up hx49
          replace hA21 := hA21.up hx49
          refine r_invS x_411_58 (z := 237) (ns := 0) (by decide +kernel) (as := [g_n r51]) (r := []) rfl rfl rfl ?_
          refine r_callI h fun r56 M53 hx54 hok55 hr57 h => ?_
          replace h := h hx54 hok55 hr57
          replace hO7 := hO7.up hx54
          replace hA21 := hA21.up hx54
          refine r_istore_n x_411_61 (by decide +kernel) rfl (lv1 := [(0, .ref a0), (1, g_n v1), (2, g_n v2), (3, g_n r56)]) rfl ?_
          exact h
        · replace h := h.2 hc
          refine r_aload_n x_411_47 rfl ?_
          refine r_iload_n x_411_48 rfl ?_
          refine r_invV x_411_49 (z := 406) (ns := 0) (by decide +kernel) (as := [g_n v2]) (r := []) rfl rfl rfl hO7 rfl rfl ?_
          refine r_callI h fun r61 M58 hx59 hok60 hr62 h => ?_
          replace h := h hx59 hok60 hr62
          replace hO7 := hO7.up hx59
          replace hA21 := hA21.up hx59
          obtain ⟨hz, h⟩ := h
          exact r_retZ x_411_52 rfl hz h
theorem s_X12_areDirections_62 {d : Nat} {M : g_M} {Q : Int → g_M → Prop} {a0 : Nat} {v1 : Int} (hv1 : g_InR v1) {v2 : Int} (hv2 : g_InR v2) {v3 : Int} (hv3 : g_InR v3) (h : g_ok M → g_O M a0 12 ∧ g_Call d 233 [.ref a0, g_n v2] M (g_qI fun r5 M2 => g_ext M M2 → g_ok M2 → g_InR r5 → g_Call d 238 [.ref a0, g_n r5] M2 (g_qI fun r10 M7 => g_ext M2 M7 → g_ok M7 → g_InR r10 → ((v3 < r10 → ∃ b12, g_r M7 a0 0 = some b12 ∧ ∃ n14, g_A M7 b12 0 n14 ∧ ((0 : Int) ≤ v3 ∧ (v3 : Int) < n14) ∧ ((g_i M7 b12 v3 = 8 → g_Call d 235 [.ref a0, g_n v3] M7 (g_qI fun r20 M17 => g_ext M7 M17 → g_ok M17 → g_InR r20 → g_Run d 411 62 [(0, .ref a0), (1, g_n v1), (2, g_n v2), (3, g_n r20)] [] M17 (g_qI Q))) ∧ (¬ g_i M7 b12 v3 = 8 → g_Call d 406 [.ref a0, g_n v3] M7 (g_qI fun r25 M22 => g_ext M7 M22 → g_ok M22 → g_InR r25 → (r25 = 0 ∨ r25 = 1) ∧ Q r25 M22)))) ∧ (¬ v3 < r10 → Q 1 M7))))) : g_Run d 411 62 [(0, .ref a0), (1, g_n v1), (2, g_n v2), (3, g_n v3)] [] M (g_qI Q) := by
  refine g_Run.ok fun hok => ?_
  replace h := h hok
  refine r_iload_n x_411_62 rfl ?_
  refine r_aload_n x_411_63 rfl ?_
  refine r_aload_n x_411_64 rfl ?_
  refine r_iload_n x_411_65 rfl ?_
  obtain ⟨hO1, h⟩ := h
  refine r_invV x_411_66 (z := 233) (ns := 0) (by decide +kernel) (as := [g_n v2]) (r := [.ref a0, g_n v3]) rfl rfl rfl hO1 rfl rfl ?_
  refine r_callI h fun r5 M2 hx3 hok4 hr6 h => ?_
  replace h := h hx3 hok4 hr6
  replace hO1 := hO1.up hx3
  refine r_invV x_411_69 (z := 238) (ns := 0) (by decide +kernel) (as := [g_n r5]) (r := [g_n v3]) rfl rfl rfl hO1 rfl rfl ?_
  refine r_callI h fun r10 M7 hx8 hok9 hr11 h => ?_
  replace h := h hx8 hok9 hr11
  replace hO1 := hO1.up hx8
  refine r_ic_ge x_411_72 (t := 101) (by decide +kernel) hv3 hr11 (fun hc => ?_) (fun hc => ?_)
  · replace h := h.2 hc
    refine r_iconst x_411_101 ?_
    exact r_retZ x_411_102 rfl (Or.inr rfl) h
  · replace h := h.1 hc
    refine r_aload_n x_411_75 rfl ?_
    obtain ⟨b12, hb13, h⟩ := h
    refine r_getR x_411_76 rfl (ci := 12) (k := 0) (ns := 0) (by decide +kernel) (by decide) rfl (kz := 0) rfl hO1 hb13 ?_
    refine r_iload_n x_411_79 rfl ?_
    obtain ⟨n14, hA15, h⟩ := h
    obtain ⟨h16, h⟩ := h
    refine r_bald x_411_80 (Or.inl rfl) hA15 hv3 h16.1 h16.2 ?_
    refine r_bipush x_411_81 (x := 8) rfl ?_
    refine r_ic_eq x_411_83 (t := 92) (by decide +kernel) (hok9.1 _ _) (g_Rk rfl) (fun hc => ?_) (fun hc => ?_)
    · replace h := h.1 hc
      refine r_aload_n x_411_92 rfl ?_
      refine r_iload_n x_411_93 rfl ?_
      refine r_invV x_411_94 (z := 235) (ns := 0) (by decide +kernel) (as := [g_n v3]) (r := []) rfl rfl rfl hO1 rfl rfl ?_
      refine r_callI h fun r20 M17 hx18 hok19 hr21 h => ?_
      replace h := h hx18 hok19 hr21
      replace hO1 := hO1.up hx18
      replace hA15 := hA15.up hx18
      refine r_istore_n x_411_97 (by decide +kernel) rfl (lv1 := [(0, .ref a0), (1, g_n v1), (2, g_n v2), (3, g_n r20)]) rfl ?_
      refine r_goto x_411_98 (t := 62) (by decide +kernel) ?_
      exact h
    · replace h := h.2 hc
      refine r_aload_n x_411_86 rfl ?_
      refine r_iload_n x_411_87 rfl ?_
      refine r_invV x_411_88 (z := 406) (ns := 0) (by decide +kernel) (as := [g_n v3]) (r := []) rfl rfl rfl hO1 rfl rfl ?_
      refine r_callI h fun r25 M22 hx23 hok24 hr26 h => ?_
      replace h := h hx23 hok24 hr26
      replace hO1 := hO1.up hx23
      replace hA15 := hA15.up hx23
      obtain ⟨hz, h⟩ := h
      exact r_retZ x_411_91 rfl hz h
theorem m_X12_filterIsRight {d : Nat} {M : g_M} {Q : Int → g_M → Prop} {a0 : Nat} {v1 : Int} (hv1 : g_InR v1) (h : g_ok M → g_O M a0 12 ∧ g_Call d 287 [.ref a0, g_n v1] M (g_qI fun r5 M2 => g_ext M M2 → g_ok M2 → g_InR r5 → ((r5 = 0 → g_InR ((g_i M2 a0 7) + 10) ∧ (∀ M8, M8 = g_wi M2 a0 7 ((g_i M2 a0 7) + 10) → g_ok M8 → Q 0 M8)) ∧ (¬ r5 = 0 → Q 1 M2)))) : g_Call (d + 1) 412 [.ref a0, g_n v1] M (g_qI Q) := by
  refine g_Call.ok fun hok0 => ?_
  replace h := h hok0
  refine r_body rfl (lv := [(0, .ref a0), (1, g_n v1)]) rfl ?_
  refine g_Run.ok fun hok => ?_
  refine r_aload_n x_412_0 rfl ?_
  refine r_iload_n x_412_1 rfl ?_
  obtain ⟨hO1, h⟩ := h
  refine r_invV x_412_2 (z := 287) (ns := 0) (by decide +kernel) (as := [g_n v1]) (r := []) rfl rfl rfl hO1 rfl rfl ?_
  refine r_callI h fun r5 M2 hx3 hok4 hr6 h => ?_
  replace h := h hx3 hok4 hr6
  replace hO1 := hO1.up hx3
  refine r_if_eq x_412_5 (t := 10) (by decide +kernel) hr6 (fun hc => ?_) (fun hc => ?_)
  · replace h := h.1 hc
    refine r_aload_n x_412_10 rfl ?_
    refine r_dup x_412_11 rfl ?_
    refine r_getI x_412_12 rfl (ci := 12) (k := 7) (ns := 0) (by decide +kernel) (by decide) rfl (kz := 7) rfl hO1 ?_
    refine r_bipush x_412_15 (x := 10) rfl ?_
    refine r_iadd x_412_17 ?_
    obtain ⟨h7, h⟩ := h
    refine r_putI x_412_18 (ci := 12) (k := 7) (ns := 0) (by decide +kernel) (by decide) (g_f0 (by decide +kernel)) rfl h7 trivial (kz := 7) rfl hO1 ?_
    obtain ⟨M8, hM9⟩ : ∃ Mz, Mz = g_wi M2 a0 7 ((g_i M2 a0 7) + 10) := ⟨_, rfl⟩
    rw [← hM9]
    refine g_Run.ok fun hok10 => ?_
    replace h := h M8 hM9 hok10
    have hx11 := g_extW hM9
    replace hO1 := hO1.up hx11
    refine r_iconst x_412_21 ?_
    exact r_retZ x_412_22 rfl (Or.inl rfl) h
  · replace h := h.2 hc
    refine r_iconst x_412_8 ?_
    exact r_retZ x_412_9 rfl (Or.inr rfl) h
theorem m_X12_match {d : Nat} {M : g_M} {Q : Int → g_M → Prop} {a0 : Nat} {v1 : Int} (hv1 : g_InR v1) {v2 : Int} (hv2 : g_InR v2) (h : g_ok M → g_Run d 413 5 [(0, .ref a0), (1, g_n v1), (2, g_n v2), (3, g_n 0), (4, g_n 0)] [] M (g_qI Q)) : g_Call (d + 1) 413 [.ref a0, g_n v1, g_n v2] M (g_qI Q) := by
  refine g_Call.ok fun hok0 => ?_
  replace h := h hok0
  refine r_body rfl (lv := [(0, .ref a0), (1, g_n v1), (2, g_n v2)]) rfl ?_
  refine g_Run.ok fun hok => ?_
  refine r_iconst x_413_0 ?_
  refine r_istore_n x_413_1 (by decide +kernel) rfl (lv1 := [(0, .ref a0), (1, g_n v1), (2, g_n v2), (3, g_n 0)]) rfl ?_
  refine r_iconst x_413_2 ?_
  refine r_istore x_413_3 (by decide +kernel) rfl (lv1 := [(0, .ref a0), (1, g_n v1), (2, g_n v2), (3, g_n 0), (4, g_n 0)]) rfl ?_
  exact h
theorem s_X12_match_5 {d : Nat} {M : g_M} {Q : Int → g_M → Prop} {a0 : Nat} {v1 : Int} (hv1 : g_InR v1) {v2 : Int} (hv2 : g_InR v2) {v3 : Int} (hv3 : g_InR v3) {v4 : Int} (hv4 : g_InR v4) (h : g_ok M → g_O M a0 12 ∧ ∃ b2, g_r M a0 68 = some b2 ∧ ∃ n4, g_A M b2 1 n4 ∧ ((0 : Int) ≤ v2 ∧ (v2 : Int) < n4) ∧ ((v4 < g_i M b2 v2 → ∃ b7, g_r M a0 74 = some b7 ∧ g_Call d 404 [.ref a0, g_n v2, g_n v4] M (g_qI fun r12 M9 => g_ext M M9 → g_ok M9 → g_InR r12 → g_Call d 293 [.ref a0, g_n v1, g_n r12] M9 (g_qI fun r17 M14 => g_ext M9 M14 → g_ok M14 → g_InR r17 → ∃ n19, g_A M14 b7 2 n19 ∧ ((0 : Int) ≤ v4 ∧ (v4 : Int) < n19) ∧ (r17 = 0 ∨ r17 = 1) ∧ (∀ M23, M23 = g_wi M14 b7 v4 r17 → g_ok M23 → ∃ b27, g_r M23 a0 74 = some b27 ∧ ∃ n29, g_A M23 b27 2 n29 ∧ ((0 : Int) ≤ v4 ∧ (v4 : Int) < n29) ∧ ((g_i M23 b27 v4 = 0 → g_InR (v3 + 0) ∧ g_InR (v4 + 1) ∧ g_Run d 413 5 [(0, .ref a0), (1, g_n v1), (2, g_n v2), (3, g_n (v3 + 0)), (4, g_n (v4 + 1))] [] M23 (g_qI Q)) ∧ (¬ g_i M23 b27 v4 = 0 → g_InR (v3 + 1) ∧ g_InR (v4 + 1) ∧ g_Run d 413 5 [(0, .ref a0), (1, g_n v1), (2, g_n v2), (3, g_n (v3 + 1)), (4, g_n (v4 + 1))] [] M23 (g_qI Q))))))) ∧ (¬ v4 < g_i M b2 v2 → Q v3 M))) : g_Run d 413 5 [(0, .ref a0), (1, g_n v1), (2, g_n v2), (3, g_n v3), (4, g_n v4)] [] M (g_qI Q) := by
  refine g_Run.ok fun hok => ?_
  replace h := h hok
  refine r_iload x_413_5 rfl ?_
  refine r_aload_n x_413_7 rfl ?_
  obtain ⟨hO1, h⟩ := h
  obtain ⟨b2, hb3, h⟩ := h
  refine r_getR x_413_8 rfl (ci := 12) (k := 68) (ns := 0) (by decide +kernel) (by decide) rfl (kz := 68) rfl hO1 hb3 ?_
  refine r_iload_n x_413_11 rfl ?_
  obtain ⟨n4, hA5, h⟩ := h
  obtain ⟨h6, h⟩ := h
  refine r_iald x_413_12 hA5 hv2 h6.1 h6.2 ?_
  refine r_ic_ge x_413_13 (t := 59) (by decide +kernel) hv4 (hok.1 _ _) (fun hc => ?_) (fun hc => ?_)
  · replace h := h.2 hc
    refine r_iload_n x_413_59 rfl ?_
    exact r_retI x_413_60 rfl hv3 h
  · replace h := h.1 hc
    refine r_aload_n x_413_16 rfl ?_
    obtain ⟨b7, hb8, h⟩ := h
    refine r_getR x_413_17 rfl (ci := 12) (k := 74) (ns := 0) (by decide +kernel) (by decide) rfl (kz := 74) rfl hO1 hb8 ?_
    refine r_iload x_413_20 rfl ?_
    refine r_aload_n x_413_22 rfl ?_
    refine r_iload_n x_413_23 rfl ?_
    refine r_aload_n x_413_24 rfl ?_
    refine r_iload_n x_413_25 rfl ?_
    refine r_iload x_413_26 rfl ?_
    refine r_invV x_413_28 (z := 404) (ns := 0) (by decide +kernel) (as := [g_n v2, g_n v4]) (r := [g_n v1, .ref a0, g_n v4, .ref b7]) rfl rfl rfl hO1 rfl rfl ?_
    refine r_callI h fun r12 M9 hx10 hok11 hr13 h => ?_
    replace h := h hx10 hok11 hr13
    replace hO1 := hO1.up hx10
    replace hA5 := hA5.up hx10
    refine r_invV x_413_31 (z := 293) (ns := 0) (by decide +kernel) (as := [g_n v1, g_n r12]) (r := [g_n v4, .ref b7]) rfl rfl rfl hO1 rfl rfl ?_
    refine r_callI h fun r17 M14 hx15 hok16 hr18 h => ?_
    replace h := h hx15 hok16 hr18
    replace hO1 := hO1.up hx15
    replace hA5 := hA5.up hx15
    obtain ⟨n19, hA20, h⟩ := h
    obtain ⟨h21, h⟩ := h
    obtain ⟨h22, h⟩ := h
    refine r_bast2 x_413_34 hA20 hv4 h21.1 h21.2 h22 ?_
    obtain ⟨M23, hM24⟩ : ∃ Mz, Mz = g_wi M14 b7 v4 r17 := ⟨_, rfl⟩
    rw [← hM24]
    refine g_Run.ok fun hok25 => ?_
    replace h := h M23 hM24 hok25
    have hx26 := g_extW hM24
    replace hO1 := hO1.up hx26
    replace hA5 := hA5.up hx26
    replace hA20 := hA20.up hx26
    refine r_iload_n x_413_35 rfl ?_
    refine r_aload_n x_413_36 rfl ?_
    obtain ⟨b27, hb28, h⟩ := h
    refine r_getR x_413_37 rfl (ci := 12) (k := 74) (ns := 0) (by decide +kernel) (by decide) rfl (kz := 74) rfl hO1 hb28 ?_
    refine r_iload x_413_40 rfl ?_
    obtain ⟨n29, hA30, h⟩ := h
    obtain ⟨h31, h⟩ := h
    refine r_bald x_413_42 (Or.inr rfl) hA30 hv4 h31.1 h31.2 ?_
    refine r_if_eq x_413_43 (t := 50) (by decide +kernel) (hok25.1 _ _) (fun hc => ?_) (fun hc => ?_)
    · replace h := h.1 hc
      refine r_iconst x_413_50 ?_
      refine r_iadd x_413_51 ?_
      obtain ⟨h32, h⟩ := h
      refine r_istore_n x_413_52 (by decide +kernel) rfl (lv1 := [(0, .ref a0), (1, g_n v1), (2, g_n v2), (3, g_n (v3 + 0)), (4, g_n v4)]) rfl ?_
      obtain ⟨h33, h⟩ := h
      refine r_iinc x_413_53 (by decide +kernel) rfl rfl (lv1 := [(0, .ref a0), (1, g_n v1), (2, g_n v2), (3, g_n (v3 + 0)), (4, g_n (v4 + 1))]) rfl ?_
      refine r_goto x_413_56 (t := 5) (by decide +kernel) ?_
      exact h
    · replace h := h.2 hc
      refine r_iconst x_413_46 ?_
      refine r_goto x_413_47 (t := 51) (by decide +kernel) ?_
      refine r_iadd x_413_51 ?_
      obtain ⟨h34, h⟩ := h
      refine r_istore_n x_413_52 (by decide +kernel) rfl (lv1 := [(0, .ref a0), (1, g_n v1), (2, g_n v2), (3, g_n (v3 + 1)), (4, g_n v4)]) rfl ?_
      obtain ⟨h35, h⟩ := h
      refine r_iinc x_413_53 (by decide +kernel) rfl rfl (lv1 := [(0, .ref a0), (1, g_n v1), (2, g_n v2), (3, g_n (v3 + 1)), (4, g_n (v4 + 1))]) rfl ?_
      refine r_goto x_413_56 (t := 5) (by decide +kernel) ?_
      exact h
theorem m_X12_beginAnswer {d : Nat} {M : g_M} {Q : g_M → Prop} {a0 : Nat} (h : g_ok M → g_O M a0 12 ∧ g_Call d 245 [.ref a0, g_n 2598000, g_n 2606000] M (g_qV fun M2 => g_ext M M2 → g_ok M2 → g_Call d 251 [.ref a0] M2 (g_qI fun r8 M5 => g_ext M2 M5 → g_ok M5 → g_InR r8 → (∀ M10, M10 = g_wi M5 a0 77 r8 → g_ok M10 → Q M10)))) : g_Call (d + 1) 414 [.ref a0] M (g_qV Q) := by
  refine g_Call.ok fun hok0 => ?_
  replace h := h hok0
  refine r_body rfl (lv := [(0, .ref a0)]) rfl ?_
  refine g_Run.ok fun hok => ?_
  refine r_aload_n x_414_0 rfl ?_
  refine r_ldcw x_414_1 (v := g_n 2598000) rfl ?_
  refine r_ldcw x_414_4 (v := g_n 2606000) rfl ?_
  obtain ⟨hO1, h⟩ := h
  refine r_invV x_414_7 (z := 245) (ns := 0) (by decide +kernel) (as := [g_n 2598000, g_n 2606000]) (r := []) rfl rfl rfl hO1 rfl rfl ?_
  refine r_callV h fun M2 hx3 hok4 h => ?_
  replace h := h hx3 hok4
  replace hO1 := hO1.up hx3
  refine r_aload_n x_414_10 rfl ?_
  refine r_aload_n x_414_11 rfl ?_
  refine r_invV x_414_12 (z := 251) (ns := 0) (by decide +kernel) (as := []) (r := [.ref a0]) rfl rfl rfl hO1 rfl rfl ?_
  refine r_callI h fun r8 M5 hx6 hok7 hr9 h => ?_
  replace h := h hx6 hok7 hr9
  replace hO1 := hO1.up hx6
  refine r_putI x_414_15 (ci := 12) (k := 77) (ns := 0) (by decide +kernel) (by decide) (g_f0 (by decide +kernel)) rfl hr9 trivial (kz := 77) rfl hO1 ?_
  obtain ⟨M10, hM11⟩ : ∃ Mz, Mz = g_wi M5 a0 77 r8 := ⟨_, rfl⟩
  rw [← hM11]
  refine g_Run.ok fun hok12 => ?_
  replace h := h M10 hM11 hok12
  have hx13 := g_extW hM11
  replace hO1 := hO1.up hx13
  exact r_retV x_414_18 rfl h
theorem m_X12_endAnswer {d : Nat} {M : g_M} {Q : Int → g_M → Prop} {a0 : Nat} (h : g_ok M → g_O M a0 12 ∧ g_Call d 252 [.ref a0, g_n (g_i M a0 77)] M (g_qV fun M2 => g_ext M M2 → g_ok M2 → ((g_i M2 a0 6 = 0 → Q 1 M2) ∧ (¬ g_i M2 a0 6 = 0 → g_Call d 405 [.ref a0, g_n 40, g_n ((-1))] M2 (g_qI fun r8 M5 => g_ext M2 M5 → g_ok M5 → g_InR r8 → ((r8 = 0 → Q 0 M5) ∧ (¬ r8 = 0 → Q 1 M5))))))) : g_Call (d + 1) 415 [.ref a0] M (g_qI Q) := by
  refine g_Call.ok fun hok0 => ?_
  replace h := h hok0
  refine r_body rfl (lv := [(0, .ref a0)]) rfl ?_
  refine g_Run.ok fun hok => ?_
  refine r_aload_n x_415_0 rfl ?_
  refine r_aload_n x_415_1 rfl ?_
  obtain ⟨hO1, h⟩ := h
  refine r_getI x_415_2 rfl (ci := 12) (k := 77) (ns := 0) (by decide +kernel) (by decide) rfl (kz := 77) rfl hO1 ?_
  refine r_invV x_415_5 (z := 252) (ns := 0) (by decide +kernel) (as := [g_n (g_i M a0 77)]) (r := []) rfl rfl rfl hO1 rfl rfl ?_
  refine r_callV h fun M2 hx3 hok4 h => ?_
  replace h := h hx3 hok4
  replace hO1 := hO1.up hx3
  refine r_aload_n x_415_8 rfl ?_
  refine r_getI x_415_9 rfl (ci := 12) (k := 6) (ns := 0) (by decide +kernel) (by decide) rfl (kz := 6) rfl hO1 ?_
  refine r_if_eq x_415_12 (t := 25) (by decide +kernel) (hok4.1 _ _) (fun hc => ?_) (fun hc => ?_)
  · replace h := h.1 hc
    refine r_iconst x_415_25 ?_
    refine r_goto x_415_26 (t := 30) (by decide +kernel) ?_
    exact r_retZ x_415_30 rfl (Or.inr rfl) h
  · replace h := h.2 hc
    refine r_aload_n x_415_15 rfl ?_
    refine r_bipush x_415_16 (x := 40) rfl ?_
    refine r_iconst x_415_18 ?_
    refine r_invV x_415_19 (z := 405) (ns := 0) (by decide +kernel) (as := [g_n 40, g_n ((-1))]) (r := []) rfl rfl rfl hO1 rfl rfl ?_
    refine r_callI h fun r8 M5 hx6 hok7 hr9 h => ?_
    replace h := h hx6 hok7 hr9
    replace hO1 := hO1.up hx6
    refine r_if_eq x_415_22 (t := 29) (by decide +kernel) hr9 (fun hc => ?_) (fun hc => ?_)
    · replace h := h.1 hc
      refine r_iconst x_415_29 ?_
      exact r_retZ x_415_30 rfl (Or.inl rfl) h
    · replace h := h.2 hc
      refine r_iconst x_415_25 ?_
      refine r_goto x_415_26 (t := 30) (by decide +kernel) ?_
      exact r_retZ x_415_30 rfl (Or.inr rfl) h
theorem m_X12_does {d : Nat} {M : g_M} {Q : Int → g_M → Prop} {a0 : Nat} (h : g_ok M → g_O M a0 12 ∧ g_Call d 241 [.ref a0, g_n 0, g_n 0] M (g_qI fun r5 M2 => g_ext M M2 → g_ok M2 → g_InR r5 → g_Call d 241 [.ref a0, g_n 0, g_n 1] M2 (g_qI fun r10 M7 => g_ext M2 M7 → g_ok M7 → g_InR r10 → g_Call d 243 [.ref a0, g_n r10] M7 (g_qL fun R15 M12 => g_ext M7 M12 → g_ok M12 → g_Call d 236 [.ref a0, g_n r5, .ref (4 * 79 + 1)] M12 (g_qI fun r19 M16 => g_ext M12 M16 → g_ok M16 → g_InR r19 → ((r19 = 0 → g_Call d 236 [.ref a0, g_n r5, .ref (4 * 80 + 1)] M16 (g_qI fun r29 M26 => g_ext M16 M26 → g_ok M26 → g_InR r29 → ((r29 = 0 → g_Call d 236 [.ref a0, g_n r5, .ref (4 * 82 + 1)] M26 (g_qI fun r34 M31 => g_ext M26 M31 → g_ok M31 → g_InR r34 → ((r34 = 0 → g_Call d 236 [.ref a0, g_n r5, .ref (4 * 81 + 1)] M31 (g_qI fun r39 M36 => g_ext M31 M36 → g_ok M36 → g_InR r39 → ((r39 = 0 → g_Call d 236 [.ref a0, g_n r5, .ref (4 * 73 + 1)] M36 (g_qI fun r44 M41 => g_ext M36 M41 → g_ok M41 → g_InR r44 → ((r44 = 0 → g_Call d 233 [.ref a0, g_n r5] M41 (g_qI fun r49 M46 => g_ext M41 M46 → g_ok M46 → g_InR r49 → g_Call d 412 [.ref a0, g_n r49] M46 (g_qI fun r54 M51 => g_ext M46 M51 → g_ok M51 → g_InR r54 → ((r54 = 0 → Q 0 M51) ∧ (¬ r54 = 0 → g_Call d 236 [.ref a0, g_n r5, .ref (4 * 78 + 1)] M51 (g_qI fun r59 M56 => g_ext M51 M56 → g_ok M56 → g_InR r59 → ((r59 = 0 → g_Call d 236 [.ref a0, g_n r5, .ref (4 * 76 + 1)] M56 (g_qI fun r64 M61 => g_ext M56 M61 → g_ok M61 → g_InR r64 → ((r64 = 0 → g_Call d 413 [.ref a0, g_n r49, g_n R15.toInt32.toInt] M61 (g_qI fun r69 M66 => g_ext M61 M66 → g_ok M66 → g_InR r69 → g_Call d 414 [.ref a0] M66 (g_qV fun M71 => g_ext M66 M71 → g_ok M71 → g_Call d 255 [.ref a0, .ref (4 * 128 + 1), g_n r69] M71 (g_qV fun M74 => g_ext M71 M74 → g_ok M74 → g_Call d 236 [.ref a0, g_n r5, .ref (4 * 74 + 1)] M74 (g_qI fun r80 M77 => g_ext M74 M77 → g_ok M77 → g_InR r80 → ((r80 = 0 → g_Run d 416 199 [(0, .ref a0), (1, g_n r5), (2, g_n R15.toInt32.toInt), (3, g_n r49), (4, g_n r69)] [] M77 (g_qI Q)) ∧ (¬ r80 = 0 → g_Call d 417 [.ref a0, g_n R15.toInt32.toInt] M77 (g_qV fun M82 => g_ext M77 M82 → g_ok M82 → g_Run d 416 199 [(0, .ref a0), (1, g_n r5), (2, g_n R15.toInt32.toInt), (3, g_n r49), (4, g_n r69)] [] M82 (g_qI Q))))))))) ∧ (¬ r64 = 0 → g_Call d 420 [.ref a0, g_n r49, g_n R15.toInt32.toInt] M61 (g_qI fun r88 M85 => g_ext M61 M85 → g_ok M85 → g_InR r88 → (r88 = 0 ∨ r88 = 1) ∧ Q r88 M85))))) ∧ (¬ r59 = 0 → g_Call d 423 [.ref a0, g_n r49, g_n R15.toInt32.toInt] M56 (g_qI fun r93 M90 => g_ext M56 M90 → g_ok M90 → g_InR r93 → (r93 = 0 ∨ r93 = 1) ∧ Q r93 M90))))))))) ∧ (¬ r44 = 0 → g_Call d 233 [.ref a0, g_n r5] M41 (g_qI fun r98 M95 => g_ext M41 M95 → g_ok M95 → g_InR r98 → g_Call d 419 [.ref a0, g_n r98, g_n R15.toInt32.toInt] M95 (g_qI fun r103 M100 => g_ext M95 M100 → g_ok M100 → g_InR r103 → (r103 = 0 ∨ r103 = 1) ∧ Q r103 M100)))))) ∧ (¬ r39 = 0 → g_Call d 233 [.ref a0, g_n r5] M36 (g_qI fun r108 M105 => g_ext M36 M105 → g_ok M105 → g_InR r108 → g_Call d 424 [.ref a0, g_n r108, g_n R15.toInt32.toInt] M105 (g_qI fun r113 M110 => g_ext M105 M110 → g_ok M110 → g_InR r113 → (r113 = 0 ∨ r113 = 1) ∧ Q r113 M110)))))) ∧ (¬ r34 = 0 → g_Call d 421 [.ref a0, g_n r5, g_n R15.toInt32.toInt] M31 (g_qI fun r118 M115 => g_ext M31 M115 → g_ok M115 → g_InR r118 → (r118 = 0 ∨ r118 = 1) ∧ Q r118 M115))))) ∧ (¬ r29 = 0 → g_Call d 422 [.ref a0, g_n r5, g_n R15.toInt32.toInt] M26 (g_qI fun r123 M120 => g_ext M26 M120 → g_ok M120 → g_InR r123 → (r123 = 0 ∨ r123 = 1) ∧ Q r123 M120))))) ∧ (¬ r19 = 0 → g_Call d 422 [.ref a0, g_n r5, g_n R15.toInt32.toInt] M16 (g_qI fun r24 M21 => g_ext M16 M21 → g_ok M21 → g_InR r24 → (r24 = 0 ∨ r24 = 1) ∧ Q r24 M21)))))))) : g_Call (d + 1) 416 [.ref a0] M (g_qI Q) := by
  refine g_Call.ok fun hok0 => ?_
  replace h := h hok0
  refine r_body rfl (lv := [(0, .ref a0)]) rfl ?_
  refine g_Run.ok fun hok => ?_
  refine r_aload_n x_416_0 rfl ?_
  refine r_iconst x_416_1 ?_
  refine r_iconst x_416_2 ?_
  obtain ⟨hO1, h⟩ := h
  refine r_invV x_416_3 (z := 241) (ns := 0) (by decide +kernel) (as := [g_n 0, g_n 0]) (r := []) rfl rfl rfl hO1 rfl rfl ?_
  refine r_callI h fun r5 M2 hx3 hok4 hr6 h => ?_
  replace h := h hx3 hok4 hr6
  replace hO1 := hO1.up hx3
  refine r_istore_n x_416_6 (by decide +kernel) rfl (lv1 := [(0, .ref a0), (1, g_n r5)]) rfl ?_
  refine r_aload_n x_416_7 rfl ?_
  refine r_aload_n x_416_8 rfl ?_
  refine r_iconst x_416_9 ?_
  refine r_iconst x_416_10 ?_
  refine r_invV x_416_11 (z := 241) (ns := 0) (by decide +kernel) (as := [g_n 0, g_n 1]) (r := [.ref a0]) rfl rfl rfl hO1 rfl rfl ?_
  refine r_callI h fun r10 M7 hx8 hok9 hr11 h => ?_
  replace h := h hx8 hok9 hr11
  replace hO1 := hO1.up hx8
  refine r_invV x_416_14 (z := 243) (ns := 0) (by decide +kernel) (as := [g_n r10]) (r := []) rfl rfl rfl hO1 rfl rfl ?_
  refine r_callL h fun R15 M12 hx13 hok14 h => ?_
  replace h := h hx13 hok14
  replace hO1 := hO1.up hx13
  refine r_l2i x_416_17 ?_
  refine r_istore_n x_416_18 (by decide +kernel) rfl (lv1 := [(0, .ref a0), (1, g_n r5), (2, g_n R15.toInt32.toInt)]) rfl ?_
  refine r_aload_n x_416_19 rfl ?_
  refine r_iload_n x_416_20 rfl ?_
  refine r_ldcw x_416_21 (v := .ref (4 * 79 + 1)) rfl ?_
  refine r_invV x_416_24 (z := 236) (ns := 0) (by decide +kernel) (as := [g_n r5, .ref (4 * 79 + 1)]) (r := []) rfl rfl rfl hO1 rfl rfl ?_
  refine r_callI h fun r19 M16 hx17 hok18 hr20 h => ?_
  replace h := h hx17 hok18 hr20
  replace hO1 := hO1.up hx17
  refine r_if_ne x_416_27 (t := 41) (by decide +kernel) hr20 (fun hc => ?_) (fun hc => ?_)
  · replace h := h.2 hc
    refine r_aload_n x_416_41 rfl ?_
    refine r_iload_n x_416_42 rfl ?_
    refine r_iload_n x_416_43 rfl ?_
    refine r_invV x_416_44 (z := 422) (ns := 0) (by decide +kernel) (as := [g_n r5, g_n R15.toInt32.toInt]) (r := []) rfl rfl rfl hO1 rfl rfl ?_
    refine r_callI h fun r24 M21 hx22 hok23 hr25 h => ?_
    replace h := h hx22 hok23 hr25
    replace hO1 := hO1.up hx22
    obtain ⟨hz, h⟩ := h
    exact r_retZ x_416_47 rfl hz h
  · replace h := h.1 hc
    refine r_aload_n x_416_30 rfl ?_
    refine r_iload_n x_416_31 rfl ?_
    refine r_ldcw x_416_32 (v := .ref (4 * 80 + 1)) rfl ?_
    refine r_invV x_416_35 (z := 236) (ns := 0) (by decide +kernel) (as := [g_n r5, .ref (4 * 80 + 1)]) (r := []) rfl rfl rfl hO1 rfl rfl ?_
    refine r_callI h fun r29 M26 hx27 hok28 hr30 h => ?_
    replace h := h hx27 hok28 hr30
    replace hO1 := hO1.up hx27
    refine r_if_eq x_416_38 (t := 48) (by decide +kernel) hr30 (fun hc => ?_) (fun hc => ?_)
    · replace h := h.1 hc
      refine r_aload_n x_416_48 rfl ?_
      refine r_iload_n x_416_49 rfl ?_
      refine r_ldcw x_416_50 (v := .ref (4 * 82 + 1)) rfl ?_
      refine r_invV x_416_53 (z := 236) (ns := 0) (by decide +kernel) (as := [g_n r5, .ref (4 * 82 + 1)]) (r := []) rfl rfl rfl hO1 rfl rfl ?_
      refine r_callI h fun r34 M31 hx32 hok33 hr35 h => ?_
      replace h := h hx32 hok33 hr35
      replace hO1 := hO1.up hx32
      refine r_if_eq x_416_56 (t := 66) (by decide +kernel) hr35 (fun hc => ?_) (fun hc => ?_)
      · replace h := h.1 hc
        refine r_aload_n x_416_66 rfl ?_
        refine r_iload_n x_416_67 rfl ?_
        refine r_ldcw x_416_68 (v := .ref (4 * 81 + 1)) rfl ?_
        refine r_invV x_416_71 (z := 236) (ns := 0) (by decide +kernel) (as := [g_n r5, .ref (4 * 81 + 1)]) (r := []) rfl rfl rfl hO1 rfl rfl ?_
        refine r_callI h fun r39 M36 hx37 hok38 hr40 h => ?_
        replace h := h hx37 hok38 hr40
        replace hO1 := hO1.up hx37
        refine r_if_eq x_416_74 (t := 88) (by decide +kernel) hr40 (fun hc => ?_) (fun hc => ?_)
        · replace h := h.1 hc
          refine r_aload_n x_416_88 rfl ?_
          refine r_iload_n x_416_89 rfl ?_
          refine r_ldcw x_416_90 (v := .ref (4 * 73 + 1)) rfl ?_
          refine r_invV x_416_93 (z := 236) (ns := 0) (by decide +kernel) (as := [g_n r5, .ref (4 * 73 + 1)]) (r := []) rfl rfl rfl hO1 rfl rfl ?_
          refine r_callI h fun r44 M41 hx42 hok43 hr45 h => ?_
          replace h := h hx42 hok43 hr45
          replace hO1 := hO1.up hx42
          refine r_if_eq x_416_96 (t := 110) (by decide +kernel) hr45 (fun hc => ?_) (fun hc => ?_)
          · replace h := h.1 hc
            refine r_aload_n x_416_110 rfl ?_
            refine r_iload_n x_416_111 rfl ?_
            refine r_invV x_416_112 (z := 233) (ns := 0) (by decide +kernel) (as := [g_n r5]) (r := []) rfl rfl rfl hO1 rfl rfl ?_
            refine r_callI h fun r49 M46 hx47 hok48 hr50 h => ?_
            replace h := h hx47 hok48 hr50
            replace hO1 := hO1.up hx47
            refine r_istore_n x_416_115 (by decide +kernel) rfl (lv1 := [(0, .ref a0), (1, g_n r5), (2, g_n R15.toInt32.toInt), (3, g_n r49)]) rfl ?_
            refine r_aload_n x_416_116 rfl ?_
            refine r_iload_n x_416_117 rfl ?_
            refine r_invV x_416_118 (z := 412) (ns := 0) (by decide +kernel) (as := [g_n r49]) (r := []) rfl rfl rfl hO1 rfl rfl ?_
            refine r_callI h fun r54 M51 hx52 hok53 hr55 h => ?_
            replace h := h hx52 hok53 hr55
            replace hO1 := hO1.up hx52
            refine r_if_ne x_416_121 (t := 126) (by decide +kernel) hr55 (fun hc => ?_) (fun hc => ?_)
            · replace h := h.2 hc
              refine r_aload_n x_416_126 rfl ?_
              refine r_iload_n x_416_127 rfl ?_
              refine r_ldcw x_416_128 (v := .ref (4 * 78 + 1)) rfl ?_
              refine r_invV x_416_131 (z := 236) (ns := 0) (by decide +kernel) (as := [g_n r5, .ref (4 * 78 + 1)]) (r := []) rfl rfl rfl hO1 rfl rfl ?_
              refine r_callI h fun r59 M56 hx57 hok58 hr60 h => ?_
              replace h := h hx57 hok58 hr60
              replace hO1 := hO1.up hx57
              refine r_if_eq x_416_134 (t := 144) (by decide +kernel) hr60 (fun hc => ?_) (fun hc => ?_)
              · replace h := h.1 hc
                refine r_aload_n x_416_144 rfl ?_
                refine r_iload_n x_416_145 rfl ?_
                refine r_ldcw x_416_146 (v := .ref (4 * 76 + 1)) rfl ?_
                refine r_invV x_416_149 (z := 236) (ns := 0) (by decide +kernel) (as := [g_n r5, .ref (4 * 76 + 1)]) (r := []) rfl rfl rfl hO1 rfl rfl ?_
                refine r_callI h fun r64 M61 hx62 hok63 hr65 h => ?_
                replace h := h hx62 hok63 hr65
                replace hO1 := hO1.up hx62
                refine r_if_eq x_416_152 (t := 162) (by decide +kernel) hr65 (fun hc => ?_) (fun hc => ?_)
                · replace h := h.1 hc
                  refine r_aload_n x_416_162 rfl ?_
                  refine r_iload_n x_416_163 rfl ?_
                  refine r_iload_n x_416_164 rfl ?_
                  refine r_invV x_416_165 (z := 413) (ns := 0) (by decide +kernel) (as := [g_n r49, g_n R15.toInt32.toInt]) (r := []) rfl rfl rfl hO1 rfl rfl ?_
                  refine r_callI h fun r69 M66 hx67 hok68 hr70 h => ?_
                  replace h := h hx67 hok68 hr70
                  replace hO1 := hO1.up hx67
                  refine r_istore x_416_168 (by decide +kernel) rfl (lv1 := [(0, .ref a0), (1, g_n r5), (2, g_n R15.toInt32.toInt), (3, g_n r49), (4, g_n r69)]) rfl ?_
                  refine r_aload_n x_416_170 rfl ?_
                  refine r_invV x_416_171 (z := 414) (ns := 0) (by decide +kernel) (as := []) (r := []) rfl rfl rfl hO1 rfl rfl ?_
                  refine r_callV h fun M71 hx72 hok73 h => ?_
                  replace h := h hx72 hok73
                  replace hO1 := hO1.up hx72
                  refine r_aload_n x_416_174 rfl ?_
                  refine r_ldcw x_416_175 (v := .ref (4 * 128 + 1)) rfl ?_
                  refine r_iload x_416_178 rfl ?_
                  refine r_invV x_416_180 (z := 255) (ns := 0) (by decide +kernel) (as := [.ref (4 * 128 + 1), g_n r69]) (r := []) rfl rfl rfl hO1 rfl rfl ?_
                  refine r_callV h fun M74 hx75 hok76 h => ?_
                  replace h := h hx75 hok76
                  replace hO1 := hO1.up hx75
                  refine r_aload_n x_416_183 rfl ?_
                  refine r_iload_n x_416_184 rfl ?_
                  refine r_ldcw x_416_185 (v := .ref (4 * 74 + 1)) rfl ?_
                  refine r_invV x_416_188 (z := 236) (ns := 0) (by decide +kernel) (as := [g_n r5, .ref (4 * 74 + 1)]) (r := []) rfl rfl rfl hO1 rfl rfl ?_
                  refine r_callI h fun r80 M77 hx78 hok79 hr81 h => ?_
                  replace h := h hx78 hok79 hr81
                  replace hO1 := hO1.up hx78
                  refine r_if_eq x_416_191 (t := 199) (by decide +kernel) hr81 (fun hc => ?_) (fun hc => ?_)
                  · replace h := h.1 hc
                    exact h
                  · replace h := h.2 hc
                    refine r_aload_n x_416_194 rfl ?_
                    refine r_iload_n x_416_195 rfl ?_
                    refine r_invV x_416_196 (z := 417) (ns := 0) (by decide +kernel) (as := [g_n R15.toInt32.toInt]) (r := []) rfl rfl rfl hO1 rfl rfl ?_
                    refine r_callV h fun M82 hx83 hok84 h => ?_
                    replace h := h hx83 hok84
                    replace hO1 := hO1.up hx83
                    exact h
                · replace h := h.2 hc
                  refine r_aload_n x_416_155 rfl ?_
                  refine r_iload_n x_416_156 rfl ?_
                  refine r_iload_n x_416_157 rfl ?_
                  refine r_invV x_416_158 (z := 420) (ns := 0) (by decide +kernel) (as := [g_n r49, g_n R15.toInt32.toInt]) (r := []) rfl rfl rfl hO1 rfl rfl ?_
                  refine r_callI h fun r88 M85 hx86 hok87 hr89 h => ?_
                  replace h := h hx86 hok87 hr89
                  replace hO1 := hO1.up hx86
                  obtain ⟨hz, h⟩ := h
                  exact r_retZ x_416_161 rfl hz h
              · replace h := h.2 hc
                refine r_aload_n x_416_137 rfl ?_
                refine r_iload_n x_416_138 rfl ?_
                refine r_iload_n x_416_139 rfl ?_
                refine r_invV x_416_140 (z := 423) (ns := 0) (by decide +kernel) (as := [g_n r49, g_n R15.toInt32.toInt]) (r := []) rfl rfl rfl hO1 rfl rfl ?_
                refine r_callI h fun r93 M90 hx91 hok92 hr94 h => ?_
                replace h := h hx91 hok92 hr94
                replace hO1 := hO1.up hx91
                obtain ⟨hz, h⟩ := h
                exact r_retZ x_416_143 rfl hz h
            · replace h := h.1 hc
              refine r_iconst x_416_124 ?_
              exact r_retZ x_416_125 rfl (Or.inl rfl) h
          · replace h := h.2 hc
            refine r_aload_n x_416_99 rfl ?_
            refine r_aload_n x_416_100 rfl ?_
            refine r_iload_n x_416_101 rfl ?_
            refine r_invV x_416_102 (z := 233) (ns := 0) (by decide +kernel) (as := [g_n r5]) (r := [.ref a0]) rfl rfl rfl hO1 rfl rfl ?_
            refine r_callI h fun r98 M95 hx96 hok97 hr99 h => ?_
            replace h := h hx96 hok97 hr99
            replace hO1 := hO1.up hx96
            refine r_iload_n x_416_105 rfl ?_
            refine r_invV x_416_106 (z := 419) (ns := 0) (by decide +kernel) (as := [g_n r98, g_n R15.toInt32.toInt]) (r := []) rfl rfl rfl hO1 rfl rfl ?_
            refine r_callI h fun r103 M100 hx101 hok102 hr104 h => ?_
            replace h := h hx101 hok102 hr104
            replace hO1 := hO1.up hx101
            obtain ⟨hz, h⟩ := h
            exact r_retZ x_416_109 rfl hz h
        · replace h := h.2 hc
          refine r_aload_n x_416_77 rfl ?_
          refine r_aload_n x_416_78 rfl ?_
          refine r_iload_n x_416_79 rfl ?_
          refine r_invV x_416_80 (z := 233) (ns := 0) (by decide +kernel) (as := [g_n r5]) (r := [.ref a0]) rfl rfl rfl hO1 rfl rfl ?_
          refine r_callI h fun r108 M105 hx106 hok107 hr109 h => ?_
          replace h := h hx106 hok107 hr109
          replace hO1 := hO1.up hx106
          refine r_iload_n x_416_83 rfl ?_
          refine r_invV x_416_84 (z := 424) (ns := 0) (by decide +kernel) (as := [g_n r108, g_n R15.toInt32.toInt]) (r := []) rfl rfl rfl hO1 rfl rfl ?_
          refine r_callI h fun r113 M110 hx111 hok112 hr114 h => ?_
          replace h := h hx111 hok112 hr114
          replace hO1 := hO1.up hx111
          obtain ⟨hz, h⟩ := h
          exact r_retZ x_416_87 rfl hz h
      · replace h := h.2 hc
        refine r_aload_n x_416_59 rfl ?_
        refine r_iload_n x_416_60 rfl ?_
        refine r_iload_n x_416_61 rfl ?_
        refine r_invV x_416_62 (z := 421) (ns := 0) (by decide +kernel) (as := [g_n r5, g_n R15.toInt32.toInt]) (r := []) rfl rfl rfl hO1 rfl rfl ?_
        refine r_callI h fun r118 M115 hx116 hok117 hr119 h => ?_
        replace h := h hx116 hok117 hr119
        replace hO1 := hO1.up hx116
        obtain ⟨hz, h⟩ := h
        exact r_retZ x_416_65 rfl hz h
    · replace h := h.2 hc
      refine r_aload_n x_416_41 rfl ?_
      refine r_iload_n x_416_42 rfl ?_
      refine r_iload_n x_416_43 rfl ?_
      refine r_invV x_416_44 (z := 422) (ns := 0) (by decide +kernel) (as := [g_n r5, g_n R15.toInt32.toInt]) (r := []) rfl rfl rfl hO1 rfl rfl ?_
      refine r_callI h fun r123 M120 hx121 hok122 hr124 h => ?_
      replace h := h hx121 hok122 hr124
      replace hO1 := hO1.up hx121
      obtain ⟨hz, h⟩ := h
      exact r_retZ x_416_47 rfl hz h
theorem s_X12_does_199 {d : Nat} {M : g_M} {Q : Int → g_M → Prop} {a0 : Nat} {v1 : Int} (hv1 : g_InR v1) {v2 : Int} (hv2 : g_InR v2) {v3 : Int} (hv3 : g_InR v3) {v4 : Int} (hv4 : g_InR v4) (h : g_ok M → g_O M a0 12 ∧ g_Call d 236 [.ref a0, g_n v1, .ref (4 * 77 + 1)] M (g_qI fun r5 M2 => g_ext M M2 → g_ok M2 → g_InR r5 → ((r5 = 0 → g_Call d 415 [.ref a0] M2 (g_qI fun r10 M7 => g_ext M2 M7 → g_ok M7 → g_InR r10 → (r10 = 0 ∨ r10 = 1) ∧ Q r10 M7)) ∧ (¬ r5 = 0 → g_Call d 418 [.ref a0, g_n v2] M2 (g_qV fun M12 => g_ext M2 M12 → g_ok M12 → g_Call d 415 [.ref a0] M12 (g_qI fun r18 M15 => g_ext M12 M15 → g_ok M15 → g_InR r18 → (r18 = 0 ∨ r18 = 1) ∧ Q r18 M15)))))) : g_Run d 416 199 [(0, .ref a0), (1, g_n v1), (2, g_n v2), (3, g_n v3), (4, g_n v4)] [] M (g_qI Q) := by
  refine g_Run.ok fun hok => ?_
  replace h := h hok
  refine r_aload_n x_416_199 rfl ?_
  refine r_iload_n x_416_200 rfl ?_
  refine r_ldcw x_416_201 (v := .ref (4 * 77 + 1)) rfl ?_
  obtain ⟨hO1, h⟩ := h
  refine r_invV x_416_204 (z := 236) (ns := 0) (by decide +kernel) (as := [g_n v1, .ref (4 * 77 + 1)]) (r := []) rfl rfl rfl hO1 rfl rfl ?_
  refine r_callI h fun r5 M2 hx3 hok4 hr6 h => ?_
  replace h := h hx3 hok4 hr6
  replace hO1 := hO1.up hx3
  refine r_if_eq x_416_207 (t := 215) (by decide +kernel) hr6 (fun hc => ?_) (fun hc => ?_)
  · replace h := h.1 hc
    refine r_aload_n x_416_215 rfl ?_
    refine r_invV x_416_216 (z := 415) (ns := 0) (by decide +kernel) (as := []) (r := []) rfl rfl rfl hO1 rfl rfl ?_
    refine r_callI h fun r10 M7 hx8 hok9 hr11 h => ?_
    replace h := h hx8 hok9 hr11
    replace hO1 := hO1.up hx8
    obtain ⟨hz, h⟩ := h
    exact r_retZ x_416_219 rfl hz h
  · replace h := h.2 hc
    refine r_aload_n x_416_210 rfl ?_
    refine r_iload_n x_416_211 rfl ?_
    refine r_invV x_416_212 (z := 418) (ns := 0) (by decide +kernel) (as := [g_n v2]) (r := []) rfl rfl rfl hO1 rfl rfl ?_
    refine r_callV h fun M12 hx13 hok14 h => ?_
    replace h := h hx13 hok14
    replace hO1 := hO1.up hx13
    refine r_aload_n x_416_215 rfl ?_
    refine r_invV x_416_216 (z := 415) (ns := 0) (by decide +kernel) (as := []) (r := []) rfl rfl rfl hO1 rfl rfl ?_
    refine r_callI h fun r18 M15 hx16 hok17 hr19 h => ?_
    replace h := h hx16 hok17 hr19
    replace hO1 := hO1.up hx16
    obtain ⟨hz, h⟩ := h
    exact r_retZ x_416_219 rfl hz h
theorem m_X12_putFound {d : Nat} {M : g_M} {Q : g_M → Prop} {a0 : Nat} {v1 : Int} (hv1 : g_InR v1) (h : g_ok M → g_O M a0 12 ∧ g_Call d 246 [.ref a0, g_n 4] M (g_qV fun M2 => g_ext M M2 → g_ok M2 → g_Call d 249 [.ref a0, .ref (4 * 129 + 1)] M2 (g_qV fun M5 => g_ext M2 M5 → g_ok M5 → g_Call d 251 [.ref a0] M5 (g_qI fun r11 M8 => g_ext M5 M8 → g_ok M8 → g_InR r11 → g_Run d 417 22 [(0, .ref a0), (1, g_n v1), (2, g_n r11), (3, g_n 0), (4, g_n 0)] [] M8 (g_qV Q))))) : g_Call (d + 1) 417 [.ref a0, g_n v1] M (g_qV Q) := by
  refine g_Call.ok fun hok0 => ?_
  replace h := h hok0
  refine r_body rfl (lv := [(0, .ref a0), (1, g_n v1)]) rfl ?_
  refine g_Run.ok fun hok => ?_
  refine r_aload_n x_417_0 rfl ?_
  refine r_iconst x_417_1 ?_
  obtain ⟨hO1, h⟩ := h
  refine r_invV x_417_2 (z := 246) (ns := 0) (by decide +kernel) (as := [g_n 4]) (r := []) rfl rfl rfl hO1 rfl rfl ?_
  refine r_callV h fun M2 hx3 hok4 h => ?_
  replace h := h hx3 hok4
  replace hO1 := hO1.up hx3
  refine r_aload_n x_417_5 rfl ?_
  refine r_ldcw x_417_6 (v := .ref (4 * 129 + 1)) rfl ?_
  refine r_invV x_417_9 (z := 249) (ns := 0) (by decide +kernel) (as := [.ref (4 * 129 + 1)]) (r := []) rfl rfl rfl hO1 rfl rfl ?_
  refine r_callV h fun M5 hx6 hok7 h => ?_
  replace h := h hx6 hok7
  replace hO1 := hO1.up hx6
  refine r_aload_n x_417_12 rfl ?_
  refine r_invV x_417_13 (z := 251) (ns := 0) (by decide +kernel) (as := []) (r := []) rfl rfl rfl hO1 rfl rfl ?_
  refine r_callI h fun r11 M8 hx9 hok10 hr12 h => ?_
  replace h := h hx9 hok10 hr12
  replace hO1 := hO1.up hx9
  refine r_istore_n x_417_16 (by decide +kernel) rfl (lv1 := [(0, .ref a0), (1, g_n v1), (2, g_n r11)]) rfl ?_
  refine r_iconst x_417_17 ?_
  refine r_istore_n x_417_18 (by decide +kernel) rfl (lv1 := [(0, .ref a0), (1, g_n v1), (2, g_n r11), (3, g_n 0)]) rfl ?_
  refine r_iconst x_417_19 ?_
  refine r_istore x_417_20 (by decide +kernel) rfl (lv1 := [(0, .ref a0), (1, g_n v1), (2, g_n r11), (3, g_n 0), (4, g_n 0)]) rfl ?_
  exact h
theorem s_X12_putFound_22 {d : Nat} {M : g_M} {Q : g_M → Prop} {a0 : Nat} {v1 : Int} (hv1 : g_InR v1) {v2 : Int} (hv2 : g_InR v2) {v3 : Int} (hv3 : g_InR v3) {v4 : Int} (hv4 : g_InR v4) (h : g_ok M → g_O M a0 12 ∧ ∃ b2, g_r M a0 68 = some b2 ∧ ∃ n4, g_A M b2 1 n4 ∧ ((0 : Int) ≤ v1 ∧ (v1 : Int) < n4) ∧ ((v4 < g_i M b2 v1 → ∃ b10, g_r M a0 74 = some b10 ∧ ∃ n12, g_A M b10 2 n12 ∧ ((0 : Int) ≤ v4 ∧ (v4 : Int) < n12) ∧ ((g_i M b10 v4 = 0 → g_InR (v4 + 1) ∧ g_Run d 417 22 [(0, .ref a0), (1, g_n v1), (2, g_n v2), (3, g_n v3), (4, g_n (v4 + 1))] [] M (g_qV Q)) ∧ (¬ g_i M b10 v4 = 0 → g_Call d 246 [.ref a0, g_n 3] M (g_qV fun M15 => g_ext M M15 → g_ok M15 → g_Call d 250 [.ref a0, g_n v3] M15 (g_qV fun M18 => g_ext M15 M18 → g_ok M18 → g_Call d 251 [.ref a0] M18 (g_qI fun r24 M21 => g_ext M18 M21 → g_ok M21 → g_InR r24 → ∃ b26, g_r M21 a0 72 = some b26 ∧ g_InR (200 * v1) ∧ g_InR ((200 * v1) + v4) ∧ ∃ n30, g_A M21 b26 1 n30 ∧ ((0 : Int) ≤ (200 * v1) + v4 ∧ ((200 * v1) + v4 : Int) < n30) ∧ g_Call d 255 [.ref a0, .ref (4 * 130 + 1), g_n (g_i M21 b26 ((200 * v1) + v4))] M21 (g_qV fun M33 => g_ext M21 M33 → g_ok M33 → g_Call d 246 [.ref a0, g_n 3] M33 (g_qV fun M36 => g_ext M33 M36 → g_ok M36 → g_Call d 249 [.ref a0, .ref (4 * 139 + 1)] M36 (g_qV fun M39 => g_ext M36 M39 → g_ok M39 → g_Call d 404 [.ref a0, g_n v1, g_n v4] M39 (g_qI fun r45 M42 => g_ext M39 M42 → g_ok M42 → g_InR r45 → g_Call d 404 [.ref a0, g_n v1, g_n v4] M42 (g_qI fun r50 M47 => g_ext M42 M47 → g_ok M47 → g_InR r50 → g_Call d 404 [.ref a0, g_n v1, g_n v4] M47 (g_qI fun r55 M52 => g_ext M47 M52 → g_ok M52 → g_InR r55 → g_Call d 227 [.ref a0, g_n r55] M52 (g_qI fun r60 M57 => g_ext M52 M57 → g_ok M57 → g_InR r60 → g_InR (r50 + r60) ∧ g_Call d 248 [.ref a0, g_n r45, g_n (r50 + r60)] M57 (g_qV fun M63 => g_ext M57 M63 → g_ok M63 → g_Call d 252 [.ref a0, g_n r24] M63 (g_qV fun M66 => g_ext M63 M66 → g_ok M66 → g_InR (v3 + 1) ∧ g_InR (v4 + 1) ∧ g_Run d 417 22 [(0, .ref a0), (1, g_n v1), (2, g_n v2), (3, g_n (v3 + 1)), (4, g_n (v4 + 1))] [] M66 (g_qV Q)))))))))))))))) ∧ (¬ v4 < g_i M b2 v1 → g_Call d 252 [.ref a0, g_n v2] M (g_qV fun M7 => g_ext M M7 → g_ok M7 → Q M7)))) : g_Run d 417 22 [(0, .ref a0), (1, g_n v1), (2, g_n v2), (3, g_n v3), (4, g_n v4)] [] M (g_qV Q) := by
  refine g_Run.ok fun hok => ?_
  replace h := h hok
  refine r_iload x_417_22 rfl ?_
  refine r_aload_n x_417_24 rfl ?_
  obtain ⟨hO1, h⟩ := h
  obtain ⟨b2, hb3, h⟩ := h
  refine r_getR x_417_25 rfl (ci := 12) (k := 68) (ns := 0) (by decide +kernel) (by decide) rfl (kz := 68) rfl hO1 hb3 ?_
  refine r_iload_n x_417_28 rfl ?_
  obtain ⟨n4, hA5, h⟩ := h
  obtain ⟨h6, h⟩ := h
  refine r_iald x_417_29 hA5 hv1 h6.1 h6.2 ?_
  refine r_ic_ge x_417_30 (t := 139) (by decide +kernel) hv4 (hok.1 _ _) (fun hc => ?_) (fun hc => ?_)
  · replace h := h.2 hc
    refine r_aload_n x_417_139 rfl ?_
    refine r_iload_n x_417_140 rfl ?_
    refine r_invV x_417_141 (z := 252) (ns := 0) (by decide +kernel) (as := [g_n v2]) (r := []) rfl rfl rfl hO1 rfl rfl ?_
    refine r_callV h fun M7 hx8 hok9 h => ?_
    replace h := h hx8 hok9
    replace hO1 := hO1.up hx8
    replace hA5 := hA5.up hx8
    exact r_retV x_417_144 rfl h
  · replace h := h.1 hc
    refine r_aload_n x_417_33 rfl ?_
    obtain ⟨b10, hb11, h⟩ := h
    refine r_getR x_417_34 rfl (ci := 12) (k := 74) (ns := 0) (by decide +kernel) (by decide) rfl (kz := 74) rfl hO1 hb11 ?_
    refine r_iload x_417_37 rfl ?_
    obtain ⟨n12, hA13, h⟩ := h
    obtain ⟨h14, h⟩ := h
    refine r_bald x_417_39 (Or.inr rfl) hA13 hv4 h14.1 h14.2 ?_
    refine r_if_ne x_417_40 (t := 46) (by decide +kernel) (hok.1 _ _) (fun hc => ?_) (fun hc => ?_)
    · replace h := h.2 hc
      refine r_aload_n x_417_46 rfl ?_
      refine r_iconst x_417_47 ?_
      refine r_invV x_417_48 (z := 246) (ns := 0) (by decide +kernel) (as := [g_n 3]) (r := []) rfl rfl rfl hO1 rfl rfl ?_
      refine r_callV h fun M15 hx16 hok17 h => ?_
      replace h := h hx16 hok17
      replace hO1 := hO1.up hx16
      replace hA5 := hA5.up hx16
      replace hA13 := hA13.up hx16
      refine r_aload_n x_417_51 rfl ?_
      refine r_iload_n x_417_52 rfl ?_
      refine r_invV x_417_53 (z := 250) (ns := 0) (by decide +kernel) (as := [g_n v3]) (r := []) rfl rfl rfl hO1 rfl rfl ?_
      refine r_callV h fun M18 hx19 hok20 h => ?_
      replace h := h hx19 hok20
      replace hO1 := hO1.up hx19
      replace hA5 := hA5.up hx19
      replace hA13 := hA13.up hx19
      refine r_aload_n x_417_56 rfl ?_
      refine r_invV x_417_57 (z := 251) (ns := 0) (by decide +kernel) (as := []) (r := []) rfl rfl rfl hO1 rfl rfl ?_
      refine r_callI h fun r24 M21 hx22 hok23 hr25 h => ?_
      replace h := h hx22 hok23 hr25
      replace hO1 := hO1.up hx22
      replace hA5 := hA5.up hx22
      replace hA13 := hA13.up hx22
      refine r_istore x_417_60 (by decide +kernel) rfl (lv1 := [(0, .ref a0), (1, g_n v1), (2, g_n v2), (3, g_n v3), (4, g_n v4), (5, g_n r24)]) rfl ?_
      refine r_aload_n x_417_62 rfl ?_
      refine r_ldcw x_417_63 (v := .ref (4 * 130 + 1)) rfl ?_
      refine r_aload_n x_417_66 rfl ?_
      obtain ⟨b26, hb27, h⟩ := h
      refine r_getR x_417_67 rfl (ci := 12) (k := 72) (ns := 0) (by decide +kernel) (by decide) rfl (kz := 72) rfl hO1 hb27 ?_
      refine r_sipush x_417_70 (x := 200) rfl ?_
      refine r_iload_n x_417_73 rfl ?_
      refine r_imul x_417_74 ?_
      obtain ⟨h28, h⟩ := h
      refine r_iload x_417_75 rfl ?_
      refine r_iadd x_417_77 ?_
      obtain ⟨h29, h⟩ := h
      obtain ⟨n30, hA31, h⟩ := h
      obtain ⟨h32, h⟩ := h
      refine r_iald x_417_78 hA31 h29 h32.1 h32.2 ?_
      refine r_invV x_417_79 (z := 255) (ns := 0) (by decide +kernel) (as := [.ref (4 * 130 + 1), g_n (g_i M21 b26 ((200 * v1) + v4))]) (r := []) rfl rfl rfl hO1 rfl rfl ?_
      refine r_callV h fun M33 hx34 hok35 h => ?_
      replace h := h hx34 hok35
      replace hO1 := hO1.up hx34
      replace hA5 := hA5.up hx34
      replace hA13 := hA13.up hx34
      replace hA31 := hA31.up hx34
      refine r_aload_n x_417_82 rfl ?_
      refine r_iconst x_417_83 ?_
      refine r_invV x_417_84 (z := 246) (ns := 0) (by decide +kernel) (as := [g_n 3]) (r := []) rfl rfl rfl hO1 rfl rfl ?_
      refine r_callV h fun M36 hx37 hok38 h => ?_
      replace h := h hx37 hok38
      replace hO1 := hO1.up hx37
      replace hA5 := hA5.up hx37
      replace hA13 := hA13.up hx37
      replace hA31 := hA31.up hx37
      refine r_aload_n x_417_87 rfl ?_
      refine r_ldcw x_417_88 (v := .ref (4 * 139 + 1)) rfl ?_
      refine r_invV x_417_91 (z := 249) (ns := 0) (by decide +kernel) (as := [.ref (4 * 139 + 1)]) (r := []) rfl rfl rfl hO1 rfl rfl ?_
      refine r_callV h fun M39 hx40 hok41 h => ?_
      replace h := h hx40 hok41
      replace hO1 := hO1.up hx40
      replace hA5 := hA5.up hx40
      replace hA13 := hA13.up hx40
      replace hA31 := hA31.up hx40
      refine r_aload_n x_417_94 rfl ?_
      refine r_aload_n x_417_95 rfl ?_
      refine r_iload_n x_417_96 rfl ?_
      refine r_iload x_417_97 rfl ?_
      refine r_invV x_417_99 (z := 404) (ns := 0) (by decide +kernel) (as := [g_n v1, g_n v4]) (r := [.ref a0]) rfl rfl rfl hO1 rfl rfl ?_
      refine r_callI h fun r45 M42 hx43 hok44 hr46 h => ?_
      replace h := h hx43 hok44 hr46
      replace hO1 := hO1.up hx43
      replace hA5 := hA5.up hx43
      replace hA13 := hA13.up hx43
      replace hA31 := hA31.up hx43
      refine r_aload_n x_417_102 rfl ?_
      refine r_iload_n x_417_103 rfl ?_
      refine r_iload x_417_104 rfl ?_
      refine r_invV x_417_106 (z := 404) (ns := 0) (by decide +kernel) (as := [g_n v1, g_n v4]) (r := [g_n r45, .ref a0]) rfl rfl rfl hO1 rfl rfl ?_
      refine r_callI h fun r50 M47 hx48 hok49 hr51 h => ?_
      replace h := h hx48 hok49 hr51
      replace hO1 := hO1.up hx48
      replace hA5 := hA5.up hx48
      replace hA13 := hA13.up hx48
      replace hA31 := hA31.up hx48
      refine r_aload_n x_417_109 rfl ?_
      refine r_aload_n x_417_110 rfl ?_
      refine r_iload_n x_417_111 rfl ?_
      refine r_iload x_417_112 rfl ?_
      refine r_invV x_417_114 (z := 404) (ns := 0) (by decide +kernel) (as := [g_n v1, g_n v4]) (r := [.ref a0, g_n r50, g_n r45, .ref a0]) rfl rfl rfl hO1 rfl rfl ?_
      refine r_callI h fun r55 M52 hx53 hok54 hr56 h => ?_
      replace h := h hx53 hok54 hr56
      replace hO1 := hO1.up hx53
      replace hA5 := hA5.up hx53
      replace hA13 := hA13.up hx53
      replace hA31 := hA31.up hx53
      refine r_invV x_417_117 (z := 227) (ns := 0) (by decide +kernel) (as := [g_n r55]) (r := [g_n r50, g_n r45, .ref a0]) rfl rfl rfl hO1 rfl rfl ?_
      refine r_callI h fun r60 M57 hx58 hok59 hr61 h => ?_
      replace h := h hx58 hok59 hr61
      replace hO1 := hO1.up hx58
      replace hA5 := hA5.up hx58
      replace hA13 := hA13.up hx58
      replace hA31 := hA31.up hx58
      refine r_iadd x_417_120 ?_
      obtain ⟨h62, h⟩ := h
      refine r_invV x_417_121 (z := 248) (ns := 0) (by decide +kernel) (as := [g_n r45, g_n (r50 + r60)]) (r := []) rfl rfl rfl hO1 rfl rfl ?_
      refine r_callV h fun M63 hx64 hok65 h => ?_
      replace h := h hx64 hok65
      replace hO1 := hO1.up hx64
      replace hA5 := hA5.up hx64
      replace hA13 := hA13.up hx64
      replace hA31 := hA31.up hx64
      refine r_aload_n x_417_124 rfl ?_
      refine r_iload x_417_125 rfl ?_
      refine r_invV x_417_127 (z := 252) (ns := 0) (by decide +kernel) (as := [g_n r24]) (r := []) rfl rfl rfl hO1 rfl rfl ?_
      refine r_callV h fun M66 hx67 hok68 h => ?_
      replace h := h hx67 hok68
      replace hO1 := hO1.up hx67
      replace hA5 := hA5.up hx67
      replace hA13 := hA13.up hx67
      replace hA31 := hA31.up hx67
      obtain ⟨h69, h⟩ := h
      refine r_iinc x_417_130 (by decide +kernel) rfl rfl (lv1 := [(0, .ref a0), (1, g_n v1), (2, g_n v2), (3, g_n (v3 + 1)), (4, g_n v4), (5, g_n r24)]) rfl ?_
      obtain ⟨h70, h⟩ := h
      refine r_iinc x_417_133 (by decide +kernel) rfl rfl (lv1 := [(0, .ref a0), (1, g_n v1), (2, g_n v2), (3, g_n (v3 + 1)), (4, g_n (v4 + 1)), (5, g_n r24)]) rfl ?_
      refine r_goto x_417_136 (t := 22) (by decide +kernel) ?_
      refine g_drop [0, 1, 2, 3, 4] (lv1 := [(0, .ref a0), (1, g_n v1), (2, g_n v2), (3, g_n (v3 + 1)), (4, g_n (v4 + 1))]) rfl ?_
      exact h
    · replace h := h.1 hc
      refine r_goto x_417_43 (t := 133) (by decide +kernel) ?_
      obtain ⟨h71, h⟩ := h
      refine r_iinc x_417_133 (by decide +kernel) rfl rfl (lv1 := [(0, .ref a0), (1, g_n v1), (2, g_n v2), (3, g_n v3), (4, g_n (v4 + 1))]) rfl ?_
      refine r_goto x_417_136 (t := 22) (by decide +kernel) ?_
      exact h
theorem m_X12_takeOut {d : Nat} {M : g_M} {Q : g_M → Prop} {a0 : Nat} {v1 : Int} (hv1 : g_InR v1) (h : g_ok M → g_O M a0 12 ∧ g_Run d 418 13 [(0, .ref a0), (1, g_n v1), (2, g_n (g_i M a0 4)), (3, g_n (g_i M a0 5)), (4, g_n 0)] [] M (g_qV Q)) : g_Call (d + 1) 418 [.ref a0, g_n v1] M (g_qV Q) := by
  refine g_Call.ok fun hok0 => ?_
  replace h := h hok0
  refine r_body rfl (lv := [(0, .ref a0), (1, g_n v1)]) rfl ?_
  refine g_Run.ok fun hok => ?_
  refine r_aload_n x_418_0 rfl ?_
  obtain ⟨hO1, h⟩ := h
  refine r_getI x_418_1 rfl (ci := 12) (k := 4) (ns := 0) (by decide +kernel) (by decide) rfl (kz := 4) rfl hO1 ?_
  refine r_istore_n x_418_4 (by decide +kernel) rfl (lv1 := [(0, .ref a0), (1, g_n v1), (2, g_n (g_i M a0 4))]) rfl ?_
  refine r_aload_n x_418_5 rfl ?_
  refine r_getI x_418_6 rfl (ci := 12) (k := 5) (ns := 0) (by decide +kernel) (by decide) rfl (kz := 5) rfl hO1 ?_
  refine r_istore_n x_418_9 (by decide +kernel) rfl (lv1 := [(0, .ref a0), (1, g_n v1), (2, g_n (g_i M a0 4)), (3, g_n (g_i M a0 5))]) rfl ?_
  refine r_iconst x_418_10 ?_
  refine r_istore x_418_11 (by decide +kernel) rfl (lv1 := [(0, .ref a0), (1, g_n v1), (2, g_n (g_i M a0 4)), (3, g_n (g_i M a0 5)), (4, g_n 0)]) rfl ?_
  exact h
theorem s_X12_takeOut_13 {d : Nat} {M : g_M} {Q : g_M → Prop} {a0 : Nat} {v1 : Int} (hv1 : g_InR v1) {v2 : Int} (hv2 : g_InR v2) {v3 : Int} (hv3 : g_InR v3) {v4 : Int} (hv4 : g_InR v4) (h : g_ok M → g_O M a0 12 ∧ ∃ b2, g_r M a0 68 = some b2 ∧ ∃ n4, g_A M b2 1 n4 ∧ ((0 : Int) ≤ v1 ∧ (v1 : Int) < n4) ∧ ((v4 < g_i M b2 v1 → ∃ b7, g_r M a0 74 = some b7 ∧ ∃ n9, g_A M b7 2 n9 ∧ ((0 : Int) ≤ v4 ∧ (v4 : Int) < n9) ∧ ((g_i M b7 v4 = 0 → g_InR (v4 + 1) ∧ g_Run d 418 13 [(0, .ref a0), (1, g_n v1), (2, g_n v2), (3, g_n v3), (4, g_n (v4 + 1))] [] M (g_qV Q)) ∧ (¬ g_i M b7 v4 = 0 → g_InR (4 * v1) ∧ g_Run d 418 42 [(0, .ref a0), (1, g_n v1), (2, g_n v2), (3, g_n v3), (4, g_n v4), (5, g_n (4 * v1))] [] M (g_qV Q)))) ∧ (¬ v4 < g_i M b2 v1 → g_Run d 418 146 [(0, .ref a0), (1, g_n v1), (2, g_n v2), (3, g_n v3), (4, g_n 0), (5, g_n 0)] [] M (g_qV Q)))) : g_Run d 418 13 [(0, .ref a0), (1, g_n v1), (2, g_n v2), (3, g_n v3), (4, g_n v4)] [] M (g_qV Q) := by
  refine g_Run.ok fun hok => ?_
  replace h := h hok
  refine r_iload x_418_13 rfl ?_
  refine r_aload_n x_418_15 rfl ?_
  obtain ⟨hO1, h⟩ := h
  obtain ⟨b2, hb3, h⟩ := h
  refine r_getR x_418_16 rfl (ci := 12) (k := 68) (ns := 0) (by decide +kernel) (by decide) rfl (kz := 68) rfl hO1 hb3 ?_
  refine r_iload_n x_418_19 rfl ?_
  obtain ⟨n4, hA5, h⟩ := h
  obtain ⟨h6, h⟩ := h
  refine r_iald x_418_20 hA5 hv1 h6.1 h6.2 ?_
  refine r_ic_ge x_418_21 (t := 140) (by decide +kernel) hv4 (hok.1 _ _) (fun hc => ?_) (fun hc => ?_)
  · replace h := h.2 hc
    refine r_iconst x_418_140 ?_
    refine r_istore x_418_141 (by decide +kernel) rfl (lv1 := [(0, .ref a0), (1, g_n v1), (2, g_n v2), (3, g_n v3), (4, g_n 0)]) rfl ?_
    refine r_iconst x_418_143 ?_
    refine r_istore x_418_144 (by decide +kernel) rfl (lv1 := [(0, .ref a0), (1, g_n v1), (2, g_n v2), (3, g_n v3), (4, g_n 0), (5, g_n 0)]) rfl ?_
    exact h
  · replace h := h.1 hc
    refine r_aload_n x_418_24 rfl ?_
    obtain ⟨b7, hb8, h⟩ := h
    refine r_getR x_418_25 rfl (ci := 12) (k := 74) (ns := 0) (by decide +kernel) (by decide) rfl (kz := 74) rfl hO1 hb8 ?_
    refine r_iload x_418_28 rfl ?_
    obtain ⟨n9, hA10, h⟩ := h
    obtain ⟨h11, h⟩ := h
    refine r_bald x_418_30 (Or.inr rfl) hA10 hv4 h11.1 h11.2 ?_
    refine r_if_ne x_418_31 (t := 37) (by decide +kernel) (hok.1 _ _) (fun hc => ?_) (fun hc => ?_)
    · replace h := h.2 hc
      refine r_iconst x_418_37 ?_
      refine r_iload_n x_418_38 rfl ?_
      refine r_imul x_418_39 ?_
      obtain ⟨h12, h⟩ := h
      refine r_istore x_418_40 (by decide +kernel) rfl (lv1 := [(0, .ref a0), (1, g_n v1), (2, g_n v2), (3, g_n v3), (4, g_n v4), (5, g_n (4 * v1))]) rfl ?_
      exact h
    · replace h := h.1 hc
      refine r_goto x_418_34 (t := 134) (by decide +kernel) ?_
      obtain ⟨h13, h⟩ := h
      refine r_iinc x_418_134 (by decide +kernel) rfl rfl (lv1 := [(0, .ref a0), (1, g_n v1), (2, g_n v2), (3, g_n v3), (4, g_n (v4 + 1))]) rfl ?_
      refine r_goto x_418_137 (t := 13) (by decide +kernel) ?_
      exact h
theorem s_X12_takeOut_42 {d : Nat} {M : g_M} {Q : g_M → Prop} {a0 : Nat} {v1 : Int} (hv1 : g_InR v1) {v2 : Int} (hv2 : g_InR v2) {v3 : Int} (hv3 : g_InR v3) {v4 : Int} (hv4 : g_InR v4) {v5 : Int} (hv5 : g_InR v5) (h : g_ok M → g_InR (4 * v1) ∧ g_InR ((4 * v1) + 4) ∧ ((v5 < (4 * v1) + 4 → g_O M a0 12 ∧ ∃ b43, g_r M a0 35 = some b43 ∧ ∃ n45, g_A M b43 2 n45 ∧ ((0 : Int) ≤ v5 ∧ (v5 : Int) < n45) ∧ ((g_i M b43 v5 = 0 → g_InR (v5 + 1) ∧ g_Run d 418 42 [(0, .ref a0), (1, g_n v1), (2, g_n v2), (3, g_n v3), (4, g_n v4), (5, g_n (v5 + 1))] [] M (g_qV Q)) ∧ (¬ g_i M b43 v5 = 0 → g_Call d 404 [.ref a0, g_n v1, g_n v4] M (g_qI fun r52 M49 => g_ext M M49 → g_ok M49 → g_InR r52 → ∃ b54, g_r M49 a0 72 = some b54 ∧ g_InR (200 * v1) ∧ g_InR ((200 * v1) + v4) ∧ ∃ n58, g_A M49 b54 1 n58 ∧ ((0 : Int) ≤ (200 * v1) + v4 ∧ ((200 * v1) + v4 : Int) < n58) ∧ g_Call d 384 [.ref a0, g_n v5, g_n r52, g_n (g_i M49 b54 ((200 * v1) + v4)), g_n 0] M49 (g_qV fun M61 => g_ext M49 M61 → g_ok M61 → g_InR (v5 + 1) ∧ g_Run d 418 42 [(0, .ref a0), (1, g_n v1), (2, g_n v2), (3, g_n v3), (4, g_n v4), (5, g_n (v5 + 1))] [] M61 (g_qV Q)))))) ∧ (¬ v5 < (4 * v1) + 4 → g_O M a0 12 ∧ ∃ b4, g_r M a0 69 = some b4 ∧ ∃ n6, g_A M b4 1 n6 ∧ ((0 : Int) ≤ v1 ∧ (v1 : Int) < n6) ∧ g_Call d 404 [.ref a0, g_n v1, g_n v4] M (g_qI fun r12 M9 => g_ext M M9 → g_ok M9 → g_InR r12 → g_Call d 227 [.ref a0, g_n r12] M9 (g_qI fun r17 M14 => g_ext M9 M14 → g_ok M14 → g_InR r17 → g_InR ((g_i M b4 v1) - r17) ∧ ((0 : Int) ≤ v1 ∧ (v1 : Int) < n6) ∧ (∀ M21, M21 = g_wi M14 b4 v1 ((g_i M b4 v1) - r17) → g_ok M21 → ∃ b25, g_r M21 a0 73 = some b25 ∧ ∃ b27, g_r M21 a0 71 = some b27 ∧ g_InR (200 * v1) ∧ g_InR ((200 * v1) + v4) ∧ ∃ n31, g_A M21 b27 1 n31 ∧ ((0 : Int) ≤ (200 * v1) + v4 ∧ ((200 * v1) + v4 : Int) < n31) ∧ ∃ n34, g_A M21 b25 2 n34 ∧ ((0 : Int) ≤ g_i M21 b27 ((200 * v1) + v4) ∧ (g_i M21 b27 ((200 * v1) + v4) : Int) < n34) ∧ (∀ M37, M37 = g_wi M21 b25 (g_i M21 b27 ((200 * v1) + v4)) 0 → g_ok M37 → g_InR (v4 + 1) ∧ g_Run d 418 13 [(0, .ref a0), (1, g_n v1), (2, g_n v2), (3, g_n v3), (4, g_n (v4 + 1))] [] M37 (g_qV Q)))))))) : g_Run d 418 42 [(0, .ref a0), (1, g_n v1), (2, g_n v2), (3, g_n v3), (4, g_n v4), (5, g_n v5)] [] M (g_qV Q) := by
  refine g_Run.ok fun hok => ?_
  replace h := h hok
  refine r_iload x_418_42 rfl ?_
  refine r_iconst x_418_44 ?_
  refine r_iload_n x_418_45 rfl ?_
  refine r_imul x_418_46 ?_
  obtain ⟨h1, h⟩ := h
  refine r_iconst x_418_47 ?_
  refine r_iadd x_418_48 ?_
  obtain ⟨h2, h⟩ := h
  refine r_ic_ge x_418_49 (t := 95) (by decide +kernel) hv5 h2 (fun hc => ?_) (fun hc => ?_)
  · replace h := h.2 hc
    refine r_aload_n x_418_95 rfl ?_
    obtain ⟨hO3, h⟩ := h
    obtain ⟨b4, hb5, h⟩ := h
    refine r_getR x_418_96 rfl (ci := 12) (k := 69) (ns := 0) (by decide +kernel) (by decide) rfl (kz := 69) rfl hO3 hb5 ?_
    refine r_iload_n x_418_99 rfl ?_
    refine r_dup2 x_418_100 rfl rfl ?_
    obtain ⟨n6, hA7, h⟩ := h
    obtain ⟨h8, h⟩ := h
    refine r_iald x_418_101 hA7 hv1 h8.1 h8.2 ?_
    refine r_aload_n x_418_102 rfl ?_
    refine r_aload_n x_418_103 rfl ?_
    refine r_iload_n x_418_104 rfl ?_
    refine r_iload x_418_105 rfl ?_
    refine r_invV x_418_107 (z := 404) (ns := 0) (by decide +kernel) (as := [g_n v1, g_n v4]) (r := [.ref a0, g_n (g_i M b4 v1), g_n v1, .ref b4]) rfl rfl rfl hO3 rfl rfl ?_
    refine r_callI h fun r12 M9 hx10 hok11 hr13 h => ?_
    replace h := h hx10 hok11 hr13
    replace hO3 := hO3.up hx10
    replace hA7 := hA7.up hx10
    refine r_invV x_418_110 (z := 227) (ns := 0) (by decide +kernel) (as := [g_n r12]) (r := [g_n (g_i M b4 v1), g_n v1, .ref b4]) rfl rfl rfl hO3 rfl rfl ?_
    refine r_callI h fun r17 M14 hx15 hok16 hr18 h => ?_
    replace h := h hx15 hok16 hr18
    replace hO3 := hO3.up hx15
    replace hA7 := hA7.up hx15
    refine r_isub x_418_113 ?_
    obtain ⟨h19, h⟩ := h
    obtain ⟨h20, h⟩ := h
    refine r_iast x_418_114 hA7 hv1 h20.1 h20.2 h19 ?_
    obtain ⟨M21, hM22⟩ : ∃ Mz, Mz = g_wi M14 b4 v1 ((g_i M b4 v1) - r17) := ⟨_, rfl⟩
    rw [← hM22]
    refine g_Run.ok fun hok23 => ?_
    replace h := h M21 hM22 hok23
    have hx24 := g_extW hM22
    replace hO3 := hO3.up hx24
    replace hA7 := hA7.up hx24
    refine r_aload_n x_418_115 rfl ?_
    obtain ⟨b25, hb26, h⟩ := h
    refine r_getR x_418_116 rfl (ci := 12) (k := 73) (ns := 0) (by decide +kernel) (by decide) rfl (kz := 73) rfl hO3 hb26 ?_
    refine r_aload_n x_418_119 rfl ?_
    obtain ⟨b27, hb28, h⟩ := h
    refine r_getR x_418_120 rfl (ci := 12) (k := 71) (ns := 0) (by decide +kernel) (by decide) rfl (kz := 71) rfl hO3 hb28 ?_
    refine r_sipush x_418_123 (x := 200) rfl ?_
    refine r_iload_n x_418_126 rfl ?_
    refine r_imul x_418_127 ?_
    obtain ⟨h29, h⟩ := h
    refine r_iload x_418_128 rfl ?_
    refine r_iadd x_418_130 ?_
    obtain ⟨h30, h⟩ := h
    obtain ⟨n31, hA32, h⟩ := h
    obtain ⟨h33, h⟩ := h
    refine r_iald x_418_131 hA32 h30 h33.1 h33.2 ?_
    refine r_iconst x_418_132 ?_
    obtain ⟨n34, hA35, h⟩ := h
    obtain ⟨h36, h⟩ := h
    refine r_bast2 x_418_133 hA35 (hok23.1 _ _) h36.1 h36.2 (Or.inl rfl) ?_
    obtain ⟨M37, hM38⟩ : ∃ Mz, Mz = g_wi M21 b25 (g_i M21 b27 ((200 * v1) + v4)) 0 := ⟨_, rfl⟩
    rw [← hM38]
    refine g_Run.ok fun hok39 => ?_
    replace h := h M37 hM38 hok39
    have hx40 := g_extW hM38
    replace hO3 := hO3.up hx40
    replace hA7 := hA7.up hx40
    replace hA32 := hA32.up hx40
    replace hA35 := hA35.up hx40
    obtain ⟨h41, h⟩ := h
    refine r_iinc x_418_134 (by decide +kernel) rfl rfl (lv1 := [(0, .ref a0), (1, g_n v1), (2, g_n v2), (3, g_n v3), (4, g_n (v4 + 1)), (5, g_n v5)]) rfl ?_
    refine r_goto x_418_137 (t := 13) (by decide +kernel) ?_
    refine g_drop [0, 1, 2, 3, 4] (lv1 := [(0, .ref a0), (1, g_n v1), (2, g_n v2), (3, g_n v3), (4, g_n (v4 + 1))]) rfl ?_
    exact h
  · replace h := h.1 hc
    refine r_aload_n x_418_52 rfl ?_
    obtain ⟨hO42, h⟩ := h
    obtain ⟨b43, hb44, h⟩ := h
    refine r_getR x_418_53 rfl (ci := 12) (k := 35) (ns := 0) (by decide +kernel) (by decide) rfl (kz := 35) rfl hO42 hb44 ?_
    refine r_iload x_418_56 rfl ?_
    obtain ⟨n45, hA46, h⟩ := h
    obtain ⟨h47, h⟩ := h
    refine r_bald x_418_58 (Or.inr rfl) hA46 hv5 h47.1 h47.2 ?_
    refine r_if_eq x_418_59 (t := 89) (by decide +kernel) (hok.1 _ _) (fun hc => ?_) (fun hc => ?_)
    · replace h := h.1 hc
      obtain ⟨h48, h⟩ := h
      refine r_iinc x_418_89 (by decide +kernel) rfl rfl (lv1 := [(0, .ref a0), (1, g_n v1), (2, g_n v2), (3, g_n v3), (4, g_n v4), (5, g_n (v5 + 1))]) rfl ?_
      refine r_goto x_418_92 (t := 42) (by decide +kernel) ?_
      exact h
    · replace h := h.2 hc
      refine r_aload_n x_418_62 rfl ?_
      refine r_iload x_418_63 rfl ?_
      refine r_aload_n x_418_65 rfl ?_
      refine r_iload_n x_418_66 rfl ?_
      refine r_iload x_418_67 rfl ?_
      refine r_invV x_418_69 (z := 404) (ns := 0) (by decide +kernel) (as := [g_n v1, g_n v4]) (r := [g_n v5, .ref a0]) rfl rfl rfl hO42 rfl rfl ?_
      refine r_callI h fun r52 M49 hx50 hok51 hr53 h => ?_
      replace h := h hx50 hok51 hr53
      replace hO42 := hO42.up hx50
      replace hA46 := hA46.up hx50
      refine r_aload_n x_418_72 rfl ?_
      obtain ⟨b54, hb55, h⟩ := h
      refine r_getR x_418_73 rfl (ci := 12) (k := 72) (ns := 0) (by decide +kernel) (by decide) rfl (kz := 72) rfl hO42 hb55 ?_
      refine r_sipush x_418_76 (x := 200) rfl ?_
      refine r_iload_n x_418_79 rfl ?_
      refine r_imul x_418_80 ?_
      obtain ⟨h56, h⟩ := h
      refine r_iload x_418_81 rfl ?_
      refine r_iadd x_418_83 ?_
      obtain ⟨h57, h⟩ := h
      obtain ⟨n58, hA59, h⟩ := h
      obtain ⟨h60, h⟩ := h
      refine r_iald x_418_84 hA59 h57 h60.1 h60.2 ?_
      refine r_iconst x_418_85 ?_
      refine r_invV x_418_86 (z := 384) (ns := 0) (by decide +kernel) (as := [g_n v5, g_n r52, g_n (g_i M49 b54 ((200 * v1) + v4)), g_n 0]) (r := []) rfl rfl rfl hO42 rfl rfl ?_
      refine r_callV h fun M61 hx62 hok63 h => ?_
      replace h := h hx62 hok63
      replace hO42 := hO42.up hx62
      replace hA46 := hA46.up hx62
      replace hA59 := hA59.up hx62
      obtain ⟨h64, h⟩ := h
      refine r_iinc x_418_89 (by decide +kernel) rfl rfl (lv1 := [(0, .ref a0), (1, g_n v1), (2, g_n v2), (3, g_n v3), (4, g_n v4), (5, g_n (v5 + 1))]) rfl ?_
      refine r_goto x_418_92 (t := 42) (by decide +kernel) ?_
      exact h
theorem s_X12_takeOut_146 {d : Nat} {M : g_M} {Q : g_M → Prop} {a0 : Nat} {v1 : Int} (hv1 : g_InR v1) {v2 : Int} (hv2 : g_InR v2) {v3 : Int} (hv3 : g_InR v3) {v4 : Int} (hv4 : g_InR v4) {v5 : Int} (hv5 : g_InR v5) (h : g_ok M → g_O M a0 12 ∧ ∃ b2, g_r M a0 68 = some b2 ∧ ∃ n4, g_A M b2 1 n4 ∧ ((0 : Int) ≤ v1 ∧ (v1 : Int) < n4) ∧ ((v5 < g_i M b2 v1 → ∃ b28, g_r M a0 74 = some b28 ∧ ∃ n30, g_A M b28 2 n30 ∧ ((0 : Int) ≤ v5 ∧ (v5 : Int) < n30) ∧ ((g_i M b28 v5 = 0 → ∃ b33, g_r M a0 71 = some b33 ∧ g_InR (200 * v1) ∧ g_InR ((200 * v1) + v4) ∧ ∃ b37, g_r M a0 71 = some b37 ∧ g_InR (200 * v1) ∧ g_InR ((200 * v1) + v5) ∧ ∃ n41, g_A M b37 1 n41 ∧ ((0 : Int) ≤ (200 * v1) + v5 ∧ ((200 * v1) + v5 : Int) < n41) ∧ ∃ n44, g_A M b33 1 n44 ∧ ((0 : Int) ≤ (200 * v1) + v4 ∧ ((200 * v1) + v4 : Int) < n44) ∧ (∀ M47, M47 = g_wi M b33 ((200 * v1) + v4) (g_i M b37 ((200 * v1) + v5)) → g_ok M47 → ∃ b51, g_r M47 a0 72 = some b51 ∧ g_InR (200 * v1) ∧ g_InR ((200 * v1) + v4) ∧ ∃ b55, g_r M47 a0 72 = some b55 ∧ g_InR (200 * v1) ∧ g_InR ((200 * v1) + v5) ∧ ∃ n59, g_A M47 b55 1 n59 ∧ ((0 : Int) ≤ (200 * v1) + v5 ∧ ((200 * v1) + v5 : Int) < n59) ∧ ∃ n62, g_A M47 b51 1 n62 ∧ ((0 : Int) ≤ (200 * v1) + v4 ∧ ((200 * v1) + v4 : Int) < n62) ∧ (∀ M65, M65 = g_wi M47 b51 ((200 * v1) + v4) (g_i M47 b55 ((200 * v1) + v5)) → g_ok M65 → g_InR (v4 + 1) ∧ g_InR (v5 + 1) ∧ g_Run d 418 146 [(0, .ref a0), (1, g_n v1), (2, g_n v2), (3, g_n v3), (4, g_n (v4 + 1)), (5, g_n (v5 + 1))] [] M65 (g_qV Q)))) ∧ (¬ g_i M b28 v5 = 0 → g_InR (v5 + 1) ∧ g_Run d 418 146 [(0, .ref a0), (1, g_n v1), (2, g_n v2), (3, g_n v3), (4, g_n v4), (5, g_n (v5 + 1))] [] M (g_qV Q)))) ∧ (¬ v5 < g_i M b2 v1 → ∃ b7, g_r M a0 68 = some b7 ∧ ∃ n9, g_A M b7 1 n9 ∧ ((0 : Int) ≤ v1 ∧ (v1 : Int) < n9) ∧ (∀ M12, M12 = g_wi M b7 v1 v4 → g_ok M12 → (∀ M16, M16 = g_wi M12 a0 4 v2 → g_ok M16 → (∀ M20, M20 = g_wi M16 a0 5 v3 → g_ok M20 → (∀ M24, M24 = g_wi M20 a0 6 0 → g_ok M24 → Q M24))))))) : g_Run d 418 146 [(0, .ref a0), (1, g_n v1), (2, g_n v2), (3, g_n v3), (4, g_n v4), (5, g_n v5)] [] M (g_qV Q) := by
  refine g_Run.ok fun hok => ?_
  replace h := h hok
  refine r_iload x_418_146 rfl ?_
  refine r_aload_n x_418_148 rfl ?_
  obtain ⟨hO1, h⟩ := h
  obtain ⟨b2, hb3, h⟩ := h
  refine r_getR x_418_149 rfl (ci := 12) (k := 68) (ns := 0) (by decide +kernel) (by decide) rfl (kz := 68) rfl hO1 hb3 ?_
  refine r_iload_n x_418_152 rfl ?_
  obtain ⟨n4, hA5, h⟩ := h
  obtain ⟨h6, h⟩ := h
  refine r_iald x_418_153 hA5 hv1 h6.1 h6.2 ?_
  refine r_ic_ge x_418_154 (t := 231) (by decide +kernel) hv5 (hok.1 _ _) (fun hc => ?_) (fun hc => ?_)
  · replace h := h.2 hc
    refine r_aload_n x_418_231 rfl ?_
    obtain ⟨b7, hb8, h⟩ := h
    refine r_getR x_418_232 rfl (ci := 12) (k := 68) (ns := 0) (by decide +kernel) (by decide) rfl (kz := 68) rfl hO1 hb8 ?_
    refine r_iload_n x_418_235 rfl ?_
    refine r_iload x_418_236 rfl ?_
    obtain ⟨n9, hA10, h⟩ := h
    obtain ⟨h11, h⟩ := h
    refine r_iast x_418_238 hA10 hv1 h11.1 h11.2 hv4 ?_
    obtain ⟨M12, hM13⟩ : ∃ Mz, Mz = g_wi M b7 v1 v4 := ⟨_, rfl⟩
    rw [← hM13]
    refine g_Run.ok fun hok14 => ?_
    replace h := h M12 hM13 hok14
    have hx15 := g_extW hM13
    replace hO1 := hO1.up hx15
    replace hA5 := hA5.up hx15
    replace hA10 := hA10.up hx15
    refine r_aload_n x_418_239 rfl ?_
    refine r_iload_n x_418_240 rfl ?_
    refine r_putI x_418_241 (ci := 12) (k := 4) (ns := 0) (by decide +kernel) (by decide) (g_f0 (by decide +kernel)) rfl hv2 trivial (kz := 4) rfl hO1 ?_
    obtain ⟨M16, hM17⟩ : ∃ Mz, Mz = g_wi M12 a0 4 v2 := ⟨_, rfl⟩
    rw [← hM17]
    refine g_Run.ok fun hok18 => ?_
    replace h := h M16 hM17 hok18
    have hx19 := g_extW hM17
    replace hO1 := hO1.up hx19
    replace hA5 := hA5.up hx19
    replace hA10 := hA10.up hx19
    refine r_aload_n x_418_244 rfl ?_
    refine r_iload_n x_418_245 rfl ?_
    refine r_putI x_418_246 (ci := 12) (k := 5) (ns := 0) (by decide +kernel) (by decide) (g_f0 (by decide +kernel)) rfl hv3 trivial (kz := 5) rfl hO1 ?_
    obtain ⟨M20, hM21⟩ : ∃ Mz, Mz = g_wi M16 a0 5 v3 := ⟨_, rfl⟩
    rw [← hM21]
    refine g_Run.ok fun hok22 => ?_
    replace h := h M20 hM21 hok22
    have hx23 := g_extW hM21
    replace hO1 := hO1.up hx23
    replace hA5 := hA5.up hx23
    replace hA10 := hA10.up hx23
    refine r_aload_n x_418_249 rfl ?_
    refine r_iconst x_418_250 ?_
    refine r_putI x_418_251 (ci := 12) (k := 6) (ns := 0) (by decide +kernel) (by decide) (g_fZ (Or.inl rfl) (by decide +kernel)) rfl (g_Rk rfl) (g_zx (Or.inl rfl) rfl).2 (kz := 6) rfl hO1 ?_
    obtain ⟨M24, hM25⟩ : ∃ Mz, Mz = g_wi M20 a0 6 0 := ⟨_, rfl⟩
    rw [← hM25]
    refine g_Run.ok fun hok26 => ?_
    replace h := h M24 hM25 hok26
    have hx27 := g_extW hM25
    replace hO1 := hO1.up hx27
    replace hA5 := hA5.up hx27
    replace hA10 := hA10.up hx27
    exact r_retV x_418_254 rfl h
  · replace h := h.1 hc
    refine r_aload_n x_418_157 rfl ?_
    obtain ⟨b28, hb29, h⟩ := h
    refine r_getR x_418_158 rfl (ci := 12) (k := 74) (ns := 0) (by decide +kernel) (by decide) rfl (kz := 74) rfl hO1 hb29 ?_
    refine r_iload x_418_161 rfl ?_
    obtain ⟨n30, hA31, h⟩ := h
    obtain ⟨h32, h⟩ := h
    refine r_bald x_418_163 (Or.inr rfl) hA31 hv5 h32.1 h32.2 ?_
    refine r_if_eq x_418_164 (t := 170) (by decide +kernel) (hok.1 _ _) (fun hc => ?_) (fun hc => ?_)
    · replace h := h.1 hc
      refine r_aload_n x_418_170 rfl ?_
      obtain ⟨b33, hb34, h⟩ := h
      refine r_getR x_418_171 rfl (ci := 12) (k := 71) (ns := 0) (by decide +kernel) (by decide) rfl (kz := 71) rfl hO1 hb34 ?_
      refine r_sipush x_418_174 (x := 200) rfl ?_
      refine r_iload_n x_418_177 rfl ?_
      refine r_imul x_418_178 ?_
      obtain ⟨h35, h⟩ := h
      refine r_iload x_418_179 rfl ?_
      refine r_iadd x_418_181 ?_
      obtain ⟨h36, h⟩ := h
      refine r_aload_n x_418_182 rfl ?_
      obtain ⟨b37, hb38, h⟩ := h
      refine r_getR x_418_183 rfl (ci := 12) (k := 71) (ns := 0) (by decide +kernel) (by decide) rfl (kz := 71) rfl hO1 hb38 ?_
      refine r_sipush x_418_186 (x := 200) rfl ?_
      refine r_iload_n x_418_189 rfl ?_
      refine r_imul x_418_190 ?_
      obtain ⟨h39, h⟩ := h
      refine r_iload x_418_191 rfl ?_
      refine r_iadd x_418_193 ?_
      obtain ⟨h40, h⟩ := h
      obtain ⟨n41, hA42, h⟩ := h
      obtain ⟨h43, h⟩ := h
      refine r_iald x_418_194 hA42 h40 h43.1 h43.2 ?_
      obtain ⟨n44, hA45, h⟩ := h
      obtain ⟨h46, h⟩ := h
      refine r_iast x_418_195 hA45 h36 h46.1 h46.2 (hok.1 _ _) ?_
      obtain ⟨M47, hM48⟩ : ∃ Mz, Mz = g_wi M b33 ((200 * v1) + v4) (g_i M b37 ((200 * v1) + v5)) := ⟨_, rfl⟩
      rw [← hM48]
      refine g_Run.ok fun hok49 => ?_
      replace h := h M47 hM48 hok49
      have hx50 := g_extW hM48
      replace hO1 := hO1.up hx50
      replace hA5 := hA5.up hx50
      replace hA31 := hA31.up hx50
      replace hA42 := hA42.up hx50
      replace hA45 := hA45.up hx50
      refine r_aload_n x_418_196 rfl ?_
      obtain ⟨b51, hb52, h⟩ := h
      refine r_getR x_418_197 rfl (ci := 12) (k := 72) (ns := 0) (by decide +kernel) (by decide) rfl (kz := 72) rfl hO1 hb52 ?_
      refine r_sipush x_418_200 (x := 200) rfl ?_
      refine r_iload_n x_418_203 rfl ?_
      refine r_imul x_418_204 ?_
      obtain ⟨h53, h⟩ := h
      refine r_iload x_418_205 rfl ?_
      refine r_iadd x_418_207 ?_
      obtain ⟨h54, h⟩ := h
      refine r_aload_n x_418_208 rfl ?_
      obtain ⟨b55, hb56, h⟩ := h
      refine r_getR x_418_209 rfl (ci := 12) (k := 72) (ns := 0) (by decide +kernel) (by decide) rfl (kz := 72) rfl hO1 hb56 ?_
      refine r_sipush x_418_212 (x := 200) rfl ?_
      refine r_iload_n x_418_215 rfl ?_
      refine r_imul x_418_216 ?_
      obtain ⟨h57, h⟩ := h
      refine r_iload x_418_217 rfl ?_
      refine r_iadd x_418_219 ?_
      obtain ⟨h58, h⟩ := h
      obtain ⟨n59, hA60, h⟩ := h
      obtain ⟨h61, h⟩ := h
      refine r_iald x_418_220 hA60 h58 h61.1 h61.2 ?_
      obtain ⟨n62, hA63, h⟩ := h
      obtain ⟨h64, h⟩ := h
      refine r_iast x_418_221 hA63 h54 h64.1 h64.2 (hok49.1 _ _) ?_
      obtain ⟨M65, hM66⟩ : ∃ Mz, Mz = g_wi M47 b51 ((200 * v1) + v4) (g_i M47 b55 ((200 * v1) + v5)) := ⟨_, rfl⟩
      rw [← hM66]
      refine g_Run.ok fun hok67 => ?_
      replace h := h M65 hM66 hok67
      have hx68 := g_extW hM66
      replace hO1 := hO1.up hx68
      replace hA5 := hA5.up hx68
      replace hA31 := hA31.up hx68
      replace hA42 := hA42.up hx68
      replace hA45 := hA45.up hx68
      replace hA60 := hA60.up hx68
      replace hA63 := hA63.up hx68
      obtain ⟨h69, h⟩ := h
      refine r_iinc x_418_222 (by decide +kernel) rfl rfl (lv1 := [(0, .ref a0), (1, g_n v1), (2, g_n v2), (3, g_n v3), (4, g_n (v4 + 1)), (5, g_n v5)]) rfl ?_
      obtain ⟨h70, h⟩ := h
      refine r_iinc x_418_225 (by decide +kernel) rfl rfl (lv1 := [(0, .ref a0), (1, g_n v1), (2, g_n v2), (3, g_n v3), (4, g_n (v4 + 1)), (5, g_n (v5 + 1))]) rfl ?_
      refine r_goto x_418_228 (t := 146) (by decide +kernel) ?_
      exact h
    · replace h := h.2 hc
      refine r_goto x_418_167 (t := 225) (by decide +kernel) ?_
      obtain ⟨h71, h⟩ := h
      refine r_iinc x_418_225 (by decide +kernel) rfl rfl (lv1 := [(0, .ref a0), (1, g_n v1), (2, g_n v2), (3, g_n v3), (4, g_n v4), (5, g_n (v5 + 1))]) rfl ?_
      refine r_goto x_418_228 (t := 146) (by decide +kernel) ?_
      exact h
theorem m_X12_insert {d : Nat} {M : g_M} {Q : Int → g_M → Prop} {a0 : Nat} {v1 : Int} (hv1 : g_InR v1) {v2 : Int} (hv2 : g_InR v2) (h : g_ok M → g_O M a0 12 ∧ g_Call d 227 [.ref a0, g_n v1] M (g_qI fun r5 M2 => g_ext M M2 → g_ok M2 → g_InR r5 → ∃ b7, g_r M2 a0 68 = some b7 ∧ ∃ n9, g_A M2 b7 1 n9 ∧ ((0 : Int) ≤ v2 ∧ (v2 : Int) < n9) ∧ ((g_i M2 b7 v2 < 200 → ∃ b12, g_r M2 a0 69 = some b12 ∧ ∃ n14, g_A M2 b12 1 n14 ∧ ((0 : Int) ≤ v2 ∧ (v2 : Int) < n14) ∧ g_InR ((g_i M2 b12 v2) + r5) ∧ ((40000 < (g_i M2 b12 v2) + r5 → g_Run d 419 37 [(0, .ref a0), (1, g_n v1), (2, g_n v2), (3, g_n r5)] [g_n 0] M2 (g_qI Q)) ∧ (¬ 40000 < (g_i M2 b12 v2) + r5 → g_Run d 419 37 [(0, .ref a0), (1, g_n v1), (2, g_n v2), (3, g_n r5)] [g_n 1] M2 (g_qI Q)))) ∧ (¬ g_i M2 b7 v2 < 200 → g_Run d 419 37 [(0, .ref a0), (1, g_n v1), (2, g_n v2), (3, g_n r5)] [g_n 0] M2 (g_qI Q))))) : g_Call (d + 1) 419 [.ref a0, g_n v1, g_n v2] M (g_qI Q) := by
  refine g_Call.ok fun hok0 => ?_
  replace h := h hok0
  refine r_body rfl (lv := [(0, .ref a0), (1, g_n v1), (2, g_n v2)]) rfl ?_
  refine g_Run.ok fun hok => ?_
  refine r_aload_n x_419_0 rfl ?_
  refine r_iload_n x_419_1 rfl ?_
  obtain ⟨hO1, h⟩ := h
  refine r_invV x_419_2 (z := 227) (ns := 0) (by decide +kernel) (as := [g_n v1]) (r := []) rfl rfl rfl hO1 rfl rfl ?_
  refine r_callI h fun r5 M2 hx3 hok4 hr6 h => ?_
  replace h := h hx3 hok4 hr6
  replace hO1 := hO1.up hx3
  refine r_istore_n x_419_5 (by decide +kernel) rfl (lv1 := [(0, .ref a0), (1, g_n v1), (2, g_n v2), (3, g_n r5)]) rfl ?_
  refine r_aload_n x_419_6 rfl ?_
  obtain ⟨b7, hb8, h⟩ := h
  refine r_getR x_419_7 rfl (ci := 12) (k := 68) (ns := 0) (by decide +kernel) (by decide) rfl (kz := 68) rfl hO1 hb8 ?_
  refine r_iload_n x_419_10 rfl ?_
  obtain ⟨n9, hA10, h⟩ := h
  obtain ⟨h11, h⟩ := h
  refine r_iald x_419_11 hA10 hv2 h11.1 h11.2 ?_
  refine r_sipush x_419_12 (x := 200) rfl ?_
  refine r_ic_ge x_419_15 (t := 36) (by decide +kernel) (hok4.1 _ _) (g_Rk rfl) (fun hc => ?_) (fun hc => ?_)
  · replace h := h.2 hc
    refine r_iconst x_419_36 ?_
    exact h
  · replace h := h.1 hc
    refine r_aload_n x_419_18 rfl ?_
    obtain ⟨b12, hb13, h⟩ := h
    refine r_getR x_419_19 rfl (ci := 12) (k := 69) (ns := 0) (by decide +kernel) (by decide) rfl (kz := 69) rfl hO1 hb13 ?_
    refine r_iload_n x_419_22 rfl ?_
    obtain ⟨n14, hA15, h⟩ := h
    obtain ⟨h16, h⟩ := h
    refine r_iald x_419_23 hA15 hv2 h16.1 h16.2 ?_
    refine r_iload_n x_419_24 rfl ?_
    refine r_iadd x_419_25 ?_
    obtain ⟨h17, h⟩ := h
    refine r_ldcw x_419_26 (v := g_n 40000) rfl ?_
    refine r_ic_gt x_419_29 (t := 36) (by decide +kernel) h17 (g_Rk rfl) (fun hc => ?_) (fun hc => ?_)
    · replace h := h.1 hc
      refine r_iconst x_419_36 ?_
      exact h
    · replace h := h.2 hc
      refine r_iconst x_419_32 ?_
      refine r_goto x_419_33 (t := 37) (by decide +kernel) ?_
      exact h
theorem s_X12_insert_37 {d : Nat} {M : g_M} {Q : Int → g_M → Prop} {a0 : Nat} {v1 : Int} (hv1 : g_InR v1) {v2 : Int} (hv2 : g_InR v2) {v3 : Int} (hv3 : g_InR v3) {w0 : Int} (hw0 : g_InR w0) (h : g_ok M → g_O M a0 12 ∧ (∀ M2, M2 = g_wi M a0 40 0 → g_ok M2 → g_InR (4 * v2) ∧ g_Run d 419 55 [(0, .ref a0), (1, g_n v1), (2, g_n v2), (3, g_n v3), (4, g_n w0), (5, g_n (g_i M a0 10)), (6, g_n (4 * v2))] [] M2 (g_qI Q))) : g_Run d 419 37 [(0, .ref a0), (1, g_n v1), (2, g_n v2), (3, g_n v3)] [g_n w0] M (g_qI Q) := by
  refine g_Run.ok fun hok => ?_
  replace h := h hok
  refine r_istore x_419_37 (by decide +kernel) rfl (lv1 := [(0, .ref a0), (1, g_n v1), (2, g_n v2), (3, g_n v3), (4, g_n w0)]) rfl ?_
  refine r_aload_n x_419_39 rfl ?_
  obtain ⟨hO1, h⟩ := h
  refine r_getI x_419_40 rfl (ci := 12) (k := 10) (ns := 0) (by decide +kernel) (by decide) rfl (kz := 10) rfl hO1 ?_
  refine r_istore x_419_43 (by decide +kernel) rfl (lv1 := [(0, .ref a0), (1, g_n v1), (2, g_n v2), (3, g_n v3), (4, g_n w0), (5, g_n (g_i M a0 10))]) rfl ?_
  refine r_aload_n x_419_45 rfl ?_
  refine r_iconst x_419_46 ?_
  refine r_putI x_419_47 (ci := 12) (k := 40) (ns := 0) (by decide +kernel) (by decide) (g_fZ (Or.inl rfl) (by decide +kernel)) rfl (g_Rk rfl) (g_zx (Or.inl rfl) rfl).2 (kz := 40) rfl hO1 ?_
  obtain ⟨M2, hM3⟩ : ∃ Mz, Mz = g_wi M a0 40 0 := ⟨_, rfl⟩
  rw [← hM3]
  refine g_Run.ok fun hok4 => ?_
  replace h := h M2 hM3 hok4
  have hx5 := g_extW hM3
  replace hO1 := hO1.up hx5
  refine r_iconst x_419_50 ?_
  refine r_iload_n x_419_51 rfl ?_
  refine r_imul x_419_52 ?_
  obtain ⟨h6, h⟩ := h
  refine r_istore x_419_53 (by decide +kernel) rfl (lv1 := [(0, .ref a0), (1, g_n v1), (2, g_n v2), (3, g_n v3), (4, g_n w0), (5, g_n (g_i M a0 10)), (6, g_n (4 * v2))]) rfl ?_
  exact h
theorem s_X12_insert_55 {d : Nat} {M : g_M} {Q : Int → g_M → Prop} {a0 : Nat} {v1 : Int} (hv1 : g_InR v1) {v2 : Int} (hv2 : g_InR v2) {v3 : Int} (hv3 : g_InR v3) {v4 : Int} (hv4 : g_InR v4) {v5 : Int} (hv5 : g_InR v5) {v6 : Int} (hv6 : g_InR v6) (h : g_ok M → g_InR (4 * v2) ∧ g_InR ((4 * v2) + 4) ∧ ((v6 < (4 * v2) + 4 → g_O M a0 12 ∧ ∃ b22, g_r M a0 35 = some b22 ∧ ∃ n24, g_A M b22 2 n24 ∧ ((0 : Int) ≤ v6 ∧ (v6 : Int) < n24) ∧ ((g_i M b22 v6 = 0 → g_InR (v6 + 1) ∧ g_Run d 419 55 [(0, .ref a0), (1, g_n v1), (2, g_n v2), (3, g_n v3), (4, g_n v4), (5, g_n v5), (6, g_n (v6 + 1))] [] M (g_qI Q)) ∧ (¬ g_i M b22 v6 = 0 → ∃ b27, g_r M a0 54 = some b27 ∧ ∃ n29, g_A M b27 1 n29 ∧ ((0 : Int) ≤ v6 ∧ (v6 : Int) < n29) ∧ g_Call d 361 [.ref a0, g_n v6, g_n v1] M (g_qI fun r35 M32 => g_ext M M32 → g_ok M32 → g_InR r35 → g_InR ((g_i M b27 v6) + r35) ∧ ((1000 < (g_i M b27 v6) + r35 → (∀ M38, M38 = g_wi M32 a0 10 v5 → g_ok M38 → g_InR (v6 + 1) ∧ g_Run d 419 55 [(0, .ref a0), (1, g_n v1), (2, g_n v2), (3, g_n v3), (4, g_n (g_and v4 0)), (5, g_n v5), (6, g_n (v6 + 1))] [] M38 (g_qI Q))) ∧ (¬ 1000 < (g_i M b27 v6) + r35 → (∀ M43, M43 = g_wi M32 a0 10 v5 → g_ok M43 → g_InR (v6 + 1) ∧ g_Run d 419 55 [(0, .ref a0), (1, g_n v1), (2, g_n v2), (3, g_n v3), (4, g_n (g_and v4 1)), (5, g_n v5), (6, g_n (v6 + 1))] [] M43 (g_qI Q)))))))) ∧ (¬ v6 < (4 * v2) + 4 → ((v4 = 0 → g_O M a0 12 ∧ g_Call d 405 [.ref a0, g_n 40, g_n ((-1))] M (g_qI fun r7 M4 => g_ext M M4 → g_ok M4 → g_InR r7 → (r7 = 0 ∨ r7 = 1) ∧ Q r7 M4)) ∧ (¬ v4 = 0 → g_O M a0 12 ∧ ((g_i M a0 40 = 0 → ∃ b10, g_r M a0 68 = some b10 ∧ ∃ n12, g_A M b10 1 n12 ∧ ((0 : Int) ≤ v2 ∧ (v2 : Int) < n12) ∧ g_InR (200 * v2) ∧ g_Run d 419 156 [(0, .ref a0), (1, g_n v1), (2, g_n v2), (3, g_n v3), (4, g_n v4), (5, g_n v5), (6, g_n (g_i M b10 v2)), (7, g_n (200 * v2))] [] M (g_qI Q)) ∧ (¬ g_i M a0 40 = 0 → g_Call d 405 [.ref a0, g_n 40, g_n ((-1))] M (g_qI fun r19 M16 => g_ext M M16 → g_ok M16 → g_InR r19 → (r19 = 0 ∨ r19 = 1) ∧ Q r19 M16)))))))) : g_Run d 419 55 [(0, .ref a0), (1, g_n v1), (2, g_n v2), (3, g_n v3), (4, g_n v4), (5, g_n v5), (6, g_n v6)] [] M (g_qI Q) := by
  refine g_Run.ok fun hok => ?_
  replace h := h hok
  refine r_iload x_419_55 rfl ?_
  refine r_iconst x_419_57 ?_
  refine r_iload_n x_419_58 rfl ?_
  refine r_imul x_419_59 ?_
  obtain ⟨h1, h⟩ := h
  refine r_iconst x_419_60 ?_
  refine r_iadd x_419_61 ?_
  obtain ⟨h2, h⟩ := h
  refine r_ic_ge x_419_62 (t := 121) (by decide +kernel) hv6 h2 (fun hc => ?_) (fun hc => ?_)
  · replace h := h.2 hc
    refine r_iload x_419_121 rfl ?_
    refine r_if_eq x_419_123 (t := 133) (by decide +kernel) hv4 (fun hc => ?_) (fun hc => ?_)
    · replace h := h.1 hc
      refine r_aload_n x_419_133 rfl ?_
      refine r_bipush x_419_134 (x := 40) rfl ?_
      refine r_iconst x_419_136 ?_
      obtain ⟨hO3, h⟩ := h
      refine r_invV x_419_137 (z := 405) (ns := 0) (by decide +kernel) (as := [g_n 40, g_n ((-1))]) (r := []) rfl rfl rfl hO3 rfl rfl ?_
      refine r_callI h fun r7 M4 hx5 hok6 hr8 h => ?_
      replace h := h hx5 hok6 hr8
      replace hO3 := hO3.up hx5
      obtain ⟨hz, h⟩ := h
      exact r_retZ x_419_140 rfl hz h
    · replace h := h.2 hc
      refine r_aload_n x_419_126 rfl ?_
      obtain ⟨hO9, h⟩ := h
      refine r_getI x_419_127 rfl (ci := 12) (k := 40) (ns := 0) (by decide +kernel) (by decide) rfl (kz := 40) rfl hO9 ?_
      refine r_if_eq x_419_130 (t := 141) (by decide +kernel) (hok.1 _ _) (fun hc => ?_) (fun hc => ?_)
      · replace h := h.1 hc
        refine r_aload_n x_419_141 rfl ?_
        obtain ⟨b10, hb11, h⟩ := h
        refine r_getR x_419_142 rfl (ci := 12) (k := 68) (ns := 0) (by decide +kernel) (by decide) rfl (kz := 68) rfl hO9 hb11 ?_
        refine r_iload_n x_419_145 rfl ?_
        obtain ⟨n12, hA13, h⟩ := h
        obtain ⟨h14, h⟩ := h
        refine r_iald x_419_146 hA13 hv2 h14.1 h14.2 ?_
        refine r_istore x_419_147 (by decide +kernel) rfl (lv1 := [(0, .ref a0), (1, g_n v1), (2, g_n v2), (3, g_n v3), (4, g_n v4), (5, g_n v5), (6, g_n (g_i M b10 v2))]) rfl ?_
        refine r_sipush x_419_149 (x := 200) rfl ?_
        refine r_iload_n x_419_152 rfl ?_
        refine r_imul x_419_153 ?_
        obtain ⟨h15, h⟩ := h
        refine r_istore x_419_154 (by decide +kernel) rfl (lv1 := [(0, .ref a0), (1, g_n v1), (2, g_n v2), (3, g_n v3), (4, g_n v4), (5, g_n v5), (6, g_n (g_i M b10 v2)), (7, g_n (200 * v2))]) rfl ?_
        exact h
      · replace h := h.2 hc
        refine r_aload_n x_419_133 rfl ?_
        refine r_bipush x_419_134 (x := 40) rfl ?_
        refine r_iconst x_419_136 ?_
        refine r_invV x_419_137 (z := 405) (ns := 0) (by decide +kernel) (as := [g_n 40, g_n ((-1))]) (r := []) rfl rfl rfl hO9 rfl rfl ?_
        refine r_callI h fun r19 M16 hx17 hok18 hr20 h => ?_
        replace h := h hx17 hok18 hr20
        replace hO9 := hO9.up hx17
        obtain ⟨hz, h⟩ := h
        exact r_retZ x_419_140 rfl hz h
  · replace h := h.1 hc
    refine r_aload_n x_419_65 rfl ?_
    obtain ⟨hO21, h⟩ := h
    obtain ⟨b22, hb23, h⟩ := h
    refine r_getR x_419_66 rfl (ci := 12) (k := 35) (ns := 0) (by decide +kernel) (by decide) rfl (kz := 35) rfl hO21 hb23 ?_
    refine r_iload x_419_69 rfl ?_
    obtain ⟨n24, hA25, h⟩ := h
    obtain ⟨h26, h⟩ := h
    refine r_bald x_419_71 (Or.inr rfl) hA25 hv6 h26.1 h26.2 ?_
    refine r_if_ne x_419_72 (t := 78) (by decide +kernel) (hok.1 _ _) (fun hc => ?_) (fun hc => ?_)
    · replace h := h.2 hc
      refine r_iload x_419_78 rfl ?_
      refine r_aload_n x_419_80 rfl ?_
      obtain ⟨b27, hb28, h⟩ := h
      refine r_getR x_419_81 rfl (ci := 12) (k := 54) (ns := 0) (by decide +kernel) (by decide) rfl (kz := 54) rfl hO21 hb28 ?_
      refine r_iload x_419_84 rfl ?_
      obtain ⟨n29, hA30, h⟩ := h
      obtain ⟨h31, h⟩ := h
      refine r_iald x_419_86 hA30 hv6 h31.1 h31.2 ?_
      refine r_aload_n x_419_87 rfl ?_
      refine r_iload x_419_88 rfl ?_
      refine r_iload_n x_419_90 rfl ?_
      refine r_invV x_419_91 (z := 361) (ns := 0) (by decide +kernel) (as := [g_n v6, g_n v1]) (r := [g_n (g_i M b27 v6), g_n v4]) rfl rfl rfl hO21 rfl rfl ?_
      refine r_callI h fun r35 M32 hx33 hok34 hr36 h => ?_
      replace h := h hx33 hok34 hr36
      replace hO21 := hO21.up hx33
      replace hA25 := hA25.up hx33
      replace hA30 := hA30.up hx33
      refine r_iadd x_419_94 ?_
      obtain ⟨h37, h⟩ := h
      refine r_sipush x_419_95 (x := 1000) rfl ?_
      refine r_ic_gt x_419_98 (t := 105) (by decide +kernel) h37 (g_Rk rfl) (fun hc => ?_) (fun hc => ?_)
      · replace h := h.1 hc
        refine r_iconst x_419_105 ?_
        refine r_iand x_419_106 ?_
        refine r_istore x_419_107 (by decide +kernel) rfl (lv1 := [(0, .ref a0), (1, g_n v1), (2, g_n v2), (3, g_n v3), (4, g_n (g_and v4 0)), (5, g_n v5), (6, g_n v6)]) rfl ?_
        refine r_aload_n x_419_109 rfl ?_
        refine r_iload x_419_110 rfl ?_
        refine r_putI x_419_112 (ci := 12) (k := 10) (ns := 0) (by decide +kernel) (by decide) (g_f0 (by decide +kernel)) rfl hv5 trivial (kz := 10) rfl hO21 ?_
        obtain ⟨M38, hM39⟩ : ∃ Mz, Mz = g_wi M32 a0 10 v5 := ⟨_, rfl⟩
        rw [← hM39]
        refine g_Run.ok fun hok40 => ?_
        replace h := h M38 hM39 hok40
        have hx41 := g_extW hM39
        replace hO21 := hO21.up hx41
        replace hA25 := hA25.up hx41
        replace hA30 := hA30.up hx41
        obtain ⟨h42, h⟩ := h
        refine r_iinc x_419_115 (by decide +kernel) rfl rfl (lv1 := [(0, .ref a0), (1, g_n v1), (2, g_n v2), (3, g_n v3), (4, g_n (g_and v4 0)), (5, g_n v5), (6, g_n (v6 + 1))]) rfl ?_
        refine r_goto x_419_118 (t := 55) (by decide +kernel) ?_
        exact h
      · replace h := h.2 hc
        refine r_iconst x_419_101 ?_
        refine r_goto x_419_102 (t := 106) (by decide +kernel) ?_
        refine r_iand x_419_106 ?_
        refine r_istore x_419_107 (by decide +kernel) rfl (lv1 := [(0, .ref a0), (1, g_n v1), (2, g_n v2), (3, g_n v3), (4, g_n (g_and v4 1)), (5, g_n v5), (6, g_n v6)]) rfl ?_
        refine r_aload_n x_419_109 rfl ?_
        refine r_iload x_419_110 rfl ?_
        refine r_putI x_419_112 (ci := 12) (k := 10) (ns := 0) (by decide +kernel) (by decide) (g_f0 (by decide +kernel)) rfl hv5 trivial (kz := 10) rfl hO21 ?_
        obtain ⟨M43, hM44⟩ : ∃ Mz, Mz = g_wi M32 a0 10 v5 := ⟨_, rfl⟩
        rw [← hM44]
        refine g_Run.ok fun hok45 => ?_
        replace h := h M43 hM44 hok45
        have hx46 := g_extW hM44
        replace hO21 := hO21.up hx46
        replace hA25 := hA25.up hx46
        replace hA30 := hA30.up hx46
        obtain ⟨h47, h⟩ := h
        refine r_iinc x_419_115 (by decide +kernel) rfl rfl (lv1 := [(0, .ref a0), (1, g_n v1), (2, g_n v2), (3, g_n v3), (4, g_n (g_and v4 1)), (5, g_n v5), (6, g_n (v6 + 1))]) rfl ?_
        refine r_goto x_419_118 (t := 55) (by decide +kernel) ?_
        exact h
    · replace h := h.1 hc
      refine r_goto x_419_75 (t := 115) (by decide +kernel) ?_
      obtain ⟨h48, h⟩ := h
      refine r_iinc x_419_115 (by decide +kernel) rfl rfl (lv1 := [(0, .ref a0), (1, g_n v1), (2, g_n v2), (3, g_n v3), (4, g_n v4), (5, g_n v5), (6, g_n (v6 + 1))]) rfl ?_
      refine r_goto x_419_118 (t := 55) (by decide +kernel) ?_
      exact h
theorem s_X12_insert_156 {d : Nat} {M : g_M} {Q : Int → g_M → Prop} {a0 : Nat} {v1 : Int} (hv1 : g_InR v1) {v2 : Int} (hv2 : g_InR v2) {v3 : Int} (hv3 : g_InR v3) {v4 : Int} (hv4 : g_InR v4) {v5 : Int} (hv5 : g_InR v5) {v6 : Int} (hv6 : g_InR v6) {v7 : Int} (hv7 : g_InR v7) (h : g_ok M → g_O M a0 12 ∧ ∃ b2, g_r M a0 73 = some b2 ∧ ∃ n4, g_A M b2 2 n4 ∧ ((0 : Int) ≤ v7 ∧ (v7 : Int) < n4) ∧ ((g_i M b2 v7 = 0 → ∃ b7, g_r M a0 73 = some b7 ∧ ∃ n9, g_A M b7 2 n9 ∧ ((0 : Int) ≤ v7 ∧ (v7 : Int) < n9) ∧ (∀ M12, M12 = g_wi M b7 v7 1 → g_ok M12 → ∃ b16, g_r M12 a0 71 = some b16 ∧ g_InR (200 * v2) ∧ g_InR ((200 * v2) + v6) ∧ ∃ n20, g_A M12 b16 1 n20 ∧ ((0 : Int) ≤ (200 * v2) + v6 ∧ ((200 * v2) + v6 : Int) < n20) ∧ (∀ M23, M23 = g_wi M12 b16 ((200 * v2) + v6) v7 → g_ok M23 → ∃ b27, g_r M23 a0 72 = some b27 ∧ g_InR (200 * v2) ∧ g_InR ((200 * v2) + v6) ∧ ∃ b31, g_r M23 a0 70 = some b31 ∧ ∃ n33, g_A M23 b31 1 n33 ∧ ((0 : Int) ≤ v2 ∧ (v2 : Int) < n33) ∧ ∃ n36, g_A M23 b27 1 n36 ∧ ((0 : Int) ≤ (200 * v2) + v6 ∧ ((200 * v2) + v6 : Int) < n36) ∧ (∀ M39, M39 = g_wi M23 b27 ((200 * v2) + v6) (g_i M23 b31 v2) → g_ok M39 → ∃ b43, g_r M39 a0 70 = some b43 ∧ ∃ n45, g_A M39 b43 1 n45 ∧ ((0 : Int) ≤ v2 ∧ (v2 : Int) < n45) ∧ g_InR ((g_i M39 b43 v2) + 1) ∧ ((0 : Int) ≤ v2 ∧ (v2 : Int) < n45) ∧ (∀ M50, M50 = g_wi M39 b43 v2 ((g_i M39 b43 v2) + 1) → g_ok M50 → ∃ b54, g_r M50 a0 68 = some b54 ∧ ∃ n56, g_A M50 b54 1 n56 ∧ ((0 : Int) ≤ v2 ∧ (v2 : Int) < n56) ∧ g_InR ((g_i M50 b54 v2) + 1) ∧ ((0 : Int) ≤ v2 ∧ (v2 : Int) < n56) ∧ (∀ M61, M61 = g_wi M50 b54 v2 ((g_i M50 b54 v2) + 1) → g_ok M61 → ∃ b65, g_r M61 a0 69 = some b65 ∧ ∃ n67, g_A M61 b65 1 n67 ∧ ((0 : Int) ≤ v2 ∧ (v2 : Int) < n67) ∧ g_InR ((g_i M61 b65 v2) + v3) ∧ ((0 : Int) ≤ v2 ∧ (v2 : Int) < n67) ∧ (∀ M72, M72 = g_wi M61 b65 v2 ((g_i M61 b65 v2) + v3) → g_ok M72 → g_Call d 404 [.ref a0, g_n v2, g_n v6] M72 (g_qI fun r79 M76 => g_ext M72 M76 → g_ok M76 → g_InR r79 → g_Call d 319 [.ref a0, g_n v1, g_n r79, g_n v3] M76 (g_qV fun M81 => g_ext M76 M81 → g_ok M81 → g_InR (4 * v2) ∧ g_Run d 419 262 [(0, .ref a0), (1, g_n v1), (2, g_n v2), (3, g_n v3), (4, g_n v4), (5, g_n v5), (6, g_n v6), (7, g_n v7), (8, g_n (4 * v2))] [] M81 (g_qI Q)))))))))) ∧ (¬ g_i M b2 v7 = 0 → g_InR (v7 + 1) ∧ g_Run d 419 156 [(0, .ref a0), (1, g_n v1), (2, g_n v2), (3, g_n v3), (4, g_n v4), (5, g_n v5), (6, g_n v6), (7, g_n (v7 + 1))] [] M (g_qI Q)))) : g_Run d 419 156 [(0, .ref a0), (1, g_n v1), (2, g_n v2), (3, g_n v3), (4, g_n v4), (5, g_n v5), (6, g_n v6), (7, g_n v7)] [] M (g_qI Q) := by
  refine g_Run.ok fun hok => ?_
  replace h := h hok
  refine r_aload_n x_419_156 rfl ?_
  obtain ⟨hO1, h⟩ := h
  obtain ⟨b2, hb3, h⟩ := h
  refine r_getR x_419_157 rfl (ci := 12) (k := 73) (ns := 0) (by decide +kernel) (by decide) rfl (kz := 73) rfl hO1 hb3 ?_
  refine r_iload x_419_160 rfl ?_
  obtain ⟨n4, hA5, h⟩ := h
  obtain ⟨h6, h⟩ := h
  refine r_bald x_419_162 (Or.inr rfl) hA5 hv7 h6.1 h6.2 ?_
  refine r_if_eq x_419_163 (t := 172) (by decide +kernel) (hok.1 _ _) (fun hc => ?_) (fun hc => ?_)
  · replace h := h.1 hc
    refine r_aload_n x_419_172 rfl ?_
    obtain ⟨b7, hb8, h⟩ := h
    refine r_getR x_419_173 rfl (ci := 12) (k := 73) (ns := 0) (by decide +kernel) (by decide) rfl (kz := 73) rfl hO1 hb8 ?_
    refine r_iload x_419_176 rfl ?_
    refine r_iconst x_419_178 ?_
    obtain ⟨n9, hA10, h⟩ := h
    obtain ⟨h11, h⟩ := h
    refine r_bast2 x_419_179 hA10 hv7 h11.1 h11.2 (Or.inr rfl) ?_
    obtain ⟨M12, hM13⟩ : ∃ Mz, Mz = g_wi M b7 v7 1 := ⟨_, rfl⟩
    rw [← hM13]
    refine g_Run.ok fun hok14 => ?_
    replace h := h M12 hM13 hok14
    have hx15 := g_extW hM13
    replace hO1 := hO1.up hx15
    replace hA5 := hA5.up hx15
    replace hA10 := hA10.up hx15
    refine r_aload_n x_419_180 rfl ?_
    obtain ⟨b16, hb17, h⟩ := h
    refine r_getR x_419_181 rfl (ci := 12) (k := 71) (ns := 0) (by decide +kernel) (by decide) rfl (kz := 71) rfl hO1 hb17 ?_
    refine r_sipush x_419_184 (x := 200) rfl ?_
    refine r_iload_n x_419_187 rfl ?_
    refine r_imul x_419_188 ?_
    obtain ⟨h18, h⟩ := h
    refine r_iload x_419_189 rfl ?_
    refine r_iadd x_419_191 ?_
    obtain ⟨h19, h⟩ := h
    refine r_iload x_419_192 rfl ?_
    obtain ⟨n20, hA21, h⟩ := h
    obtain ⟨h22, h⟩ := h
    refine r_iast x_419_194 hA21 h19 h22.1 h22.2 hv7 ?_
    obtain ⟨M23, hM24⟩ : ∃ Mz, Mz = g_wi M12 b16 ((200 * v2) + v6) v7 := ⟨_, rfl⟩
    rw [← hM24]
    refine g_Run.ok fun hok25 => ?_
    replace h := h M23 hM24 hok25
    have hx26 := g_extW hM24
    replace hO1 := hO1.up hx26
    replace hA5 := hA5.up hx26
    replace hA10 := hA10.up hx26
    replace hA21 := hA21.up hx26
    refine r_aload_n x_419_195 rfl ?_
    obtain ⟨b27, hb28, h⟩ := h
    refine r_getR x_419_196 rfl (ci := 12) (k := 72) (ns := 0) (by decide +kernel) (by decide) rfl (kz := 72) rfl hO1 hb28 ?_
    refine r_sipush x_419_199 (x := 200) rfl ?_
    refine r_iload_n x_419_202 rfl ?_
    refine r_imul x_419_203 ?_
    obtain ⟨h29, h⟩ := h
    refine r_iload x_419_204 rfl ?_
    refine r_iadd x_419_206 ?_
    obtain ⟨h30, h⟩ := h
    refine r_aload_n x_419_207 rfl ?_
    obtain ⟨b31, hb32, h⟩ := h
    refine r_getR x_419_208 rfl (ci := 12) (k := 70) (ns := 0) (by decide +kernel) (by decide) rfl (kz := 70) rfl hO1 hb32 ?_
    refine r_iload_n x_419_211 rfl ?_
    obtain ⟨n33, hA34, h⟩ := h
    obtain ⟨h35, h⟩ := h
    refine r_iald x_419_212 hA34 hv2 h35.1 h35.2 ?_
    obtain ⟨n36, hA37, h⟩ := h
    obtain ⟨h38, h⟩ := h
    refine r_iast x_419_213 hA37 h30 h38.1 h38.2 (hok25.1 _ _) ?_
    obtain ⟨M39, hM40⟩ : ∃ Mz, Mz = g_wi M23 b27 ((200 * v2) + v6) (g_i M23 b31 v2) := ⟨_, rfl⟩
    rw [← hM40]
    refine g_Run.ok fun hok41 => ?_
    replace h := h M39 hM40 hok41
    have hx42 := g_extW hM40
    replace hO1 := hO1.up hx42
    replace hA5 := hA5.up hx42
    replace hA10 := hA10.up hx42
    replace hA21 := hA21.up hx42
    replace hA34 := hA34.up hx42
    replace hA37 := hA37.up hx42
    refine r_aload_n x_419_214 rfl ?_
    obtain ⟨b43, hb44, h⟩ := h
    refine r_getR x_419_215 rfl (ci := 12) (k := 70) (ns := 0) (by decide +kernel) (by decide) rfl (kz := 70) rfl hO1 hb44 ?_
    refine r_iload_n x_419_218 rfl ?_
    refine r_dup2 x_419_219 rfl rfl ?_
    obtain ⟨n45, hA46, h⟩ := h
    obtain ⟨h47, h⟩ := h
    refine r_iald x_419_220 hA46 hv2 h47.1 h47.2 ?_
    refine r_iconst x_419_221 ?_
    refine r_iadd x_419_222 ?_
    obtain ⟨h48, h⟩ := h
    obtain ⟨h49, h⟩ := h
    refine r_iast x_419_223 hA46 hv2 h49.1 h49.2 h48 ?_
    obtain ⟨M50, hM51⟩ : ∃ Mz, Mz = g_wi M39 b43 v2 ((g_i M39 b43 v2) + 1) := ⟨_, rfl⟩
    rw [← hM51]
    refine g_Run.ok fun hok52 => ?_
    replace h := h M50 hM51 hok52
    have hx53 := g_extW hM51
    replace hO1 := hO1.up hx53
    replace hA5 := hA5.up hx53
    replace hA10 := hA10.up hx53
    replace hA21 := hA21.up hx53
    replace hA34 := hA34.up hx53
    replace hA37 := hA37.up hx53
    replace hA46 := hA46.up hx53
    refine r_aload_n x_419_224 rfl ?_
    obtain ⟨b54, hb55, h⟩ := h
    refine r_getR x_419_225 rfl (ci := 12) (k := 68) (ns := 0) (by decide +kernel) (by decide) rfl (kz := 68) rfl hO1 hb55 ?_
    refine r_iload_n x_419_228 rfl ?_
    refine r_dup2 x_419_229 rfl rfl ?_
    obtain ⟨n56, hA57, h⟩ := h
    obtain ⟨h58, h⟩ := h
    refine r_iald x_419_230 hA57 hv2 h58.1 h58.2 ?_
    refine r_iconst x_419_231 ?_
    refine r_iadd x_419_232 ?_
    obtain ⟨h59, h⟩ := h
    obtain ⟨h60, h⟩ := h
    refine r_iast x_419_233 hA57 hv2 h60.1 h60.2 h59 ?_
    obtain ⟨M61, hM62⟩ : ∃ Mz, Mz = g_wi M50 b54 v2 ((g_i M50 b54 v2) + 1) := ⟨_, rfl⟩
    rw [← hM62]
    refine g_Run.ok fun hok63 => ?_
    replace h := h M61 hM62 hok63
    have hx64 := g_extW hM62
    replace hO1 := hO1.up hx64
    replace hA5 := hA5.up hx64
    replace hA10 := hA10.up hx64
    replace hA21 := hA21.up hx64
    replace hA34 := hA34.up hx64
    replace hA37 := hA37.up hx64
    replace hA46 := hA46.up hx64
    replace hA57 := hA57.up hx64
    refine r_aload_n x_419_234 rfl ?_
    obtain ⟨b65, hb66, h⟩ := h
    refine r_getR x_419_235 rfl (ci := 12) (k := 69) (ns := 0) (by decide +kernel) (by decide) rfl (kz := 69) rfl hO1 hb66 ?_
    refine r_iload_n x_419_238 rfl ?_
    refine r_dup2 x_419_239 rfl rfl ?_
    obtain ⟨n67, hA68, h⟩ := h
    obtain ⟨h69, h⟩ := h
    refine r_iald x_419_240 hA68 hv2 h69.1 h69.2 ?_
    refine r_iload_n x_419_241 rfl ?_
    refine r_iadd x_419_242 ?_
    obtain ⟨h70, h⟩ := h
    obtain ⟨h71, h⟩ := h
    refine r_iast x_419_243 hA68 hv2 h71.1 h71.2 h70 ?_
    obtain ⟨M72, hM73⟩ : ∃ Mz, Mz = g_wi M61 b65 v2 ((g_i M61 b65 v2) + v3) := ⟨_, rfl⟩
    rw [← hM73]
    refine g_Run.ok fun hok74 => ?_
    replace h := h M72 hM73 hok74
    have hx75 := g_extW hM73
    replace hO1 := hO1.up hx75
    replace hA5 := hA5.up hx75
    replace hA10 := hA10.up hx75
    replace hA21 := hA21.up hx75
    replace hA34 := hA34.up hx75
    replace hA37 := hA37.up hx75
    replace hA46 := hA46.up hx75
    replace hA57 := hA57.up hx75
    replace hA68 := hA68.up hx75
    refine r_aload_n x_419_244 rfl ?_
    refine r_iload_n x_419_245 rfl ?_
    refine r_aload_n x_419_246 rfl ?_
    refine r_iload_n x_419_247 rfl ?_
    refine r_iload x_419_248 rfl ?_
    refine r_invV x_419_250 (z := 404) (ns := 0) (by decide +kernel) (as := [g_n v2, g_n v6]) (r := [g_n v1, .ref a0]) rfl rfl rfl hO1 rfl rfl ?_
    refine r_callI h fun r79 M76 hx77 hok78 hr80 h => ?_
    replace h := h hx77 hok78 hr80
    replace hO1 := hO1.up hx77
    replace hA5 := hA5.up hx77
    replace hA10 := hA10.up hx77
    replace hA21 := hA21.up hx77
    replace hA34 := hA34.up hx77
    replace hA37 := hA37.up hx77
    replace hA46 := hA46.up hx77
    replace hA57 := hA57.up hx77
    replace hA68 := hA68.up hx77
    refine r_iload_n x_419_253 rfl ?_
    refine r_invV x_419_254 (z := 319) (ns := 0) (by decide +kernel) (as := [g_n v1, g_n r79, g_n v3]) (r := []) rfl rfl rfl hO1 rfl rfl ?_
    refine r_callV h fun M81 hx82 hok83 h => ?_
    replace h := h hx82 hok83
    replace hO1 := hO1.up hx82
    replace hA5 := hA5.up hx82
    replace hA10 := hA10.up hx82
    replace hA21 := hA21.up hx82
    replace hA34 := hA34.up hx82
    replace hA37 := hA37.up hx82
    replace hA46 := hA46.up hx82
    replace hA57 := hA57.up hx82
    replace hA68 := hA68.up hx82
    refine r_iconst x_419_257 ?_
    refine r_iload_n x_419_258 rfl ?_
    refine r_imul x_419_259 ?_
    obtain ⟨h84, h⟩ := h
    refine r_istore x_419_260 (by decide +kernel) rfl (lv1 := [(0, .ref a0), (1, g_n v1), (2, g_n v2), (3, g_n v3), (4, g_n v4), (5, g_n v5), (6, g_n v6), (7, g_n v7), (8, g_n (4 * v2))]) rfl ?_
    exact h
  · replace h := h.2 hc
    obtain ⟨h85, h⟩ := h
    refine r_iinc x_419_166 (by decide +kernel) rfl rfl (lv1 := [(0, .ref a0), (1, g_n v1), (2, g_n v2), (3, g_n v3), (4, g_n v4), (5, g_n v5), (6, g_n v6), (7, g_n (v7 + 1))]) rfl ?_
    refine r_goto x_419_169 (t := 156) (by decide +kernel) ?_
    exact h
theorem s_X12_insert_262 {d : Nat} {M : g_M} {Q : Int → g_M → Prop} {a0 : Nat} {v1 : Int} (hv1 : g_InR v1) {v2 : Int} (hv2 : g_InR v2) {v3 : Int} (hv3 : g_InR v3) {v4 : Int} (hv4 : g_InR v4) {v5 : Int} (hv5 : g_InR v5) {v6 : Int} (hv6 : g_InR v6) {v7 : Int} (hv7 : g_InR v7) {v8 : Int} (hv8 : g_InR v8) (h : g_ok M → g_InR (4 * v2) ∧ g_InR ((4 * v2) + 4) ∧ ((v8 < (4 * v2) + 4 → g_O M a0 12 ∧ ∃ b23, g_r M a0 35 = some b23 ∧ ∃ n25, g_A M b23 2 n25 ∧ ((0 : Int) ≤ v8 ∧ (v8 : Int) < n25) ∧ ((g_i M b23 v8 = 0 → g_InR (v8 + 1) ∧ g_Run d 419 262 [(0, .ref a0), (1, g_n v1), (2, g_n v2), (3, g_n v3), (4, g_n v4), (5, g_n v5), (6, g_n v6), (7, g_n v7), (8, g_n (v8 + 1))] [] M (g_qI Q)) ∧ (¬ g_i M b23 v8 = 0 → g_Call d 362 [.ref a0, g_n v8, g_n v1] M (g_qV fun M28 => g_ext M M28 → g_ok M28 → ∃ b31, g_r M28 a0 72 = some b31 ∧ g_InR (200 * v2) ∧ g_InR ((200 * v2) + v6) ∧ ∃ n35, g_A M28 b31 1 n35 ∧ ((0 : Int) ≤ (200 * v2) + v6 ∧ ((200 * v2) + v6 : Int) < n35) ∧ g_Call d 384 [.ref a0, g_n v8, g_n v1, g_n (g_i M28 b31 ((200 * v2) + v6)), g_n 1] M28 (g_qV fun M38 => g_ext M28 M38 → g_ok M38 → g_InR (v8 + 1) ∧ g_Run d 419 262 [(0, .ref a0), (1, g_n v1), (2, g_n v2), (3, g_n v3), (4, g_n v4), (5, g_n v5), (6, g_n v6), (7, g_n v7), (8, g_n (v8 + 1))] [] M38 (g_qI Q)))))) ∧ (¬ v8 < (4 * v2) + 4 → g_O M a0 12 ∧ g_Call d 414 [.ref a0] M (g_qV fun M4 => g_ext M M4 → g_ok M4 → ∃ b7, g_r M4 a0 72 = some b7 ∧ g_InR (200 * v2) ∧ g_InR ((200 * v2) + v6) ∧ ∃ n11, g_A M4 b7 1 n11 ∧ ((0 : Int) ≤ (200 * v2) + v6 ∧ ((200 * v2) + v6 : Int) < n11) ∧ g_Call d 255 [.ref a0, .ref (4 * 130 + 1), g_n (g_i M4 b7 ((200 * v2) + v6))] M4 (g_qV fun M14 => g_ext M4 M14 → g_ok M14 → g_Call d 415 [.ref a0] M14 (g_qI fun r20 M17 => g_ext M14 M17 → g_ok M17 → g_InR r20 → (r20 = 0 ∨ r20 = 1) ∧ Q r20 M17)))))) : g_Run d 419 262 [(0, .ref a0), (1, g_n v1), (2, g_n v2), (3, g_n v3), (4, g_n v4), (5, g_n v5), (6, g_n v6), (7, g_n v7), (8, g_n v8)] [] M (g_qI Q) := by
  refine g_Run.ok fun hok => ?_
  replace h := h hok
  refine r_iload x_419_262 rfl ?_
  refine r_iconst x_419_264 ?_
  refine r_iload_n x_419_265 rfl ?_
  refine r_imul x_419_266 ?_
  obtain ⟨h1, h⟩ := h
  refine r_iconst x_419_267 ?_
  refine r_iadd x_419_268 ?_
  obtain ⟨h2, h⟩ := h
  refine r_ic_ge x_419_269 (t := 319) (by decide +kernel) hv8 h2 (fun hc => ?_) (fun hc => ?_)
  · replace h := h.2 hc
    refine r_aload_n x_419_319 rfl ?_
    obtain ⟨hO3, h⟩ := h
    refine r_invV x_419_320 (z := 414) (ns := 0) (by decide +kernel) (as := []) (r := []) rfl rfl rfl hO3 rfl rfl ?_
    refine r_callV h fun M4 hx5 hok6 h => ?_
    replace h := h hx5 hok6
    replace hO3 := hO3.up hx5
    refine r_aload_n x_419_323 rfl ?_
    refine r_ldcw x_419_324 (v := .ref (4 * 130 + 1)) rfl ?_
    refine r_aload_n x_419_327 rfl ?_
    obtain ⟨b7, hb8, h⟩ := h
    refine r_getR x_419_328 rfl (ci := 12) (k := 72) (ns := 0) (by decide +kernel) (by decide) rfl (kz := 72) rfl hO3 hb8 ?_
    refine r_sipush x_419_331 (x := 200) rfl ?_
    refine r_iload_n x_419_334 rfl ?_
    refine r_imul x_419_335 ?_
    obtain ⟨h9, h⟩ := h
    refine r_iload x_419_336 rfl ?_
    refine r_iadd x_419_338 ?_
    obtain ⟨h10, h⟩ := h
    obtain ⟨n11, hA12, h⟩ := h
    obtain ⟨h13, h⟩ := h
    refine r_iald x_419_339 hA12 h10 h13.1 h13.2 ?_
    refine r_invV x_419_340 (z := 255) (ns := 0) (by decide +kernel) (as := [.ref (4 * 130 + 1), g_n (g_i M4 b7 ((200 * v2) + v6))]) (r := []) rfl rfl rfl hO3 rfl rfl ?_
    refine r_callV h fun M14 hx15 hok16 h => ?_
    replace h := h hx15 hok16
    replace hO3 := hO3.up hx15
    replace hA12 := hA12.up hx15
    refine r_aload_n x_419_343 rfl ?_
    refine r_invV x_419_344 (z := 415) (ns := 0) (by decide +kernel) (as := []) (r := []) rfl rfl rfl hO3 rfl rfl ?_
    refine r_callI h fun r20 M17 hx18 hok19 hr21 h => ?_
    replace h := h hx18 hok19 hr21
    replace hO3 := hO3.up hx18
    replace hA12 := hA12.up hx18
    obtain ⟨hz, h⟩ := h
    exact r_retZ x_419_347 rfl hz h
  · replace h := h.1 hc
    refine r_aload_n x_419_272 rfl ?_
    obtain ⟨hO22, h⟩ := h
    obtain ⟨b23, hb24, h⟩ := h
    refine r_getR x_419_273 rfl (ci := 12) (k := 35) (ns := 0) (by decide +kernel) (by decide) rfl (kz := 35) rfl hO22 hb24 ?_
    refine r_iload x_419_276 rfl ?_
    obtain ⟨n25, hA26, h⟩ := h
    obtain ⟨h27, h⟩ := h
    refine r_bald x_419_278 (Or.inr rfl) hA26 hv8 h27.1 h27.2 ?_
    refine r_if_ne x_419_279 (t := 285) (by decide +kernel) (hok.1 _ _) (fun hc => ?_) (fun hc => ?_)
    · replace h := h.2 hc
      refine r_aload_n x_419_285 rfl ?_
      refine r_iload x_419_286 rfl ?_
      refine r_iload_n x_419_288 rfl ?_
      refine r_invV x_419_289 (z := 362) (ns := 0) (by decide +kernel) (as := [g_n v8, g_n v1]) (r := []) rfl rfl rfl hO22 rfl rfl ?_
      refine r_callV h fun M28 hx29 hok30 h => ?_
      replace h := h hx29 hok30
      replace hO22 := hO22.up hx29
      replace hA26 := hA26.up hx29
      refine r_aload_n x_419_292 rfl ?_
      refine r_iload x_419_293 rfl ?_
      refine r_iload_n x_419_295 rfl ?_
      refine r_aload_n x_419_296 rfl ?_
      obtain ⟨b31, hb32, h⟩ := h
      refine r_getR x_419_297 rfl (ci := 12) (k := 72) (ns := 0) (by decide +kernel) (by decide) rfl (kz := 72) rfl hO22 hb32 ?_
      refine r_sipush x_419_300 (x := 200) rfl ?_
      refine r_iload_n x_419_303 rfl ?_
      refine r_imul x_419_304 ?_
      obtain ⟨h33, h⟩ := h
      refine r_iload x_419_305 rfl ?_
      refine r_iadd x_419_307 ?_
      obtain ⟨h34, h⟩ := h
      obtain ⟨n35, hA36, h⟩ := h
      obtain ⟨h37, h⟩ := h
      refine r_iald x_419_308 hA36 h34 h37.1 h37.2 ?_
      refine r_iconst x_419_309 ?_
      refine r_invV x_419_310 (z := 384) (ns := 0) (by decide +kernel) (as := [g_n v8, g_n v1, g_n (g_i M28 b31 ((200 * v2) + v6)), g_n 1]) (r := []) rfl rfl rfl hO22 rfl rfl ?_
      refine r_callV h fun M38 hx39 hok40 h => ?_
      replace h := h hx39 hok40
      replace hO22 := hO22.up hx39
      replace hA26 := hA26.up hx39
      replace hA36 := hA36.up hx39
      obtain ⟨h41, h⟩ := h
      refine r_iinc x_419_313 (by decide +kernel) rfl rfl (lv1 := [(0, .ref a0), (1, g_n v1), (2, g_n v2), (3, g_n v3), (4, g_n v4), (5, g_n v5), (6, g_n v6), (7, g_n v7), (8, g_n (v8 + 1))]) rfl ?_
      refine r_goto x_419_316 (t := 262) (by decide +kernel) ?_
      exact h
    · replace h := h.1 hc
      refine r_goto x_419_282 (t := 313) (by decide +kernel) ?_
      obtain ⟨h42, h⟩ := h
      refine r_iinc x_419_313 (by decide +kernel) rfl rfl (lv1 := [(0, .ref a0), (1, g_n v1), (2, g_n v2), (3, g_n v3), (4, g_n v4), (5, g_n v5), (6, g_n v6), (7, g_n v7), (8, g_n (v8 + 1))]) rfl ?_
      refine r_goto x_419_316 (t := 262) (by decide +kernel) ?_
      exact h
theorem m_X12_update {d : Nat} {M : g_M} {Q : Int → g_M → Prop} {a0 : Nat} {v1 : Int} (hv1 : g_InR v1) {v2 : Int} (hv2 : g_InR v2) (h : g_ok M → g_O M a0 12 ∧ g_Call d 241 [.ref a0, g_n 0, g_n 2] M (g_qI fun r5 M2 => g_ext M M2 → g_ok M2 → g_InR r5 → g_Call d 233 [.ref a0, g_n r5] M2 (g_qI fun r10 M7 => g_ext M2 M7 → g_ok M7 → g_InR r10 → g_Call d 305 [.ref a0, g_n r10] M7 (g_qI fun r15 M12 => g_ext M7 M12 → g_ok M12 → g_InR r15 → ((r15 = 0 → g_InR ((g_i M12 a0 7) + 20) ∧ (∀ M33, M33 = g_wi M12 a0 7 ((g_i M12 a0 7) + 20) → g_ok M33 → Q 0 M33)) ∧ (¬ r15 = 0 → g_Call d 413 [.ref a0, g_n v1, g_n v2] M12 (g_qI fun r20 M17 => g_ext M12 M17 → g_ok M17 → g_InR r20 → ∃ b22, g_r M17 a0 69 = some b22 ∧ ∃ n24, g_A M17 b22 1 n24 ∧ ((0 : Int) ≤ v2 ∧ (v2 : Int) < n24) ∧ (∀ M27, M27 = g_wi M17 a0 40 0 → g_ok M27 → g_InR (4 * v2) ∧ g_Run d 420 68 [(0, .ref a0), (1, g_n v1), (2, g_n v2), (3, g_n r5), (4, g_n r10), (5, g_n r20), (6, g_n (g_i M17 b22 v2)), (7, g_n (g_i M17 a0 10)), (8, g_n (4 * v2))] [] M27 (g_qI Q))))))))) : g_Call (d + 1) 420 [.ref a0, g_n v1, g_n v2] M (g_qI Q) := by
  refine g_Call.ok fun hok0 => ?_
  replace h := h hok0
  refine r_body rfl (lv := [(0, .ref a0), (1, g_n v1), (2, g_n v2)]) rfl ?_
  refine g_Run.ok fun hok => ?_
  refine r_aload_n x_420_0 rfl ?_
  refine r_iconst x_420_1 ?_
  refine r_iconst x_420_2 ?_
  obtain ⟨hO1, h⟩ := h
  refine r_invV x_420_3 (z := 241) (ns := 0) (by decide +kernel) (as := [g_n 0, g_n 2]) (r := []) rfl rfl rfl hO1 rfl rfl ?_
  refine r_callI h fun r5 M2 hx3 hok4 hr6 h => ?_
  replace h := h hx3 hok4 hr6
  replace hO1 := hO1.up hx3
  refine r_istore_n x_420_6 (by decide +kernel) rfl (lv1 := [(0, .ref a0), (1, g_n v1), (2, g_n v2), (3, g_n r5)]) rfl ?_
  refine r_aload_n x_420_7 rfl ?_
  refine r_iload_n x_420_8 rfl ?_
  refine r_invV x_420_9 (z := 233) (ns := 0) (by decide +kernel) (as := [g_n r5]) (r := []) rfl rfl rfl hO1 rfl rfl ?_
  refine r_callI h fun r10 M7 hx8 hok9 hr11 h => ?_
  replace h := h hx8 hok9 hr11
  replace hO1 := hO1.up hx8
  refine r_istore x_420_12 (by decide +kernel) rfl (lv1 := [(0, .ref a0), (1, g_n v1), (2, g_n v2), (3, g_n r5), (4, g_n r10)]) rfl ?_
  refine r_aload_n x_420_14 rfl ?_
  refine r_iload x_420_15 rfl ?_
  refine r_invV x_420_17 (z := 305) (ns := 0) (by decide +kernel) (as := [g_n r10]) (r := []) rfl rfl rfl hO1 rfl rfl ?_
  refine r_callI h fun r15 M12 hx13 hok14 hr16 h => ?_
  replace h := h hx13 hok14 hr16
  replace hO1 := hO1.up hx13
  refine r_if_ne x_420_20 (t := 36) (by decide +kernel) hr16 (fun hc => ?_) (fun hc => ?_)
  · replace h := h.2 hc
    refine r_aload_n x_420_36 rfl ?_
    refine r_iload_n x_420_37 rfl ?_
    refine r_iload_n x_420_38 rfl ?_
    refine r_invV x_420_39 (z := 413) (ns := 0) (by decide +kernel) (as := [g_n v1, g_n v2]) (r := []) rfl rfl rfl hO1 rfl rfl ?_
    refine r_callI h fun r20 M17 hx18 hok19 hr21 h => ?_
    replace h := h hx18 hok19 hr21
    replace hO1 := hO1.up hx18
    refine r_istore x_420_42 (by decide +kernel) rfl (lv1 := [(0, .ref a0), (1, g_n v1), (2, g_n v2), (3, g_n r5), (4, g_n r10), (5, g_n r20)]) rfl ?_
    refine r_aload_n x_420_44 rfl ?_
    obtain ⟨b22, hb23, h⟩ := h
    refine r_getR x_420_45 rfl (ci := 12) (k := 69) (ns := 0) (by decide +kernel) (by decide) rfl (kz := 69) rfl hO1 hb23 ?_
    refine r_iload_n x_420_48 rfl ?_
    obtain ⟨n24, hA25, h⟩ := h
    obtain ⟨h26, h⟩ := h
    refine r_iald x_420_49 hA25 hv2 h26.1 h26.2 ?_
    refine r_istore x_420_50 (by decide +kernel) rfl (lv1 := [(0, .ref a0), (1, g_n v1), (2, g_n v2), (3, g_n r5), (4, g_n r10), (5, g_n r20), (6, g_n (g_i M17 b22 v2))]) rfl ?_
    refine r_aload_n x_420_52 rfl ?_
    refine r_getI x_420_53 rfl (ci := 12) (k := 10) (ns := 0) (by decide +kernel) (by decide) rfl (kz := 10) rfl hO1 ?_
    refine r_istore x_420_56 (by decide +kernel) rfl (lv1 := [(0, .ref a0), (1, g_n v1), (2, g_n v2), (3, g_n r5), (4, g_n r10), (5, g_n r20), (6, g_n (g_i M17 b22 v2)), (7, g_n (g_i M17 a0 10))]) rfl ?_
    refine r_aload_n x_420_58 rfl ?_
    refine r_iconst x_420_59 ?_
    refine r_putI x_420_60 (ci := 12) (k := 40) (ns := 0) (by decide +kernel) (by decide) (g_fZ (Or.inl rfl) (by decide +kernel)) rfl (g_Rk rfl) (g_zx (Or.inl rfl) rfl).2 (kz := 40) rfl hO1 ?_
    obtain ⟨M27, hM28⟩ : ∃ Mz, Mz = g_wi M17 a0 40 0 := ⟨_, rfl⟩
    rw [← hM28]
    refine g_Run.ok fun hok29 => ?_
    replace h := h M27 hM28 hok29
    have hx30 := g_extW hM28
    replace hO1 := hO1.up hx30
    replace hA25 := hA25.up hx30
    refine r_iconst x_420_63 ?_
    refine r_iload_n x_420_64 rfl ?_
    refine r_imul x_420_65 ?_
    obtain ⟨h31, h⟩ := h
    refine r_istore x_420_66 (by decide +kernel) rfl (lv1 := [(0, .ref a0), (1, g_n v1), (2, g_n v2), (3, g_n r5), (4, g_n r10), (5, g_n r20), (6, g_n (g_i M17 b22 v2)), (7, g_n (g_i M17 a0 10)), (8, g_n (4 * v2))]) rfl ?_
    exact h
  · replace h := h.1 hc
    refine r_aload_n x_420_23 rfl ?_
    refine r_dup x_420_24 rfl ?_
    refine r_getI x_420_25 rfl (ci := 12) (k := 7) (ns := 0) (by decide +kernel) (by decide) rfl (kz := 7) rfl hO1 ?_
    refine r_bipush x_420_28 (x := 20) rfl ?_
    refine r_iadd x_420_30 ?_
    obtain ⟨h32, h⟩ := h
    refine r_putI x_420_31 (ci := 12) (k := 7) (ns := 0) (by decide +kernel) (by decide) (g_f0 (by decide +kernel)) rfl h32 trivial (kz := 7) rfl hO1 ?_
    obtain ⟨M33, hM34⟩ : ∃ Mz, Mz = g_wi M12 a0 7 ((g_i M12 a0 7) + 20) := ⟨_, rfl⟩
    rw [← hM34]
    refine g_Run.ok fun hok35 => ?_
    replace h := h M33 hM34 hok35
    have hx36 := g_extW hM34
    replace hO1 := hO1.up hx36
    refine r_iconst x_420_34 ?_
    exact r_retZ x_420_35 rfl (Or.inl rfl) h
theorem s_X12_update_68 {d : Nat} {M : g_M} {Q : Int → g_M → Prop} {a0 : Nat} {v1 : Int} (hv1 : g_InR v1) {v2 : Int} (hv2 : g_InR v2) {v3 : Int} (hv3 : g_InR v3) {v4 : Int} (hv4 : g_InR v4) {v5 : Int} (hv5 : g_InR v5) {v6 : Int} (hv6 : g_InR v6) {v7 : Int} (hv7 : g_InR v7) {v8 : Int} (hv8 : g_InR v8) (h : g_ok M → g_InR (4 * v2) ∧ g_InR ((4 * v2) + 4) ∧ ((v8 < (4 * v2) + 4 → g_O M a0 12 ∧ ∃ b4, g_r M a0 76 = some b4 ∧ ∃ b6, g_r M a0 54 = some b6 ∧ ∃ n8, g_A M b6 1 n8 ∧ ((0 : Int) ≤ v8 ∧ (v8 : Int) < n8) ∧ ∃ n11, g_A M b4 1 n11 ∧ ((0 : Int) ≤ v8 ∧ (v8 : Int) < n11) ∧ (∀ M14, M14 = g_wi M b4 v8 (g_i M b6 v8) → g_ok M14 → g_InR (v8 + 1) ∧ g_Run d 420 68 [(0, .ref a0), (1, g_n v1), (2, g_n v2), (3, g_n v3), (4, g_n v4), (5, g_n v5), (6, g_n v6), (7, g_n v7), (8, g_n (v8 + 1))] [] M14 (g_qI Q))) ∧ (¬ v8 < (4 * v2) + 4 → g_Run d 420 104 [(0, .ref a0), (1, g_n v1), (2, g_n v2), (3, g_n v3), (4, g_n v4), (5, g_n v5), (6, g_n v6), (7, g_n v7), (8, g_n 0), (9, g_n 0)] [] M (g_qI Q)))) : g_Run d 420 68 [(0, .ref a0), (1, g_n v1), (2, g_n v2), (3, g_n v3), (4, g_n v4), (5, g_n v5), (6, g_n v6), (7, g_n v7), (8, g_n v8)] [] M (g_qI Q) := by
  refine g_Run.ok fun hok => ?_
  replace h := h hok
  refine r_iload x_420_68 rfl ?_
  refine r_iconst x_420_70 ?_
  refine r_iload_n x_420_71 rfl ?_
  refine r_imul x_420_72 ?_
  obtain ⟨h1, h⟩ := h
  refine r_iconst x_420_73 ?_
  refine r_iadd x_420_74 ?_
  obtain ⟨h2, h⟩ := h
  refine r_ic_ge x_420_75 (t := 98) (by decide +kernel) hv8 h2 (fun hc => ?_) (fun hc => ?_)
  · replace h := h.2 hc
    refine r_iconst x_420_98 ?_
    refine r_istore x_420_99 (by decide +kernel) rfl (lv1 := [(0, .ref a0), (1, g_n v1), (2, g_n v2), (3, g_n v3), (4, g_n v4), (5, g_n v5), (6, g_n v6), (7, g_n v7), (8, g_n 0)]) rfl ?_
    refine r_iconst x_420_101 ?_
    refine r_istore x_420_102 (by decide +kernel) rfl (lv1 := [(0, .ref a0), (1, g_n v1), (2, g_n v2), (3, g_n v3), (4, g_n v4), (5, g_n v5), (6, g_n v6), (7, g_n v7), (8, g_n 0), (9, g_n 0)]) rfl ?_
    exact h
  · replace h := h.1 hc
    refine r_aload_n x_420_78 rfl ?_
    obtain ⟨hO3, h⟩ := h
    obtain ⟨b4, hb5, h⟩ := h
    refine r_getR x_420_79 rfl (ci := 12) (k := 76) (ns := 0) (by decide +kernel) (by decide) rfl (kz := 76) rfl hO3 hb5 ?_
    refine r_iload x_420_82 rfl ?_
    refine r_aload_n x_420_84 rfl ?_
    obtain ⟨b6, hb7, h⟩ := h
    refine r_getR x_420_85 rfl (ci := 12) (k := 54) (ns := 0) (by decide +kernel) (by decide) rfl (kz := 54) rfl hO3 hb7 ?_
    refine r_iload x_420_88 rfl ?_
    obtain ⟨n8, hA9, h⟩ := h
    obtain ⟨h10, h⟩ := h
    refine r_iald x_420_90 hA9 hv8 h10.1 h10.2 ?_
    obtain ⟨n11, hA12, h⟩ := h
    obtain ⟨h13, h⟩ := h
    refine r_iast x_420_91 hA12 hv8 h13.1 h13.2 (hok.1 _ _) ?_
    obtain ⟨M14, hM15⟩ : ∃ Mz, Mz = g_wi M b4 v8 (g_i M b6 v8) := ⟨_, rfl⟩
    rw [← hM15]
    refine g_Run.ok fun hok16 => ?_
    replace h := h M14 hM15 hok16
    have hx17 := g_extW hM15
    replace hO3 := hO3.up hx17
    replace hA9 := hA9.up hx17
    replace hA12 := hA12.up hx17
    obtain ⟨h18, h⟩ := h
    refine r_iinc x_420_92 (by decide +kernel) rfl rfl (lv1 := [(0, .ref a0), (1, g_n v1), (2, g_n v2), (3, g_n v3), (4, g_n v4), (5, g_n v5), (6, g_n v6), (7, g_n v7), (8, g_n (v8 + 1))]) rfl ?_
    refine r_goto x_420_95 (t := 68) (by decide +kernel) ?_
    exact h
theorem s_X12_update_104 {d : Nat} {M : g_M} {Q : Int → g_M → Prop} {a0 : Nat} {v1 : Int} (hv1 : g_InR v1) {v2 : Int} (hv2 : g_InR v2) {v3 : Int} (hv3 : g_InR v3) {v4 : Int} (hv4 : g_InR v4) {v5 : Int} (hv5 : g_InR v5) {v6 : Int} (hv6 : g_InR v6) {v7 : Int} (hv7 : g_InR v7) {v8 : Int} (hv8 : g_InR v8) {v9 : Int} (hv9 : g_InR v9) (h : g_ok M → g_O M a0 12 ∧ ∃ b2, g_r M a0 68 = some b2 ∧ ∃ n4, g_A M b2 1 n4 ∧ ((0 : Int) ≤ v2 ∧ (v2 : Int) < n4) ∧ ((v9 < g_i M b2 v2 → ∃ b10, g_r M a0 75 = some b10 ∧ ∃ n12, g_A M b10 2 n12 ∧ ((0 : Int) ≤ v9 ∧ (v9 : Int) < n12) ∧ (∀ M15, M15 = g_wi M b10 v9 0 → g_ok M15 → ∃ b19, g_r M15 a0 74 = some b19 ∧ ∃ n21, g_A M15 b19 2 n21 ∧ ((0 : Int) ≤ v9 ∧ (v9 : Int) < n21) ∧ ((g_i M15 b19 v9 = 0 → g_InR (v9 + 1) ∧ g_Run d 420 104 [(0, .ref a0), (1, g_n v1), (2, g_n v2), (3, g_n v3), (4, g_n v4), (5, g_n v5), (6, g_n v6), (7, g_n v7), (8, g_n v8), (9, g_n (v9 + 1))] [] M15 (g_qI Q)) ∧ (¬ g_i M15 b19 v9 = 0 → g_Call d 404 [.ref a0, g_n v2, g_n v9] M15 (g_qI fun r27 M24 => g_ext M15 M24 → g_ok M24 → g_InR r27 → g_Call d 320 [.ref a0, g_n v4, g_n r27] M24 (g_qI fun r32 M29 => g_ext M24 M29 → g_ok M29 → g_InR r32 → ((r32 = 0 → g_InR ((g_i M29 a0 7) + 20) ∧ ((g_i M29 a0 8 = (-1) → g_Call d 405 [.ref a0, g_n ((g_i M29 a0 7) + 20), g_n v3] M29 (g_qI fun r53 M50 => g_ext M29 M50 → g_ok M50 → g_InR r53 → (r53 = 0 ∨ r53 = 1) ∧ Q r53 M50)) ∧ (¬ g_i M29 a0 8 = (-1) → g_Call d 405 [.ref a0, g_n ((g_i M29 a0 7) + 20), g_n (g_i M29 a0 8)] M29 (g_qI fun r48 M45 => g_ext M29 M45 → g_ok M45 → g_InR r48 → (r48 = 0 ∨ r48 = 1) ∧ Q r48 M45)))) ∧ (¬ r32 = 0 → ∃ b34, g_r M29 a0 75 = some b34 ∧ ∃ n36, g_A M29 b34 2 n36 ∧ ((0 : Int) ≤ v9 ∧ (v9 : Int) < n36) ∧ (g_i M29 a0 17 = 0 ∨ g_i M29 a0 17 = 1) ∧ (∀ M40, M40 = g_wi M29 b34 v9 (g_i M29 a0 17) → g_ok M40 → ((g_i M40 a0 17 = 0 → g_Run d 420 205 [(0, .ref a0), (1, g_n v1), (2, g_n v2), (3, g_n v3), (4, g_n v4), (5, g_n v5), (6, g_n v6), (7, g_n v7), (8, g_n v8), (9, g_n v9)] [g_n 0, g_n v8] M40 (g_qI Q)) ∧ (¬ g_i M40 a0 17 = 0 → g_Run d 420 205 [(0, .ref a0), (1, g_n v1), (2, g_n v2), (3, g_n v3), (4, g_n v4), (5, g_n v5), (6, g_n v6), (7, g_n v7), (8, g_n v8), (9, g_n v9)] [g_n 1, g_n v8] M40 (g_qI Q)))))))))))) ∧ (¬ v9 < g_i M b2 v2 → ((40000 < v6 → g_InR (4 * v2) ∧ g_Run d 420 360 [(0, .ref a0), (1, g_n v1), (2, g_n v2), (3, g_n v3), (4, g_n v4), (5, g_n v5), (6, g_n v6), (7, g_n v7), (8, g_n v8), (9, g_n 0), (10, g_n (4 * v2))] [] M (g_qI Q)) ∧ (¬ 40000 < v6 → ((g_i M a0 40 = 0 → g_InR (4 * v2) ∧ g_Run d 420 360 [(0, .ref a0), (1, g_n v1), (2, g_n v2), (3, g_n v3), (4, g_n v4), (5, g_n v5), (6, g_n v6), (7, g_n v7), (8, g_n v8), (9, g_n 1), (10, g_n (4 * v2))] [] M (g_qI Q)) ∧ (¬ g_i M a0 40 = 0 → g_InR (4 * v2) ∧ g_Run d 420 360 [(0, .ref a0), (1, g_n v1), (2, g_n v2), (3, g_n v3), (4, g_n v4), (5, g_n v5), (6, g_n v6), (7, g_n v7), (8, g_n v8), (9, g_n 0), (10, g_n (4 * v2))] [] M (g_qI Q)))))))) : g_Run d 420 104 [(0, .ref a0), (1, g_n v1), (2, g_n v2), (3, g_n v3), (4, g_n v4), (5, g_n v5), (6, g_n v6), (7, g_n v7), (8, g_n v8), (9, g_n v9)] [] M (g_qI Q) := by
  refine g_Run.ok fun hok => ?_
  replace h := h hok
  refine r_iload x_420_104 rfl ?_
  refine r_aload_n x_420_106 rfl ?_
  obtain ⟨hO1, h⟩ := h
  obtain ⟨b2, hb3, h⟩ := h
  refine r_getR x_420_107 rfl (ci := 12) (k := 68) (ns := 0) (by decide +kernel) (by decide) rfl (kz := 68) rfl hO1 hb3 ?_
  refine r_iload_n x_420_110 rfl ?_
  obtain ⟨n4, hA5, h⟩ := h
  obtain ⟨h6, h⟩ := h
  refine r_iald x_420_111 hA5 hv2 h6.1 h6.2 ?_
  refine r_ic_ge x_420_112 (t := 333) (by decide +kernel) hv9 (hok.1 _ _) (fun hc => ?_) (fun hc => ?_)
  · replace h := h.2 hc
    refine r_iload x_420_333 rfl ?_
    refine r_ldcw x_420_335 (v := g_n 40000) rfl ?_
    refine r_ic_gt x_420_338 (t := 352) (by decide +kernel) hv6 (g_Rk rfl) (fun hc => ?_) (fun hc => ?_)
    · replace h := h.1 hc
      refine r_iconst x_420_352 ?_
      refine r_istore x_420_353 (by decide +kernel) rfl (lv1 := [(0, .ref a0), (1, g_n v1), (2, g_n v2), (3, g_n v3), (4, g_n v4), (5, g_n v5), (6, g_n v6), (7, g_n v7), (8, g_n v8), (9, g_n 0)]) rfl ?_
      refine r_iconst x_420_355 ?_
      refine r_iload_n x_420_356 rfl ?_
      refine r_imul x_420_357 ?_
      obtain ⟨h7, h⟩ := h
      refine r_istore x_420_358 (by decide +kernel) rfl (lv1 := [(0, .ref a0), (1, g_n v1), (2, g_n v2), (3, g_n v3), (4, g_n v4), (5, g_n v5), (6, g_n v6), (7, g_n v7), (8, g_n v8), (9, g_n 0), (10, g_n (4 * v2))]) rfl ?_
      exact h
    · replace h := h.2 hc
      refine r_aload_n x_420_341 rfl ?_
      refine r_getI x_420_342 rfl (ci := 12) (k := 40) (ns := 0) (by decide +kernel) (by decide) rfl (kz := 40) rfl hO1 ?_
      refine r_if_ne x_420_345 (t := 352) (by decide +kernel) (hok.1 _ _) (fun hc => ?_) (fun hc => ?_)
      · replace h := h.2 hc
        refine r_iconst x_420_352 ?_
        refine r_istore x_420_353 (by decide +kernel) rfl (lv1 := [(0, .ref a0), (1, g_n v1), (2, g_n v2), (3, g_n v3), (4, g_n v4), (5, g_n v5), (6, g_n v6), (7, g_n v7), (8, g_n v8), (9, g_n 0)]) rfl ?_
        refine r_iconst x_420_355 ?_
        refine r_iload_n x_420_356 rfl ?_
        refine r_imul x_420_357 ?_
        obtain ⟨h8, h⟩ := h
        refine r_istore x_420_358 (by decide +kernel) rfl (lv1 := [(0, .ref a0), (1, g_n v1), (2, g_n v2), (3, g_n v3), (4, g_n v4), (5, g_n v5), (6, g_n v6), (7, g_n v7), (8, g_n v8), (9, g_n 0), (10, g_n (4 * v2))]) rfl ?_
        exact h
      · replace h := h.1 hc
        refine r_iconst x_420_348 ?_
        refine r_goto x_420_349 (t := 353) (by decide +kernel) ?_
        refine r_istore x_420_353 (by decide +kernel) rfl (lv1 := [(0, .ref a0), (1, g_n v1), (2, g_n v2), (3, g_n v3), (4, g_n v4), (5, g_n v5), (6, g_n v6), (7, g_n v7), (8, g_n v8), (9, g_n 1)]) rfl ?_
        refine r_iconst x_420_355 ?_
        refine r_iload_n x_420_356 rfl ?_
        refine r_imul x_420_357 ?_
        obtain ⟨h9, h⟩ := h
        refine r_istore x_420_358 (by decide +kernel) rfl (lv1 := [(0, .ref a0), (1, g_n v1), (2, g_n v2), (3, g_n v3), (4, g_n v4), (5, g_n v5), (6, g_n v6), (7, g_n v7), (8, g_n v8), (9, g_n 1), (10, g_n (4 * v2))]) rfl ?_
        exact h
  · replace h := h.1 hc
    refine r_aload_n x_420_115 rfl ?_
    obtain ⟨b10, hb11, h⟩ := h
    refine r_getR x_420_116 rfl (ci := 12) (k := 75) (ns := 0) (by decide +kernel) (by decide) rfl (kz := 75) rfl hO1 hb11 ?_
    refine r_iload x_420_119 rfl ?_
    refine r_iconst x_420_121 ?_
    obtain ⟨n12, hA13, h⟩ := h
    obtain ⟨h14, h⟩ := h
    refine r_bast2 x_420_122 hA13 hv9 h14.1 h14.2 (Or.inl rfl) ?_
    obtain ⟨M15, hM16⟩ : ∃ Mz, Mz = g_wi M b10 v9 0 := ⟨_, rfl⟩
    rw [← hM16]
    refine g_Run.ok fun hok17 => ?_
    replace h := h M15 hM16 hok17
    have hx18 := g_extW hM16
    replace hO1 := hO1.up hx18
    replace hA5 := hA5.up hx18
    replace hA13 := hA13.up hx18
    refine r_aload_n x_420_123 rfl ?_
    obtain ⟨b19, hb20, h⟩ := h
    refine r_getR x_420_124 rfl (ci := 12) (k := 74) (ns := 0) (by decide +kernel) (by decide) rfl (kz := 74) rfl hO1 hb20 ?_
    refine r_iload x_420_127 rfl ?_
    obtain ⟨n21, hA22, h⟩ := h
    obtain ⟨h23, h⟩ := h
    refine r_bald x_420_129 (Or.inr rfl) hA22 hv9 h23.1 h23.2 ?_
    refine r_if_ne x_420_130 (t := 136) (by decide +kernel) (hok17.1 _ _) (fun hc => ?_) (fun hc => ?_)
    · replace h := h.2 hc
      refine r_aload_n x_420_136 rfl ?_
      refine r_iload x_420_137 rfl ?_
      refine r_aload_n x_420_139 rfl ?_
      refine r_iload_n x_420_140 rfl ?_
      refine r_iload x_420_141 rfl ?_
      refine r_invV x_420_143 (z := 404) (ns := 0) (by decide +kernel) (as := [g_n v2, g_n v9]) (r := [g_n v4, .ref a0]) rfl rfl rfl hO1 rfl rfl ?_
      refine r_callI h fun r27 M24 hx25 hok26 hr28 h => ?_
      replace h := h hx25 hok26 hr28
      replace hO1 := hO1.up hx25
      replace hA5 := hA5.up hx25
      replace hA13 := hA13.up hx25
      replace hA22 := hA22.up hx25
      refine r_invV x_420_146 (z := 320) (ns := 0) (by decide +kernel) (as := [g_n v4, g_n r27]) (r := []) rfl rfl rfl hO1 rfl rfl ?_
      refine r_callI h fun r32 M29 hx30 hok31 hr33 h => ?_
      replace h := h hx30 hok31 hr33
      replace hO1 := hO1.up hx30
      replace hA5 := hA5.up hx30
      replace hA13 := hA13.up hx30
      replace hA22 := hA22.up hx30
      refine r_if_ne x_420_149 (t := 180) (by decide +kernel) hr33 (fun hc => ?_) (fun hc => ?_)
      · replace h := h.2 hc
        refine r_aload_n x_420_180 rfl ?_
        obtain ⟨b34, hb35, h⟩ := h
        refine r_getR x_420_181 rfl (ci := 12) (k := 75) (ns := 0) (by decide +kernel) (by decide) rfl (kz := 75) rfl hO1 hb35 ?_
        refine r_iload x_420_184 rfl ?_
        refine r_aload_n x_420_186 rfl ?_
        refine r_getI x_420_187 rfl (ci := 12) (k := 17) (ns := 0) (by decide +kernel) (by decide) rfl (kz := 17) rfl hO1 ?_
        obtain ⟨n36, hA37, h⟩ := h
        obtain ⟨h38, h⟩ := h
        obtain ⟨h39, h⟩ := h
        refine r_bast2 x_420_190 hA37 hv9 h38.1 h38.2 h39 ?_
        obtain ⟨M40, hM41⟩ : ∃ Mz, Mz = g_wi M29 b34 v9 (g_i M29 a0 17) := ⟨_, rfl⟩
        rw [← hM41]
        refine g_Run.ok fun hok42 => ?_
        replace h := h M40 hM41 hok42
        have hx43 := g_extW hM41
        replace hO1 := hO1.up hx43
        replace hA5 := hA5.up hx43
        replace hA13 := hA13.up hx43
        replace hA22 := hA22.up hx43
        replace hA37 := hA37.up hx43
        refine r_iload x_420_191 rfl ?_
        refine r_aload_n x_420_193 rfl ?_
        refine r_getI x_420_194 rfl (ci := 12) (k := 17) (ns := 0) (by decide +kernel) (by decide) rfl (kz := 17) rfl hO1 ?_
        refine r_if_eq x_420_197 (t := 204) (by decide +kernel) (hok42.1 _ _) (fun hc => ?_) (fun hc => ?_)
        · replace h := h.1 hc
          refine r_iconst x_420_204 ?_
          exact h
        · replace h := h.2 hc
          refine r_iconst x_420_200 ?_
          refine r_goto x_420_201 (t := 205) (by decide +kernel) ?_
          exact h
      · replace h := h.1 hc
        refine r_aload_n x_420_152 rfl ?_
        refine r_aload_n x_420_153 rfl ?_
        refine r_getI x_420_154 rfl (ci := 12) (k := 7) (ns := 0) (by decide +kernel) (by decide) rfl (kz := 7) rfl hO1 ?_
        refine r_bipush x_420_157 (x := 20) rfl ?_
        refine r_iadd x_420_159 ?_
        obtain ⟨h44, h⟩ := h
        refine r_aload_n x_420_160 rfl ?_
        refine r_getI x_420_161 rfl (ci := 12) (k := 8) (ns := 0) (by decide +kernel) (by decide) rfl (kz := 8) rfl hO1 ?_
        refine r_iconst x_420_164 ?_
        refine r_ic_ne x_420_165 (t := 172) (by decide +kernel) (hok31.1 _ _) (g_Rk rfl) (fun hc => ?_) (fun hc => ?_)
        · replace h := h.2 hc
          refine r_aload_n x_420_172 rfl ?_
          refine r_getI x_420_173 rfl (ci := 12) (k := 8) (ns := 0) (by decide +kernel) (by decide) rfl (kz := 8) rfl hO1 ?_
          refine r_invV x_420_176 (z := 405) (ns := 0) (by decide +kernel) (as := [g_n ((g_i M29 a0 7) + 20), g_n (g_i M29 a0 8)]) (r := []) rfl rfl rfl hO1 rfl rfl ?_
          refine r_callI h fun r48 M45 hx46 hok47 hr49 h => ?_
          replace h := h hx46 hok47 hr49
          replace hO1 := hO1.up hx46
          replace hA5 := hA5.up hx46
          replace hA13 := hA13.up hx46
          replace hA22 := hA22.up hx46
          obtain ⟨hz, h⟩ := h
          exact r_retZ x_420_179 rfl hz h
        · replace h := h.1 hc
          refine r_iload_n x_420_168 rfl ?_
          refine r_goto x_420_169 (t := 176) (by decide +kernel) ?_
          refine r_invV x_420_176 (z := 405) (ns := 0) (by decide +kernel) (as := [g_n ((g_i M29 a0 7) + 20), g_n v3]) (r := []) rfl rfl rfl hO1 rfl rfl ?_
          refine r_callI h fun r53 M50 hx51 hok52 hr54 h => ?_
          replace h := h hx51 hok52 hr54
          replace hO1 := hO1.up hx51
          replace hA5 := hA5.up hx51
          replace hA13 := hA13.up hx51
          replace hA22 := hA22.up hx51
          obtain ⟨hz, h⟩ := h
          exact r_retZ x_420_179 rfl hz h
    · replace h := h.1 hc
      refine r_goto x_420_133 (t := 327) (by decide +kernel) ?_
      obtain ⟨h55, h⟩ := h
      refine r_iinc x_420_327 (by decide +kernel) rfl rfl (lv1 := [(0, .ref a0), (1, g_n v1), (2, g_n v2), (3, g_n v3), (4, g_n v4), (5, g_n v5), (6, g_n v6), (7, g_n v7), (8, g_n v8), (9, g_n (v9 + 1))]) rfl ?_
      refine r_goto x_420_330 (t := 104) (by decide +kernel) ?_
      exact h
theorem s_X12_update_205 {d : Nat} {M : g_M} {Q : Int → g_M → Prop} {a0 : Nat} {v1 : Int} (hv1 : g_InR v1) {v2 : Int} (hv2 : g_InR v2) {v3 : Int} (hv3 : g_InR v3) {v4 : Int} (hv4 : g_InR v4) {v5 : Int} (hv5 : g_InR v5) {v6 : Int} (hv6 : g_InR v6) {v7 : Int} (hv7 : g_InR v7) {v8 : Int} (hv8 : g_InR v8) {v9 : Int} (hv9 : g_InR v9) {w0 : Int} (hw0 : g_InR w0) {w1 : Int} (hw1 : g_InR w1) (h : g_ok M → g_InR (w1 + w0) ∧ g_O M a0 12 ∧ g_Call d 227 [.ref a0, g_n 922000] M (g_qI fun r6 M3 => g_ext M M3 → g_ok M3 → g_InR r6 → g_Call d 404 [.ref a0, g_n v2, g_n v9] M3 (g_qI fun r11 M8 => g_ext M3 M8 → g_ok M8 → g_InR r11 → g_Call d 227 [.ref a0, g_n r11] M8 (g_qI fun r16 M13 => g_ext M8 M13 → g_ok M13 → g_InR r16 → g_InR (r6 - r16) ∧ g_InR (v6 + (r6 - r16)) ∧ g_InR (4 * v2) ∧ g_Run d 420 237 [(0, .ref a0), (1, g_n v1), (2, g_n v2), (3, g_n v3), (4, g_n v4), (5, g_n v5), (6, g_n (v6 + (r6 - r16))), (7, g_n v7), (8, g_n (w1 + w0)), (9, g_n v9), (10, g_n (4 * v2))] [] M13 (g_qI Q))))) : g_Run d 420 205 [(0, .ref a0), (1, g_n v1), (2, g_n v2), (3, g_n v3), (4, g_n v4), (5, g_n v5), (6, g_n v6), (7, g_n v7), (8, g_n v8), (9, g_n v9)] [g_n w0, g_n w1] M (g_qI Q) := by
  refine g_Run.ok fun hok => ?_
  replace h := h hok
  refine r_iadd x_420_205 ?_
  obtain ⟨h1, h⟩ := h
  refine r_istore x_420_206 (by decide +kernel) rfl (lv1 := [(0, .ref a0), (1, g_n v1), (2, g_n v2), (3, g_n v3), (4, g_n v4), (5, g_n v5), (6, g_n v6), (7, g_n v7), (8, g_n (w1 + w0)), (9, g_n v9)]) rfl ?_
  refine r_iload x_420_208 rfl ?_
  refine r_aload_n x_420_210 rfl ?_
  refine r_ldcw x_420_211 (v := g_n 922000) rfl ?_
  obtain ⟨hO2, h⟩ := h
  refine r_invV x_420_214 (z := 227) (ns := 0) (by decide +kernel) (as := [g_n 922000]) (r := [g_n v6]) rfl rfl rfl hO2 rfl rfl ?_
  refine r_callI h fun r6 M3 hx4 hok5 hr7 h => ?_
  replace h := h hx4 hok5 hr7
  replace hO2 := hO2.up hx4
  refine r_aload_n x_420_217 rfl ?_
  refine r_aload_n x_420_218 rfl ?_
  refine r_iload_n x_420_219 rfl ?_
  refine r_iload x_420_220 rfl ?_
  refine r_invV x_420_222 (z := 404) (ns := 0) (by decide +kernel) (as := [g_n v2, g_n v9]) (r := [.ref a0, g_n r6, g_n v6]) rfl rfl rfl hO2 rfl rfl ?_
  refine r_callI h fun r11 M8 hx9 hok10 hr12 h => ?_
  replace h := h hx9 hok10 hr12
  replace hO2 := hO2.up hx9
  refine r_invV x_420_225 (z := 227) (ns := 0) (by decide +kernel) (as := [g_n r11]) (r := [g_n r6, g_n v6]) rfl rfl rfl hO2 rfl rfl ?_
  refine r_callI h fun r16 M13 hx14 hok15 hr17 h => ?_
  replace h := h hx14 hok15 hr17
  replace hO2 := hO2.up hx14
  refine r_isub x_420_228 ?_
  obtain ⟨h18, h⟩ := h
  refine r_iadd x_420_229 ?_
  obtain ⟨h19, h⟩ := h
  refine r_istore x_420_230 (by decide +kernel) rfl (lv1 := [(0, .ref a0), (1, g_n v1), (2, g_n v2), (3, g_n v3), (4, g_n v4), (5, g_n v5), (6, g_n (v6 + (r6 - r16))), (7, g_n v7), (8, g_n (w1 + w0)), (9, g_n v9)]) rfl ?_
  refine r_iconst x_420_232 ?_
  refine r_iload_n x_420_233 rfl ?_
  refine r_imul x_420_234 ?_
  obtain ⟨h20, h⟩ := h
  refine r_istore x_420_235 (by decide +kernel) rfl (lv1 := [(0, .ref a0), (1, g_n v1), (2, g_n v2), (3, g_n v3), (4, g_n v4), (5, g_n v5), (6, g_n (v6 + (r6 - r16))), (7, g_n v7), (8, g_n (w1 + w0)), (9, g_n v9), (10, g_n (4 * v2))]) rfl ?_
  exact h
theorem s_X12_update_237 {d : Nat} {M : g_M} {Q : Int → g_M → Prop} {a0 : Nat} {v1 : Int} (hv1 : g_InR v1) {v2 : Int} (hv2 : g_InR v2) {v3 : Int} (hv3 : g_InR v3) {v4 : Int} (hv4 : g_InR v4) {v5 : Int} (hv5 : g_InR v5) {v6 : Int} (hv6 : g_InR v6) {v7 : Int} (hv7 : g_InR v7) {v8 : Int} (hv8 : g_InR v8) {v9 : Int} (hv9 : g_InR v9) {v10 : Int} (hv10 : g_InR v10) (h : g_ok M → g_InR (4 * v2) ∧ g_InR ((4 * v2) + 4) ∧ ((v10 < (4 * v2) + 4 → g_O M a0 12 ∧ ((g_i M a0 17 = 0 → g_InR (v9 + 1) ∧ g_Run d 420 104 [(0, .ref a0), (1, g_n v1), (2, g_n v2), (3, g_n v3), (4, g_n v4), (5, g_n v5), (6, g_n v6), (7, g_n v7), (8, g_n v8), (9, g_n (v9 + 1))] [] M (g_qI Q)) ∧ (¬ g_i M a0 17 = 0 → ∃ b6, g_r M a0 35 = some b6 ∧ ∃ n8, g_A M b6 2 n8 ∧ ((0 : Int) ≤ v10 ∧ (v10 : Int) < n8) ∧ ((g_i M b6 v10 = 0 → g_InR (v10 + 1) ∧ g_Run d 420 237 [(0, .ref a0), (1, g_n v1), (2, g_n v2), (3, g_n v3), (4, g_n v4), (5, g_n v5), (6, g_n v6), (7, g_n v7), (8, g_n v8), (9, g_n v9), (10, g_n (v10 + 1))] [] M (g_qI Q)) ∧ (¬ g_i M b6 v10 = 0 → ∃ b11, g_r M a0 76 = some b11 ∧ ∃ n13, g_A M b11 1 n13 ∧ ((0 : Int) ≤ v10 ∧ (v10 : Int) < n13) ∧ g_Call d 404 [.ref a0, g_n v2, g_n v9] M (g_qI fun r19 M16 => g_ext M M16 → g_ok M16 → g_InR r19 → g_Call d 361 [.ref a0, g_n v10, g_n r19] M16 (g_qI fun r24 M21 => g_ext M16 M21 → g_ok M21 → g_InR r24 → g_InR ((g_i M b11 v10) - r24) ∧ ((0 : Int) ≤ v10 ∧ (v10 : Int) < n13) ∧ (∀ M28, M28 = g_wi M21 b11 v10 ((g_i M b11 v10) - r24) → g_ok M28 → (∀ M32, M32 = g_wi M28 a0 10 v7 → g_ok M32 → ∃ b36, g_r M32 a0 76 = some b36 ∧ ∃ n38, g_A M32 b36 1 n38 ∧ ((0 : Int) ≤ v10 ∧ (v10 : Int) < n38) ∧ g_Call d 361 [.ref a0, g_n v10, g_n 922000] M32 (g_qI fun r44 M41 => g_ext M32 M41 → g_ok M41 → g_InR r44 → g_InR ((g_i M32 b36 v10) + r44) ∧ ((0 : Int) ≤ v10 ∧ (v10 : Int) < n38) ∧ (∀ M48, M48 = g_wi M41 b36 v10 ((g_i M32 b36 v10) + r44) → g_ok M48 → (∀ M52, M52 = g_wi M48 a0 10 v7 → g_ok M52 → g_InR (v10 + 1) ∧ g_Run d 420 237 [(0, .ref a0), (1, g_n v1), (2, g_n v2), (3, g_n v3), (4, g_n v4), (5, g_n v5), (6, g_n v6), (7, g_n v7), (8, g_n v8), (9, g_n v9), (10, g_n (v10 + 1))] [] M52 (g_qI Q))))))))))))) ∧ (¬ v10 < (4 * v2) + 4 → g_InR (v9 + 1) ∧ g_Run d 420 104 [(0, .ref a0), (1, g_n v1), (2, g_n v2), (3, g_n v3), (4, g_n v4), (5, g_n v5), (6, g_n v6), (7, g_n v7), (8, g_n v8), (9, g_n (v9 + 1))] [] M (g_qI Q)))) : g_Run d 420 237 [(0, .ref a0), (1, g_n v1), (2, g_n v2), (3, g_n v3), (4, g_n v4), (5, g_n v5), (6, g_n v6), (7, g_n v7), (8, g_n v8), (9, g_n v9), (10, g_n v10)] [] M (g_qI Q) := by
  refine g_Run.ok fun hok => ?_
  replace h := h hok
  refine r_iload x_420_237 rfl ?_
  refine r_iconst x_420_239 ?_
  refine r_iload_n x_420_240 rfl ?_
  refine r_imul x_420_241 ?_
  obtain ⟨h1, h⟩ := h
  refine r_iconst x_420_242 ?_
  refine r_iadd x_420_243 ?_
  obtain ⟨h2, h⟩ := h
  refine r_ic_ge x_420_244 (t := 327) (by decide +kernel) hv10 h2 (fun hc => ?_) (fun hc => ?_)
  · replace h := h.2 hc
    obtain ⟨h3, h⟩ := h
    refine r_iinc x_420_327 (by decide +kernel) rfl rfl (lv1 := [(0, .ref a0), (1, g_n v1), (2, g_n v2), (3, g_n v3), (4, g_n v4), (5, g_n v5), (6, g_n v6), (7, g_n v7), (8, g_n v8), (9, g_n (v9 + 1)), (10, g_n v10)]) rfl ?_
    refine r_goto x_420_330 (t := 104) (by decide +kernel) ?_
    refine g_drop [0, 1, 2, 3, 4, 5, 6, 7, 8, 9] (lv1 := [(0, .ref a0), (1, g_n v1), (2, g_n v2), (3, g_n v3), (4, g_n v4), (5, g_n v5), (6, g_n v6), (7, g_n v7), (8, g_n v8), (9, g_n (v9 + 1))]) rfl ?_
    exact h
  · replace h := h.1 hc
    refine r_aload_n x_420_247 rfl ?_
    obtain ⟨hO4, h⟩ := h
    refine r_getI x_420_248 rfl (ci := 12) (k := 17) (ns := 0) (by decide +kernel) (by decide) rfl (kz := 17) rfl hO4 ?_
    refine r_if_eq x_420_251 (t := 327) (by decide +kernel) (hok.1 _ _) (fun hc => ?_) (fun hc => ?_)
    · replace h := h.1 hc
      obtain ⟨h5, h⟩ := h
      refine r_iinc x_420_327 (by decide +kernel) rfl rfl (lv1 := [(0, .ref a0), (1, g_n v1), (2, g_n v2), (3, g_n v3), (4, g_n v4), (5, g_n v5), (6, g_n v6), (7, g_n v7), (8, g_n v8), (9, g_n (v9 + 1)), (10, g_n v10)]) rfl ?_
      refine r_goto x_420_330 (t := 104) (by decide +kernel) ?_
      refine g_drop [0, 1, 2, 3, 4, 5, 6, 7, 8, 9] (lv1 := [(0, .ref a0), (1, g_n v1), (2, g_n v2), (3, g_n v3), (4, g_n v4), (5, g_n v5), (6, g_n v6), (7, g_n v7), (8, g_n v8), (9, g_n (v9 + 1))]) rfl ?_
      exact h
    · replace h := h.2 hc
      refine r_aload_n x_420_254 rfl ?_
      obtain ⟨b6, hb7, h⟩ := h
      refine r_getR x_420_255 rfl (ci := 12) (k := 35) (ns := 0) (by decide +kernel) (by decide) rfl (kz := 35) rfl hO4 hb7 ?_
      refine r_iload x_420_258 rfl ?_
      obtain ⟨n8, hA9, h⟩ := h
      obtain ⟨h10, h⟩ := h
      refine r_bald x_420_260 (Or.inr rfl) hA9 hv10 h10.1 h10.2 ?_
      refine r_if_ne x_420_261 (t := 267) (by decide +kernel) (hok.1 _ _) (fun hc => ?_) (fun hc => ?_)
      · replace h := h.2 hc
        refine r_aload_n x_420_267 rfl ?_
        obtain ⟨b11, hb12, h⟩ := h
        refine r_getR x_420_268 rfl (ci := 12) (k := 76) (ns := 0) (by decide +kernel) (by decide) rfl (kz := 76) rfl hO4 hb12 ?_
        refine r_iload x_420_271 rfl ?_
        refine r_dup2 x_420_273 rfl rfl ?_
        obtain ⟨n13, hA14, h⟩ := h
        obtain ⟨h15, h⟩ := h
        refine r_iald x_420_274 hA14 hv10 h15.1 h15.2 ?_
        refine r_aload_n x_420_275 rfl ?_
        refine r_iload x_420_276 rfl ?_
        refine r_aload_n x_420_278 rfl ?_
        refine r_iload_n x_420_279 rfl ?_
        refine r_iload x_420_280 rfl ?_
        refine r_invV x_420_282 (z := 404) (ns := 0) (by decide +kernel) (as := [g_n v2, g_n v9]) (r := [g_n v10, .ref a0, g_n (g_i M b11 v10), g_n v10, .ref b11]) rfl rfl rfl hO4 rfl rfl ?_
        refine r_callI h fun r19 M16 hx17 hok18 hr20 h => ?_
        replace h := h hx17 hok18 hr20
        replace hO4 := hO4.up hx17
        replace hA9 := hA9.up hx17
        replace hA14 := hA14.up hx17
        refine r_invV x_420_285 (z := 361) (ns := 0) (by decide +kernel) (as := [g_n v10, g_n r19]) (r := [g_n (g_i M b11 v10), g_n v10, .ref b11]) rfl rfl rfl hO4 rfl rfl ?_
        refine r_callI h fun r24 M21 hx22 hok23 hr25 h => ?_
        replace h := h hx22 hok23 hr25
        replace hO4 := hO4.up hx22
        replace hA9 := hA9.up hx22
        replace hA14 := hA14.up hx22
        refine r_isub x_420_288 ?_
        obtain ⟨h26, h⟩ := h
        obtain ⟨h27, h⟩ := h
        refine r_iast x_420_289 hA14 hv10 h27.1 h27.2 h26 ?_
        obtain ⟨M28, hM29⟩ : ∃ Mz, Mz = g_wi M21 b11 v10 ((g_i M b11 v10) - r24) := ⟨_, rfl⟩
        rw [← hM29]
        refine g_Run.ok fun hok30 => ?_
        replace h := h M28 hM29 hok30
        have hx31 := g_extW hM29
        replace hO4 := hO4.up hx31
        replace hA9 := hA9.up hx31
        replace hA14 := hA14.up hx31
        refine r_aload_n x_420_290 rfl ?_
        refine r_iload x_420_291 rfl ?_
        refine r_putI x_420_293 (ci := 12) (k := 10) (ns := 0) (by decide +kernel) (by decide) (g_f0 (by decide +kernel)) rfl hv7 trivial (kz := 10) rfl hO4 ?_
        obtain ⟨M32, hM33⟩ : ∃ Mz, Mz = g_wi M28 a0 10 v7 := ⟨_, rfl⟩
        rw [← hM33]
        refine g_Run.ok fun hok34 => ?_
        replace h := h M32 hM33 hok34
        have hx35 := g_extW hM33
        replace hO4 := hO4.up hx35
        replace hA9 := hA9.up hx35
        replace hA14 := hA14.up hx35
        refine r_aload_n x_420_296 rfl ?_
        obtain ⟨b36, hb37, h⟩ := h
        refine r_getR x_420_297 rfl (ci := 12) (k := 76) (ns := 0) (by decide +kernel) (by decide) rfl (kz := 76) rfl hO4 hb37 ?_
        refine r_iload x_420_300 rfl ?_
        refine r_dup2 x_420_302 rfl rfl ?_
        obtain ⟨n38, hA39, h⟩ := h
        obtain ⟨h40, h⟩ := h
        refine r_iald x_420_303 hA39 hv10 h40.1 h40.2 ?_
        refine r_aload_n x_420_304 rfl ?_
        refine r_iload x_420_305 rfl ?_
        refine r_ldcw x_420_307 (v := g_n 922000) rfl ?_
        refine r_invV x_420_310 (z := 361) (ns := 0) (by decide +kernel) (as := [g_n v10, g_n 922000]) (r := [g_n (g_i M32 b36 v10), g_n v10, .ref b36]) rfl rfl rfl hO4 rfl rfl ?_
        refine r_callI h fun r44 M41 hx42 hok43 hr45 h => ?_
        replace h := h hx42 hok43 hr45
        replace hO4 := hO4.up hx42
        replace hA9 := hA9.up hx42
        replace hA14 := hA14.up hx42
        replace hA39 := hA39.up hx42
        refine r_iadd x_420_313 ?_
        obtain ⟨h46, h⟩ := h
        obtain ⟨h47, h⟩ := h
        refine r_iast x_420_314 hA39 hv10 h47.1 h47.2 h46 ?_
        obtain ⟨M48, hM49⟩ : ∃ Mz, Mz = g_wi M41 b36 v10 ((g_i M32 b36 v10) + r44) := ⟨_, rfl⟩
        rw [← hM49]
        refine g_Run.ok fun hok50 => ?_
        replace h := h M48 hM49 hok50
        have hx51 := g_extW hM49
        replace hO4 := hO4.up hx51
        replace hA9 := hA9.up hx51
        replace hA14 := hA14.up hx51
        replace hA39 := hA39.up hx51
        refine r_aload_n x_420_315 rfl ?_
        refine r_iload x_420_316 rfl ?_
        refine r_putI x_420_318 (ci := 12) (k := 10) (ns := 0) (by decide +kernel) (by decide) (g_f0 (by decide +kernel)) rfl hv7 trivial (kz := 10) rfl hO4 ?_
        obtain ⟨M52, hM53⟩ : ∃ Mz, Mz = g_wi M48 a0 10 v7 := ⟨_, rfl⟩
        rw [← hM53]
        refine g_Run.ok fun hok54 => ?_
        replace h := h M52 hM53 hok54
        have hx55 := g_extW hM53
        replace hO4 := hO4.up hx55
        replace hA9 := hA9.up hx55
        replace hA14 := hA14.up hx55
        replace hA39 := hA39.up hx55
        obtain ⟨h56, h⟩ := h
        refine r_iinc x_420_321 (by decide +kernel) rfl rfl (lv1 := [(0, .ref a0), (1, g_n v1), (2, g_n v2), (3, g_n v3), (4, g_n v4), (5, g_n v5), (6, g_n v6), (7, g_n v7), (8, g_n v8), (9, g_n v9), (10, g_n (v10 + 1))]) rfl ?_
        refine r_goto x_420_324 (t := 237) (by decide +kernel) ?_
        exact h
      · replace h := h.1 hc
        refine r_goto x_420_264 (t := 321) (by decide +kernel) ?_
        obtain ⟨h57, h⟩ := h
        refine r_iinc x_420_321 (by decide +kernel) rfl rfl (lv1 := [(0, .ref a0), (1, g_n v1), (2, g_n v2), (3, g_n v3), (4, g_n v4), (5, g_n v5), (6, g_n v6), (7, g_n v7), (8, g_n v8), (9, g_n v9), (10, g_n (v10 + 1))]) rfl ?_
        refine r_goto x_420_324 (t := 237) (by decide +kernel) ?_
        exact h
theorem s_X12_update_360 {d : Nat} {M : g_M} {Q : Int → g_M → Prop} {a0 : Nat} {v1 : Int} (hv1 : g_InR v1) {v2 : Int} (hv2 : g_InR v2) {v3 : Int} (hv3 : g_InR v3) {v4 : Int} (hv4 : g_InR v4) {v5 : Int} (hv5 : g_InR v5) {v6 : Int} (hv6 : g_InR v6) {v7 : Int} (hv7 : g_InR v7) {v8 : Int} (hv8 : g_InR v8) {v9 : Int} (hv9 : g_InR v9) {v10 : Int} (hv10 : g_InR v10) (h : g_ok M → g_InR (4 * v2) ∧ g_InR ((4 * v2) + 4) ∧ ((v10 < (4 * v2) + 4 → g_O M a0 12 ∧ ∃ b20, g_r M a0 35 = some b20 ∧ ∃ n22, g_A M b20 2 n22 ∧ ((0 : Int) ≤ v10 ∧ (v10 : Int) < n22) ∧ ((g_i M b20 v10 = 0 → g_InR (v10 + 1) ∧ g_Run d 420 360 [(0, .ref a0), (1, g_n v1), (2, g_n v2), (3, g_n v3), (4, g_n v4), (5, g_n v5), (6, g_n v6), (7, g_n v7), (8, g_n v8), (9, g_n (g_and v9 1)), (10, g_n (v10 + 1))] [] M (g_qI Q)) ∧ (¬ g_i M b20 v10 = 0 → ∃ b26, g_r M a0 76 = some b26 ∧ ∃ n28, g_A M b26 1 n28 ∧ ((0 : Int) ≤ v10 ∧ (v10 : Int) < n28) ∧ ((1000 < g_i M b26 v10 → g_InR (v10 + 1) ∧ g_Run d 420 360 [(0, .ref a0), (1, g_n v1), (2, g_n v2), (3, g_n v3), (4, g_n v4), (5, g_n v5), (6, g_n v6), (7, g_n v7), (8, g_n v8), (9, g_n (g_and v9 0)), (10, g_n (v10 + 1))] [] M (g_qI Q)) ∧ (¬ 1000 < g_i M b26 v10 → g_InR (v10 + 1) ∧ g_Run d 420 360 [(0, .ref a0), (1, g_n v1), (2, g_n v2), (3, g_n v3), (4, g_n v4), (5, g_n v5), (6, g_n v6), (7, g_n v7), (8, g_n v8), (9, g_n (g_and v9 1)), (10, g_n (v10 + 1))] [] M (g_qI Q)))))) ∧ (¬ v10 < (4 * v2) + 4 → ((v9 = 0 → g_O M a0 12 ∧ g_Call d 405 [.ref a0, g_n 40, g_n ((-1))] M (g_qI fun r17 M14 => g_ext M M14 → g_ok M14 → g_InR r17 → (r17 = 0 ∨ r17 = 1) ∧ Q r17 M14)) ∧ (¬ v9 = 0 → g_O M a0 12 ∧ ∃ b4, g_r M a0 69 = some b4 ∧ ∃ n6, g_A M b4 1 n6 ∧ ((0 : Int) ≤ v2 ∧ (v2 : Int) < n6) ∧ (∀ M9, M9 = g_wi M b4 v2 v6 → g_ok M9 → g_Run d 420 433 [(0, .ref a0), (1, g_n v1), (2, g_n v2), (3, g_n v3), (4, g_n v4), (5, g_n v5), (6, g_n v6), (7, g_n v7), (8, g_n v8), (9, g_n v9), (10, g_n 0)] [] M9 (g_qI Q))))))) : g_Run d 420 360 [(0, .ref a0), (1, g_n v1), (2, g_n v2), (3, g_n v3), (4, g_n v4), (5, g_n v5), (6, g_n v6), (7, g_n v7), (8, g_n v8), (9, g_n v9), (10, g_n v10)] [] M (g_qI Q) := by
  refine g_Run.ok fun hok => ?_
  replace h := h hok
  refine r_iload x_420_360 rfl ?_
  refine r_iconst x_420_362 ?_
  refine r_iload_n x_420_363 rfl ?_
  refine r_imul x_420_364 ?_
  obtain ⟨h1, h⟩ := h
  refine r_iconst x_420_365 ?_
  refine r_iadd x_420_366 ?_
  obtain ⟨h2, h⟩ := h
  refine r_ic_ge x_420_367 (t := 409) (by decide +kernel) hv10 h2 (fun hc => ?_) (fun hc => ?_)
  · replace h := h.2 hc
    refine r_iload x_420_409 rfl ?_
    refine r_if_ne x_420_411 (t := 422) (by decide +kernel) hv9 (fun hc => ?_) (fun hc => ?_)
    · replace h := h.2 hc
      refine r_aload_n x_420_422 rfl ?_
      obtain ⟨hO3, h⟩ := h
      obtain ⟨b4, hb5, h⟩ := h
      refine r_getR x_420_423 rfl (ci := 12) (k := 69) (ns := 0) (by decide +kernel) (by decide) rfl (kz := 69) rfl hO3 hb5 ?_
      refine r_iload_n x_420_426 rfl ?_
      refine r_iload x_420_427 rfl ?_
      obtain ⟨n6, hA7, h⟩ := h
      obtain ⟨h8, h⟩ := h
      refine r_iast x_420_429 hA7 hv2 h8.1 h8.2 hv6 ?_
      obtain ⟨M9, hM10⟩ : ∃ Mz, Mz = g_wi M b4 v2 v6 := ⟨_, rfl⟩
      rw [← hM10]
      refine g_Run.ok fun hok11 => ?_
      replace h := h M9 hM10 hok11
      have hx12 := g_extW hM10
      replace hO3 := hO3.up hx12
      replace hA7 := hA7.up hx12
      refine r_iconst x_420_430 ?_
      refine r_istore x_420_431 (by decide +kernel) rfl (lv1 := [(0, .ref a0), (1, g_n v1), (2, g_n v2), (3, g_n v3), (4, g_n v4), (5, g_n v5), (6, g_n v6), (7, g_n v7), (8, g_n v8), (9, g_n v9), (10, g_n 0)]) rfl ?_
      exact h
    · replace h := h.1 hc
      refine r_aload_n x_420_414 rfl ?_
      refine r_bipush x_420_415 (x := 40) rfl ?_
      refine r_iconst x_420_417 ?_
      obtain ⟨hO13, h⟩ := h
      refine r_invV x_420_418 (z := 405) (ns := 0) (by decide +kernel) (as := [g_n 40, g_n ((-1))]) (r := []) rfl rfl rfl hO13 rfl rfl ?_
      refine r_callI h fun r17 M14 hx15 hok16 hr18 h => ?_
      replace h := h hx15 hok16 hr18
      replace hO13 := hO13.up hx15
      obtain ⟨hz, h⟩ := h
      exact r_retZ x_420_421 rfl hz h
  · replace h := h.1 hc
    refine r_iload x_420_370 rfl ?_
    refine r_aload_n x_420_372 rfl ?_
    obtain ⟨hO19, h⟩ := h
    obtain ⟨b20, hb21, h⟩ := h
    refine r_getR x_420_373 rfl (ci := 12) (k := 35) (ns := 0) (by decide +kernel) (by decide) rfl (kz := 35) rfl hO19 hb21 ?_
    refine r_iload x_420_376 rfl ?_
    obtain ⟨n22, hA23, h⟩ := h
    obtain ⟨h24, h⟩ := h
    refine r_bald x_420_378 (Or.inr rfl) hA23 hv10 h24.1 h24.2 ?_
    refine r_if_eq x_420_379 (t := 395) (by decide +kernel) (hok.1 _ _) (fun hc => ?_) (fun hc => ?_)
    · replace h := h.1 hc
      refine r_iconst x_420_395 ?_
      refine r_goto x_420_396 (t := 400) (by decide +kernel) ?_
      refine r_iand x_420_400 ?_
      refine r_istore x_420_401 (by decide +kernel) rfl (lv1 := [(0, .ref a0), (1, g_n v1), (2, g_n v2), (3, g_n v3), (4, g_n v4), (5, g_n v5), (6, g_n v6), (7, g_n v7), (8, g_n v8), (9, g_n (g_and v9 1)), (10, g_n v10)]) rfl ?_
      obtain ⟨h25, h⟩ := h
      refine r_iinc x_420_403 (by decide +kernel) rfl rfl (lv1 := [(0, .ref a0), (1, g_n v1), (2, g_n v2), (3, g_n v3), (4, g_n v4), (5, g_n v5), (6, g_n v6), (7, g_n v7), (8, g_n v8), (9, g_n (g_and v9 1)), (10, g_n (v10 + 1))]) rfl ?_
      refine r_goto x_420_406 (t := 360) (by decide +kernel) ?_
      exact h
    · replace h := h.2 hc
      refine r_aload_n x_420_382 rfl ?_
      obtain ⟨b26, hb27, h⟩ := h
      refine r_getR x_420_383 rfl (ci := 12) (k := 76) (ns := 0) (by decide +kernel) (by decide) rfl (kz := 76) rfl hO19 hb27 ?_
      refine r_iload x_420_386 rfl ?_
      obtain ⟨n28, hA29, h⟩ := h
      obtain ⟨h30, h⟩ := h
      refine r_iald x_420_388 hA29 hv10 h30.1 h30.2 ?_
      refine r_sipush x_420_389 (x := 1000) rfl ?_
      refine r_ic_gt x_420_392 (t := 399) (by decide +kernel) (hok.1 _ _) (g_Rk rfl) (fun hc => ?_) (fun hc => ?_)
      · replace h := h.1 hc
        refine r_iconst x_420_399 ?_
        refine r_iand x_420_400 ?_
        refine r_istore x_420_401 (by decide +kernel) rfl (lv1 := [(0, .ref a0), (1, g_n v1), (2, g_n v2), (3, g_n v3), (4, g_n v4), (5, g_n v5), (6, g_n v6), (7, g_n v7), (8, g_n v8), (9, g_n (g_and v9 0)), (10, g_n v10)]) rfl ?_
        obtain ⟨h31, h⟩ := h
        refine r_iinc x_420_403 (by decide +kernel) rfl rfl (lv1 := [(0, .ref a0), (1, g_n v1), (2, g_n v2), (3, g_n v3), (4, g_n v4), (5, g_n v5), (6, g_n v6), (7, g_n v7), (8, g_n v8), (9, g_n (g_and v9 0)), (10, g_n (v10 + 1))]) rfl ?_
        refine r_goto x_420_406 (t := 360) (by decide +kernel) ?_
        exact h
      · replace h := h.2 hc
        refine r_iconst x_420_395 ?_
        refine r_goto x_420_396 (t := 400) (by decide +kernel) ?_
        refine r_iand x_420_400 ?_
        refine r_istore x_420_401 (by decide +kernel) rfl (lv1 := [(0, .ref a0), (1, g_n v1), (2, g_n v2), (3, g_n v3), (4, g_n v4), (5, g_n v5), (6, g_n v6), (7, g_n v7), (8, g_n v8), (9, g_n (g_and v9 1)), (10, g_n v10)]) rfl ?_
        obtain ⟨h32, h⟩ := h
        refine r_iinc x_420_403 (by decide +kernel) rfl rfl (lv1 := [(0, .ref a0), (1, g_n v1), (2, g_n v2), (3, g_n v3), (4, g_n v4), (5, g_n v5), (6, g_n v6), (7, g_n v7), (8, g_n v8), (9, g_n (g_and v9 1)), (10, g_n (v10 + 1))]) rfl ?_
        refine r_goto x_420_406 (t := 360) (by decide +kernel) ?_
        exact h
theorem s_X12_update_433 {d : Nat} {M : g_M} {Q : Int → g_M → Prop} {a0 : Nat} {v1 : Int} (hv1 : g_InR v1) {v2 : Int} (hv2 : g_InR v2) {v3 : Int} (hv3 : g_InR v3) {v4 : Int} (hv4 : g_InR v4) {v5 : Int} (hv5 : g_InR v5) {v6 : Int} (hv6 : g_InR v6) {v7 : Int} (hv7 : g_InR v7) {v8 : Int} (hv8 : g_InR v8) {v9 : Int} (hv9 : g_InR v9) {v10 : Int} (hv10 : g_InR v10) (h : g_ok M → g_O M a0 12 ∧ ∃ b2, g_r M a0 68 = some b2 ∧ ∃ n4, g_A M b2 1 n4 ∧ ((0 : Int) ≤ v2 ∧ (v2 : Int) < n4) ∧ ((v10 < g_i M b2 v2 → g_InR (4 * v2) ∧ g_Run d 420 449 [(0, .ref a0), (1, g_n v1), (2, g_n v2), (3, g_n v3), (4, g_n v4), (5, g_n v5), (6, g_n v6), (7, g_n v7), (8, g_n v8), (9, g_n v9), (10, g_n v10), (11, g_n (4 * v2))] [] M (g_qI Q)) ∧ (¬ v10 < g_i M b2 v2 → g_Run d 420 521 [(0, .ref a0), (1, g_n v1), (2, g_n v2), (3, g_n v3), (4, g_n v4), (5, g_n v5), (6, g_n v6), (7, g_n v7), (8, g_n v8), (9, g_n v9), (10, g_n 0)] [] M (g_qI Q)))) : g_Run d 420 433 [(0, .ref a0), (1, g_n v1), (2, g_n v2), (3, g_n v3), (4, g_n v4), (5, g_n v5), (6, g_n v6), (7, g_n v7), (8, g_n v8), (9, g_n v9), (10, g_n v10)] [] M (g_qI Q) := by
  refine g_Run.ok fun hok => ?_
  replace h := h hok
  refine r_iload x_420_433 rfl ?_
  refine r_aload_n x_420_435 rfl ?_
  obtain ⟨hO1, h⟩ := h
  obtain ⟨b2, hb3, h⟩ := h
  refine r_getR x_420_436 rfl (ci := 12) (k := 68) (ns := 0) (by decide +kernel) (by decide) rfl (kz := 68) rfl hO1 hb3 ?_
  refine r_iload_n x_420_439 rfl ?_
  obtain ⟨n4, hA5, h⟩ := h
  obtain ⟨h6, h⟩ := h
  refine r_iald x_420_440 hA5 hv2 h6.1 h6.2 ?_
  refine r_ic_ge x_420_441 (t := 518) (by decide +kernel) hv10 (hok.1 _ _) (fun hc => ?_) (fun hc => ?_)
  · replace h := h.2 hc
    refine r_iconst x_420_518 ?_
    refine r_istore x_420_519 (by decide +kernel) rfl (lv1 := [(0, .ref a0), (1, g_n v1), (2, g_n v2), (3, g_n v3), (4, g_n v4), (5, g_n v5), (6, g_n v6), (7, g_n v7), (8, g_n v8), (9, g_n v9), (10, g_n 0)]) rfl ?_
    exact h
  · replace h := h.1 hc
    refine r_iconst x_420_444 ?_
    refine r_iload_n x_420_445 rfl ?_
    refine r_imul x_420_446 ?_
    obtain ⟨h7, h⟩ := h
    refine r_istore x_420_447 (by decide +kernel) rfl (lv1 := [(0, .ref a0), (1, g_n v1), (2, g_n v2), (3, g_n v3), (4, g_n v4), (5, g_n v5), (6, g_n v6), (7, g_n v7), (8, g_n v8), (9, g_n v9), (10, g_n v10), (11, g_n (4 * v2))]) rfl ?_
    exact h
theorem s_X12_update_449 {d : Nat} {M : g_M} {Q : Int → g_M → Prop} {a0 : Nat} {v1 : Int} (hv1 : g_InR v1) {v2 : Int} (hv2 : g_InR v2) {v3 : Int} (hv3 : g_InR v3) {v4 : Int} (hv4 : g_InR v4) {v5 : Int} (hv5 : g_InR v5) {v6 : Int} (hv6 : g_InR v6) {v7 : Int} (hv7 : g_InR v7) {v8 : Int} (hv8 : g_InR v8) {v9 : Int} (hv9 : g_InR v9) {v10 : Int} (hv10 : g_InR v10) {v11 : Int} (hv11 : g_InR v11) (h : g_ok M → g_InR (4 * v2) ∧ g_InR ((4 * v2) + 4) ∧ ((v11 < (4 * v2) + 4 → g_O M a0 12 ∧ ∃ b5, g_r M a0 75 = some b5 ∧ ∃ n7, g_A M b5 2 n7 ∧ ((0 : Int) ≤ v10 ∧ (v10 : Int) < n7) ∧ ((g_i M b5 v10 = 0 → g_InR (v11 + 1) ∧ g_Run d 420 449 [(0, .ref a0), (1, g_n v1), (2, g_n v2), (3, g_n v3), (4, g_n v4), (5, g_n v5), (6, g_n v6), (7, g_n v7), (8, g_n v8), (9, g_n v9), (10, g_n v10), (11, g_n (v11 + 1))] [] M (g_qI Q)) ∧ (¬ g_i M b5 v10 = 0 → ∃ b11, g_r M a0 35 = some b11 ∧ ∃ n13, g_A M b11 2 n13 ∧ ((0 : Int) ≤ v11 ∧ (v11 : Int) < n13) ∧ ((g_i M b11 v11 = 0 → g_InR (v11 + 1) ∧ g_Run d 420 449 [(0, .ref a0), (1, g_n v1), (2, g_n v2), (3, g_n v3), (4, g_n v4), (5, g_n v5), (6, g_n v6), (7, g_n v7), (8, g_n v8), (9, g_n v9), (10, g_n v10), (11, g_n (v11 + 1))] [] M (g_qI Q)) ∧ (¬ g_i M b11 v11 = 0 → g_Call d 404 [.ref a0, g_n v2, g_n v10] M (g_qI fun r20 M17 => g_ext M M17 → g_ok M17 → g_InR r20 → ∃ b22, g_r M17 a0 72 = some b22 ∧ g_InR (200 * v2) ∧ g_InR ((200 * v2) + v10) ∧ ∃ n26, g_A M17 b22 1 n26 ∧ ((0 : Int) ≤ (200 * v2) + v10 ∧ ((200 * v2) + v10 : Int) < n26) ∧ g_Call d 384 [.ref a0, g_n v11, g_n r20, g_n (g_i M17 b22 ((200 * v2) + v10)), g_n 0] M17 (g_qV fun M29 => g_ext M17 M29 → g_ok M29 → g_InR (v11 + 1) ∧ g_Run d 420 449 [(0, .ref a0), (1, g_n v1), (2, g_n v2), (3, g_n v3), (4, g_n v4), (5, g_n v5), (6, g_n v6), (7, g_n v7), (8, g_n v8), (9, g_n v9), (10, g_n v10), (11, g_n (v11 + 1))] [] M29 (g_qI Q)))))))) ∧ (¬ v11 < (4 * v2) + 4 → g_InR (v10 + 1) ∧ g_Run d 420 433 [(0, .ref a0), (1, g_n v1), (2, g_n v2), (3, g_n v3), (4, g_n v4), (5, g_n v5), (6, g_n v6), (7, g_n v7), (8, g_n v8), (9, g_n v9), (10, g_n (v10 + 1))] [] M (g_qI Q)))) : g_Run d 420 449 [(0, .ref a0), (1, g_n v1), (2, g_n v2), (3, g_n v3), (4, g_n v4), (5, g_n v5), (6, g_n v6), (7, g_n v7), (8, g_n v8), (9, g_n v9), (10, g_n v10), (11, g_n v11)] [] M (g_qI Q) := by
  refine g_Run.ok fun hok => ?_
  replace h := h hok
  refine r_iload x_420_449 rfl ?_
  refine r_iconst x_420_451 ?_
  refine r_iload_n x_420_452 rfl ?_
  refine r_imul x_420_453 ?_
  obtain ⟨h1, h⟩ := h
  refine r_iconst x_420_454 ?_
  refine r_iadd x_420_455 ?_
  obtain ⟨h2, h⟩ := h
  refine r_ic_ge x_420_456 (t := 512) (by decide +kernel) hv11 h2 (fun hc => ?_) (fun hc => ?_)
  · replace h := h.2 hc
    obtain ⟨h3, h⟩ := h
    refine r_iinc x_420_512 (by decide +kernel) rfl rfl (lv1 := [(0, .ref a0), (1, g_n v1), (2, g_n v2), (3, g_n v3), (4, g_n v4), (5, g_n v5), (6, g_n v6), (7, g_n v7), (8, g_n v8), (9, g_n v9), (10, g_n (v10 + 1)), (11, g_n v11)]) rfl ?_
    refine r_goto x_420_515 (t := 433) (by decide +kernel) ?_
    refine g_drop [0, 1, 2, 3, 4, 5, 6, 7, 8, 9, 10] (lv1 := [(0, .ref a0), (1, g_n v1), (2, g_n v2), (3, g_n v3), (4, g_n v4), (5, g_n v5), (6, g_n v6), (7, g_n v7), (8, g_n v8), (9, g_n v9), (10, g_n (v10 + 1))]) rfl ?_
    exact h
  · replace h := h.1 hc
    refine r_aload_n x_420_459 rfl ?_
    obtain ⟨hO4, h⟩ := h
    obtain ⟨b5, hb6, h⟩ := h
    refine r_getR x_420_460 rfl (ci := 12) (k := 75) (ns := 0) (by decide +kernel) (by decide) rfl (kz := 75) rfl hO4 hb6 ?_
    refine r_iload x_420_463 rfl ?_
    obtain ⟨n7, hA8, h⟩ := h
    obtain ⟨h9, h⟩ := h
    refine r_bald x_420_465 (Or.inr rfl) hA8 hv10 h9.1 h9.2 ?_
    refine r_if_eq x_420_466 (t := 506) (by decide +kernel) (hok.1 _ _) (fun hc => ?_) (fun hc => ?_)
    · replace h := h.1 hc
      obtain ⟨h10, h⟩ := h
      refine r_iinc x_420_506 (by decide +kernel) rfl rfl (lv1 := [(0, .ref a0), (1, g_n v1), (2, g_n v2), (3, g_n v3), (4, g_n v4), (5, g_n v5), (6, g_n v6), (7, g_n v7), (8, g_n v8), (9, g_n v9), (10, g_n v10), (11, g_n (v11 + 1))]) rfl ?_
      refine r_goto x_420_509 (t := 449) (by decide +kernel) ?_
      exact h
    · replace h := h.2 hc
      refine r_aload_n x_420_469 rfl ?_
      obtain ⟨b11, hb12, h⟩ := h
      refine r_getR x_420_470 rfl (ci := 12) (k := 35) (ns := 0) (by decide +kernel) (by decide) rfl (kz := 35) rfl hO4 hb12 ?_
      refine r_iload x_420_473 rfl ?_
      obtain ⟨n13, hA14, h⟩ := h
      obtain ⟨h15, h⟩ := h
      refine r_bald x_420_475 (Or.inr rfl) hA14 hv11 h15.1 h15.2 ?_
      refine r_if_eq x_420_476 (t := 506) (by decide +kernel) (hok.1 _ _) (fun hc => ?_) (fun hc => ?_)
      · replace h := h.1 hc
        obtain ⟨h16, h⟩ := h
        refine r_iinc x_420_506 (by decide +kernel) rfl rfl (lv1 := [(0, .ref a0), (1, g_n v1), (2, g_n v2), (3, g_n v3), (4, g_n v4), (5, g_n v5), (6, g_n v6), (7, g_n v7), (8, g_n v8), (9, g_n v9), (10, g_n v10), (11, g_n (v11 + 1))]) rfl ?_
        refine r_goto x_420_509 (t := 449) (by decide +kernel) ?_
        exact h
      · replace h := h.2 hc
        refine r_aload_n x_420_479 rfl ?_
        refine r_iload x_420_480 rfl ?_
        refine r_aload_n x_420_482 rfl ?_
        refine r_iload_n x_420_483 rfl ?_
        refine r_iload x_420_484 rfl ?_
        refine r_invV x_420_486 (z := 404) (ns := 0) (by decide +kernel) (as := [g_n v2, g_n v10]) (r := [g_n v11, .ref a0]) rfl rfl rfl hO4 rfl rfl ?_
        refine r_callI h fun r20 M17 hx18 hok19 hr21 h => ?_
        replace h := h hx18 hok19 hr21
        replace hO4 := hO4.up hx18
        replace hA8 := hA8.up hx18
        replace hA14 := hA14.up hx18
        refine r_aload_n x_420_489 rfl ?_
        obtain ⟨b22, hb23, h⟩ := h
        refine r_getR x_420_490 rfl (ci := 12) (k := 72) (ns := 0) (by decide +kernel) (by decide) rfl (kz := 72) rfl hO4 hb23 ?_
        refine r_sipush x_420_493 (x := 200) rfl ?_
        refine r_iload_n x_420_496 rfl ?_
        refine r_imul x_420_497 ?_
        obtain ⟨h24, h⟩ := h
        refine r_iload x_420_498 rfl ?_
        refine r_iadd x_420_500 ?_
        obtain ⟨h25, h⟩ := h
        obtain ⟨n26, hA27, h⟩ := h
        obtain ⟨h28, h⟩ := h
        refine r_iald x_420_501 hA27 h25 h28.1 h28.2 ?_
        refine r_iconst x_420_502 ?_
        refine r_invV x_420_503 (z := 384) (ns := 0) (by decide +kernel) (as := [g_n v11, g_n r20, g_n (g_i M17 b22 ((200 * v2) + v10)), g_n 0]) (r := []) rfl rfl rfl hO4 rfl rfl ?_
        refine r_callV h fun M29 hx30 hok31 h => ?_
        replace h := h hx30 hok31
        replace hO4 := hO4.up hx30
        replace hA8 := hA8.up hx30
        replace hA14 := hA14.up hx30
        replace hA27 := hA27.up hx30
        obtain ⟨h32, h⟩ := h
        refine r_iinc x_420_506 (by decide +kernel) rfl rfl (lv1 := [(0, .ref a0), (1, g_n v1), (2, g_n v2), (3, g_n v3), (4, g_n v4), (5, g_n v5), (6, g_n v6), (7, g_n v7), (8, g_n v8), (9, g_n v9), (10, g_n v10), (11, g_n (v11 + 1))]) rfl ?_
        refine r_goto x_420_509 (t := 449) (by decide +kernel) ?_
        exact h
theorem s_X12_update_521 {d : Nat} {M : g_M} {Q : Int → g_M → Prop} {a0 : Nat} {v1 : Int} (hv1 : g_InR v1) {v2 : Int} (hv2 : g_InR v2) {v3 : Int} (hv3 : g_InR v3) {v4 : Int} (hv4 : g_InR v4) {v5 : Int} (hv5 : g_InR v5) {v6 : Int} (hv6 : g_InR v6) {v7 : Int} (hv7 : g_InR v7) {v8 : Int} (hv8 : g_InR v8) {v9 : Int} (hv9 : g_InR v9) {v10 : Int} (hv10 : g_InR v10) (h : g_ok M → g_O M a0 12 ∧ ∃ b2, g_r M a0 68 = some b2 ∧ ∃ n4, g_A M b2 1 n4 ∧ ((0 : Int) ≤ v2 ∧ (v2 : Int) < n4) ∧ ((v10 < g_i M b2 v2 → ∃ b7, g_r M a0 75 = some b7 ∧ ∃ n9, g_A M b7 2 n9 ∧ ((0 : Int) ≤ v10 ∧ (v10 : Int) < n9) ∧ ((g_i M b7 v10 = 0 → g_InR (v10 + 1) ∧ g_Run d 420 521 [(0, .ref a0), (1, g_n v1), (2, g_n v2), (3, g_n v3), (4, g_n v4), (5, g_n v5), (6, g_n v6), (7, g_n v7), (8, g_n v8), (9, g_n v9), (10, g_n (v10 + 1))] [] M (g_qI Q)) ∧ (¬ g_i M b7 v10 = 0 → g_Call d 404 [.ref a0, g_n v2, g_n v10] M (g_qI fun r15 M12 => g_ext M M12 → g_ok M12 → g_InR r15 → g_Call d 320 [.ref a0, g_n v4, g_n r15] M12 (g_qI fun r20 M17 => g_ext M12 M17 → g_ok M17 → g_InR r20 → g_Call d 404 [.ref a0, g_n v2, g_n v10] M17 (g_qI fun r25 M22 => g_ext M17 M22 → g_ok M22 → g_InR r25 → g_Call d 227 [.ref a0, g_n 922000] M22 (g_qI fun r30 M27 => g_ext M22 M27 → g_ok M27 → g_InR r30 → g_Call d 319 [.ref a0, g_n 922000, g_n r25, g_n r30] M27 (g_qV fun M32 => g_ext M27 M32 → g_ok M32 → g_InR (v10 + 1) ∧ g_Run d 420 521 [(0, .ref a0), (1, g_n v1), (2, g_n v2), (3, g_n v3), (4, g_n v4), (5, g_n v5), (6, g_n v6), (7, g_n v7), (8, g_n v8), (9, g_n v9), (10, g_n (v10 + 1))] [] M32 (g_qI Q))))))))) ∧ (¬ v10 < g_i M b2 v2 → g_Run d 420 589 [(0, .ref a0), (1, g_n v1), (2, g_n v2), (3, g_n v3), (4, g_n v4), (5, g_n v5), (6, g_n v6), (7, g_n v7), (8, g_n v8), (9, g_n v9), (10, g_n 0)] [] M (g_qI Q)))) : g_Run d 420 521 [(0, .ref a0), (1, g_n v1), (2, g_n v2), (3, g_n v3), (4, g_n v4), (5, g_n v5), (6, g_n v6), (7, g_n v7), (8, g_n v8), (9, g_n v9), (10, g_n v10)] [] M (g_qI Q) := by
  refine g_Run.ok fun hok => ?_
  replace h := h hok
  refine r_iload x_420_521 rfl ?_
  refine r_aload_n x_420_523 rfl ?_
  obtain ⟨hO1, h⟩ := h
  obtain ⟨b2, hb3, h⟩ := h
  refine r_getR x_420_524 rfl (ci := 12) (k := 68) (ns := 0) (by decide +kernel) (by decide) rfl (kz := 68) rfl hO1 hb3 ?_
  refine r_iload_n x_420_527 rfl ?_
  obtain ⟨n4, hA5, h⟩ := h
  obtain ⟨h6, h⟩ := h
  refine r_iald x_420_528 hA5 hv2 h6.1 h6.2 ?_
  refine r_ic_ge x_420_529 (t := 586) (by decide +kernel) hv10 (hok.1 _ _) (fun hc => ?_) (fun hc => ?_)
  · replace h := h.2 hc
    refine r_iconst x_420_586 ?_
    refine r_istore x_420_587 (by decide +kernel) rfl (lv1 := [(0, .ref a0), (1, g_n v1), (2, g_n v2), (3, g_n v3), (4, g_n v4), (5, g_n v5), (6, g_n v6), (7, g_n v7), (8, g_n v8), (9, g_n v9), (10, g_n 0)]) rfl ?_
    exact h
  · replace h := h.1 hc
    refine r_aload_n x_420_532 rfl ?_
    obtain ⟨b7, hb8, h⟩ := h
    refine r_getR x_420_533 rfl (ci := 12) (k := 75) (ns := 0) (by decide +kernel) (by decide) rfl (kz := 75) rfl hO1 hb8 ?_
    refine r_iload x_420_536 rfl ?_
    obtain ⟨n9, hA10, h⟩ := h
    obtain ⟨h11, h⟩ := h
    refine r_bald x_420_538 (Or.inr rfl) hA10 hv10 h11.1 h11.2 ?_
    refine r_if_ne x_420_539 (t := 545) (by decide +kernel) (hok.1 _ _) (fun hc => ?_) (fun hc => ?_)
    · replace h := h.2 hc
      refine r_aload_n x_420_545 rfl ?_
      refine r_iload x_420_546 rfl ?_
      refine r_aload_n x_420_548 rfl ?_
      refine r_iload_n x_420_549 rfl ?_
      refine r_iload x_420_550 rfl ?_
      refine r_invV x_420_552 (z := 404) (ns := 0) (by decide +kernel) (as := [g_n v2, g_n v10]) (r := [g_n v4, .ref a0]) rfl rfl rfl hO1 rfl rfl ?_
      refine r_callI h fun r15 M12 hx13 hok14 hr16 h => ?_
      replace h := h hx13 hok14 hr16
      replace hO1 := hO1.up hx13
      replace hA5 := hA5.up hx13
      replace hA10 := hA10.up hx13
      refine r_invV x_420_555 (z := 320) (ns := 0) (by decide +kernel) (as := [g_n v4, g_n r15]) (r := []) rfl rfl rfl hO1 rfl rfl ?_
      refine r_callI h fun r20 M17 hx18 hok19 hr21 h => ?_
      replace h := h hx18 hok19 hr21
      replace hO1 := hO1.up hx18
      replace hA5 := hA5.up hx18
      replace hA10 := hA10.up hx18
      refine r_pop x_420_558 rfl ?_
      refine r_aload_n x_420_559 rfl ?_
      refine r_ldcw x_420_560 (v := g_n 922000) rfl ?_
      refine r_aload_n x_420_563 rfl ?_
      refine r_iload_n x_420_564 rfl ?_
      refine r_iload x_420_565 rfl ?_
      refine r_invV x_420_567 (z := 404) (ns := 0) (by decide +kernel) (as := [g_n v2, g_n v10]) (r := [g_n 922000, .ref a0]) rfl rfl rfl hO1 rfl rfl ?_
      refine r_callI h fun r25 M22 hx23 hok24 hr26 h => ?_
      replace h := h hx23 hok24 hr26
      replace hO1 := hO1.up hx23
      replace hA5 := hA5.up hx23
      replace hA10 := hA10.up hx23
      refine r_aload_n x_420_570 rfl ?_
      refine r_ldcw x_420_571 (v := g_n 922000) rfl ?_
      refine r_invV x_420_574 (z := 227) (ns := 0) (by decide +kernel) (as := [g_n 922000]) (r := [g_n r25, g_n 922000, .ref a0]) rfl rfl rfl hO1 rfl rfl ?_
      refine r_callI h fun r30 M27 hx28 hok29 hr31 h => ?_
      replace h := h hx28 hok29 hr31
      replace hO1 := hO1.up hx28
      replace hA5 := hA5.up hx28
      replace hA10 := hA10.up hx28
      refine r_invV x_420_577 (z := 319) (ns := 0) (by decide +kernel) (as := [g_n 922000, g_n r25, g_n r30]) (r := []) rfl rfl rfl hO1 rfl rfl ?_
      refine r_callV h fun M32 hx33 hok34 h => ?_
      replace h := h hx33 hok34
      replace hO1 := hO1.up hx33
      replace hA5 := hA5.up hx33
      replace hA10 := hA10.up hx33
      obtain ⟨h35, h⟩ := h
      refine r_iinc x_420_580 (by decide +kernel) rfl rfl (lv1 := [(0, .ref a0), (1, g_n v1), (2, g_n v2), (3, g_n v3), (4, g_n v4), (5, g_n v5), (6, g_n v6), (7, g_n v7), (8, g_n v8), (9, g_n v9), (10, g_n (v10 + 1))]) rfl ?_
      refine r_goto x_420_583 (t := 521) (by decide +kernel) ?_
      exact h
    · replace h := h.1 hc
      refine r_goto x_420_542 (t := 580) (by decide +kernel) ?_
      obtain ⟨h36, h⟩ := h
      refine r_iinc x_420_580 (by decide +kernel) rfl rfl (lv1 := [(0, .ref a0), (1, g_n v1), (2, g_n v2), (3, g_n v3), (4, g_n v4), (5, g_n v5), (6, g_n v6), (7, g_n v7), (8, g_n v8), (9, g_n v9), (10, g_n (v10 + 1))]) rfl ?_
      refine r_goto x_420_583 (t := 521) (by decide +kernel) ?_
      exact h
theorem s_X12_update_589 {d : Nat} {M : g_M} {Q : Int → g_M → Prop} {a0 : Nat} {v1 : Int} (hv1 : g_InR v1) {v2 : Int} (hv2 : g_InR v2) {v3 : Int} (hv3 : g_InR v3) {v4 : Int} (hv4 : g_InR v4) {v5 : Int} (hv5 : g_InR v5) {v6 : Int} (hv6 : g_InR v6) {v7 : Int} (hv7 : g_InR v7) {v8 : Int} (hv8 : g_InR v8) {v9 : Int} (hv9 : g_InR v9) {v10 : Int} (hv10 : g_InR v10) (h : g_ok M → g_O M a0 12 ∧ ∃ b2, g_r M a0 68 = some b2 ∧ ∃ n4, g_A M b2 1 n4 ∧ ((0 : Int) ≤ v2 ∧ (v2 : Int) < n4) ∧ ((v10 < g_i M b2 v2 → g_InR (4 * v2) ∧ g_Run d 420 605 [(0, .ref a0), (1, g_n v1), (2, g_n v2), (3, g_n v3), (4, g_n v4), (5, g_n v5), (6, g_n v6), (7, g_n v7), (8, g_n v8), (9, g_n v9), (10, g_n v10), (11, g_n (4 * v2))] [] M (g_qI Q)) ∧ (¬ v10 < g_i M b2 v2 → g_Call d 414 [.ref a0] M (g_qV fun M7 => g_ext M M7 → g_ok M7 → g_Call d 255 [.ref a0, .ref (4 * 128 + 1), g_n v5] M7 (g_qV fun M10 => g_ext M7 M10 → g_ok M10 → g_Call d 255 [.ref a0, .ref (4 * 138 + 1), g_n v8] M10 (g_qV fun M13 => g_ext M10 M13 → g_ok M13 → g_Call d 415 [.ref a0] M13 (g_qI fun r19 M16 => g_ext M13 M16 → g_ok M16 → g_InR r19 → (r19 = 0 ∨ r19 = 1) ∧ Q r19 M16))))))) : g_Run d 420 589 [(0, .ref a0), (1, g_n v1), (2, g_n v2), (3, g_n v3), (4, g_n v4), (5, g_n v5), (6, g_n v6), (7, g_n v7), (8, g_n v8), (9, g_n v9), (10, g_n v10)] [] M (g_qI Q) := by
  refine g_Run.ok fun hok => ?_
  replace h := h hok
  refine r_iload x_420_589 rfl ?_
  refine r_aload_n x_420_591 rfl ?_
  obtain ⟨hO1, h⟩ := h
  obtain ⟨b2, hb3, h⟩ := h
  refine r_getR x_420_592 rfl (ci := 12) (k := 68) (ns := 0) (by decide +kernel) (by decide) rfl (kz := 68) rfl hO1 hb3 ?_
  refine r_iload_n x_420_595 rfl ?_
  obtain ⟨n4, hA5, h⟩ := h
  obtain ⟨h6, h⟩ := h
  refine r_iald x_420_596 hA5 hv2 h6.1 h6.2 ?_
  refine r_ic_ge x_420_597 (t := 690) (by decide +kernel) hv10 (hok.1 _ _) (fun hc => ?_) (fun hc => ?_)
  · replace h := h.2 hc
    refine r_aload_n x_420_690 rfl ?_
    refine r_invV x_420_691 (z := 414) (ns := 0) (by decide +kernel) (as := []) (r := []) rfl rfl rfl hO1 rfl rfl ?_
    refine r_callV h fun M7 hx8 hok9 h => ?_
    replace h := h hx8 hok9
    replace hO1 := hO1.up hx8
    replace hA5 := hA5.up hx8
    refine r_aload_n x_420_694 rfl ?_
    refine r_ldcw x_420_695 (v := .ref (4 * 128 + 1)) rfl ?_
    refine r_iload x_420_698 rfl ?_
    refine r_invV x_420_700 (z := 255) (ns := 0) (by decide +kernel) (as := [.ref (4 * 128 + 1), g_n v5]) (r := []) rfl rfl rfl hO1 rfl rfl ?_
    refine r_callV h fun M10 hx11 hok12 h => ?_
    replace h := h hx11 hok12
    replace hO1 := hO1.up hx11
    replace hA5 := hA5.up hx11
    refine r_aload_n x_420_703 rfl ?_
    refine r_ldcw x_420_704 (v := .ref (4 * 138 + 1)) rfl ?_
    refine r_iload x_420_707 rfl ?_
    refine r_invV x_420_709 (z := 255) (ns := 0) (by decide +kernel) (as := [.ref (4 * 138 + 1), g_n v8]) (r := []) rfl rfl rfl hO1 rfl rfl ?_
    refine r_callV h fun M13 hx14 hok15 h => ?_
    replace h := h hx14 hok15
    replace hO1 := hO1.up hx14
    replace hA5 := hA5.up hx14
    refine r_aload_n x_420_712 rfl ?_
    refine r_invV x_420_713 (z := 415) (ns := 0) (by decide +kernel) (as := []) (r := []) rfl rfl rfl hO1 rfl rfl ?_
    refine r_callI h fun r19 M16 hx17 hok18 hr20 h => ?_
    replace h := h hx17 hok18 hr20
    replace hO1 := hO1.up hx17
    replace hA5 := hA5.up hx17
    obtain ⟨hz, h⟩ := h
    exact r_retZ x_420_716 rfl hz h
  · replace h := h.1 hc
    refine r_iconst x_420_600 ?_
    refine r_iload_n x_420_601 rfl ?_
    refine r_imul x_420_602 ?_
    obtain ⟨h21, h⟩ := h
    refine r_istore x_420_603 (by decide +kernel) rfl (lv1 := [(0, .ref a0), (1, g_n v1), (2, g_n v2), (3, g_n v3), (4, g_n v4), (5, g_n v5), (6, g_n v6), (7, g_n v7), (8, g_n v8), (9, g_n v9), (10, g_n v10), (11, g_n (4 * v2))]) rfl ?_
    exact h
theorem s_X12_update_605 {d : Nat} {M : g_M} {Q : Int → g_M → Prop} {a0 : Nat} {v1 : Int} (hv1 : g_InR v1) {v2 : Int} (hv2 : g_InR v2) {v3 : Int} (hv3 : g_InR v3) {v4 : Int} (hv4 : g_InR v4) {v5 : Int} (hv5 : g_InR v5) {v6 : Int} (hv6 : g_InR v6) {v7 : Int} (hv7 : g_InR v7) {v8 : Int} (hv8 : g_InR v8) {v9 : Int} (hv9 : g_InR v9) {v10 : Int} (hv10 : g_InR v10) {v11 : Int} (hv11 : g_InR v11) (h : g_ok M → g_InR (4 * v2) ∧ g_InR ((4 * v2) + 4) ∧ ((v11 < (4 * v2) + 4 → g_O M a0 12 ∧ ∃ b5, g_r M a0 75 = some b5 ∧ ∃ n7, g_A M b5 2 n7 ∧ ((0 : Int) ≤ v10 ∧ (v10 : Int) < n7) ∧ ((g_i M b5 v10 = 0 → g_InR (v11 + 1) ∧ g_Run d 420 605 [(0, .ref a0), (1, g_n v1), (2, g_n v2), (3, g_n v3), (4, g_n v4), (5, g_n v5), (6, g_n v6), (7, g_n v7), (8, g_n v8), (9, g_n v9), (10, g_n v10), (11, g_n (v11 + 1))] [] M (g_qI Q)) ∧ (¬ g_i M b5 v10 = 0 → ∃ b11, g_r M a0 35 = some b11 ∧ ∃ n13, g_A M b11 2 n13 ∧ ((0 : Int) ≤ v11 ∧ (v11 : Int) < n13) ∧ ((g_i M b11 v11 = 0 → g_InR (v11 + 1) ∧ g_Run d 420 605 [(0, .ref a0), (1, g_n v1), (2, g_n v2), (3, g_n v3), (4, g_n v4), (5, g_n v5), (6, g_n v6), (7, g_n v7), (8, g_n v8), (9, g_n v9), (10, g_n v10), (11, g_n (v11 + 1))] [] M (g_qI Q)) ∧ (¬ g_i M b11 v11 = 0 → g_Call d 404 [.ref a0, g_n v2, g_n v10] M (g_qI fun r19 M16 => g_ext M M16 → g_ok M16 → g_InR r19 → g_Call d 362 [.ref a0, g_n v11, g_n r19] M16 (g_qV fun M21 => g_ext M16 M21 → g_ok M21 → g_Call d 404 [.ref a0, g_n v2, g_n v10] M21 (g_qI fun r27 M24 => g_ext M21 M24 → g_ok M24 → g_InR r27 → ∃ b29, g_r M24 a0 72 = some b29 ∧ g_InR (200 * v2) ∧ g_InR ((200 * v2) + v10) ∧ ∃ n33, g_A M24 b29 1 n33 ∧ ((0 : Int) ≤ (200 * v2) + v10 ∧ ((200 * v2) + v10 : Int) < n33) ∧ g_Call d 384 [.ref a0, g_n v11, g_n r27, g_n (g_i M24 b29 ((200 * v2) + v10)), g_n 1] M24 (g_qV fun M36 => g_ext M24 M36 → g_ok M36 → g_InR (v11 + 1) ∧ g_Run d 420 605 [(0, .ref a0), (1, g_n v1), (2, g_n v2), (3, g_n v3), (4, g_n v4), (5, g_n v5), (6, g_n v6), (7, g_n v7), (8, g_n v8), (9, g_n v9), (10, g_n v10), (11, g_n (v11 + 1))] [] M36 (g_qI Q)))))))))) ∧ (¬ v11 < (4 * v2) + 4 → g_InR (v10 + 1) ∧ g_Run d 420 589 [(0, .ref a0), (1, g_n v1), (2, g_n v2), (3, g_n v3), (4, g_n v4), (5, g_n v5), (6, g_n v6), (7, g_n v7), (8, g_n v8), (9, g_n v9), (10, g_n (v10 + 1))] [] M (g_qI Q)))) : g_Run d 420 605 [(0, .ref a0), (1, g_n v1), (2, g_n v2), (3, g_n v3), (4, g_n v4), (5, g_n v5), (6, g_n v6), (7, g_n v7), (8, g_n v8), (9, g_n v9), (10, g_n v10), (11, g_n v11)] [] M (g_qI Q) := by
  refine g_Run.ok fun hok => ?_
  replace h := h hok
  refine r_iload x_420_605 rfl ?_
  refine r_iconst x_420_607 ?_
  refine r_iload_n x_420_608 rfl ?_
  refine r_imul x_420_609 ?_
  obtain ⟨h1, h⟩ := h
  refine r_iconst x_420_610 ?_
  refine r_iadd x_420_611 ?_
  obtain ⟨h2, h⟩ := h
  refine r_ic_ge x_420_612 (t := 684) (by decide +kernel) hv11 h2 (fun hc => ?_) (fun hc => ?_)
  · replace h := h.2 hc
    obtain ⟨h3, h⟩ := h
    refine r_iinc x_420_684 (by decide +kernel) rfl rfl (lv1 := [(0, .ref a0), (1, g_n v1), (2, g_n v2), (3, g_n v3), (4, g_n v4), (5, g_n v5), (6, g_n v6), (7, g_n v7), (8, g_n v8), (9, g_n v9), (10, g_n (v10 + 1)), (11, g_n v11)]) rfl ?_
    refine r_goto x_420_687 (t := 589) (by decide +kernel) ?_
    refine g_drop [0, 1, 2, 3, 4, 5, 6, 7, 8, 9, 10] (lv1 := [(0, .ref a0), (1, g_n v1), (2, g_n v2), (3, g_n v3), (4, g_n v4), (5, g_n v5), (6, g_n v6), (7, g_n v7), (8, g_n v8), (9, g_n v9), (10, g_n (v10 + 1))]) rfl ?_
    exact h
  · replace h := h.1 hc
    refine r_aload_n x_420_615 rfl ?_
    obtain ⟨hO4, h⟩ := h
    obtain ⟨b5, hb6, h⟩ := h
    refine r_getR x_420_616 rfl (ci := 12) (k := 75) (ns := 0) (by decide +kernel) (by decide) rfl (kz := 75) rfl hO4 hb6 ?_
    refine r_iload x_420_619 rfl ?_
    obtain ⟨n7, hA8, h⟩ := h
    obtain ⟨h9, h⟩ := h
    refine r_bald x_420_621 (Or.inr rfl) hA8 hv10 h9.1 h9.2 ?_
    refine r_if_eq x_420_622 (t := 678) (by decide +kernel) (hok.1 _ _) (fun hc => ?_) (fun hc => ?_)
    · replace h := h.1 hc
      obtain ⟨h10, h⟩ := h
      refine r_iinc x_420_678 (by decide +kernel) rfl rfl (lv1 := [(0, .ref a0), (1, g_n v1), (2, g_n v2), (3, g_n v3), (4, g_n v4), (5, g_n v5), (6, g_n v6), (7, g_n v7), (8, g_n v8), (9, g_n v9), (10, g_n v10), (11, g_n (v11 + 1))]) rfl ?_
      refine r_goto x_420_681 (t := 605) (by decide +kernel) ?_
      exact h
    · replace h := h.2 hc
      refine r_aload_n x_420_625 rfl ?_
      obtain ⟨b11, hb12, h⟩ := h
      refine r_getR x_420_626 rfl (ci := 12) (k := 35) (ns := 0) (by decide +kernel) (by decide) rfl (kz := 35) rfl hO4 hb12 ?_
      refine r_iload x_420_629 rfl ?_
      obtain ⟨n13, hA14, h⟩ := h
      obtain ⟨h15, h⟩ := h
      refine r_bald x_420_631 (Or.inr rfl) hA14 hv11 h15.1 h15.2 ?_
      refine r_if_ne x_420_632 (t := 638) (by decide +kernel) (hok.1 _ _) (fun hc => ?_) (fun hc => ?_)
      · replace h := h.2 hc
        refine r_aload_n x_420_638 rfl ?_
        refine r_iload x_420_639 rfl ?_
        refine r_aload_n x_420_641 rfl ?_
        refine r_iload_n x_420_642 rfl ?_
        refine r_iload x_420_643 rfl ?_
        refine r_invV x_420_645 (z := 404) (ns := 0) (by decide +kernel) (as := [g_n v2, g_n v10]) (r := [g_n v11, .ref a0]) rfl rfl rfl hO4 rfl rfl ?_
        refine r_callI h fun r19 M16 hx17 hok18 hr20 h => ?_
        replace h := h hx17 hok18 hr20
        replace hO4 := hO4.up hx17
        replace hA8 := hA8.up hx17
        replace hA14 := hA14.up hx17
        refine r_invV x_420_648 (z := 362) (ns := 0) (by decide +kernel) (as := [g_n v11, g_n r19]) (r := []) rfl rfl rfl hO4 rfl rfl ?_
        refine r_callV h fun M21 hx22 hok23 h => ?_
        replace h := h hx22 hok23
        replace hO4 := hO4.up hx22
        replace hA8 := hA8.up hx22
        replace hA14 := hA14.up hx22
        refine r_aload_n x_420_651 rfl ?_
        refine r_iload x_420_652 rfl ?_
        refine r_aload_n x_420_654 rfl ?_
        refine r_iload_n x_420_655 rfl ?_
        refine r_iload x_420_656 rfl ?_
        refine r_invV x_420_658 (z := 404) (ns := 0) (by decide +kernel) (as := [g_n v2, g_n v10]) (r := [g_n v11, .ref a0]) rfl rfl rfl hO4 rfl rfl ?_
        refine r_callI h fun r27 M24 hx25 hok26 hr28 h => ?_
        replace h := h hx25 hok26 hr28
        replace hO4 := hO4.up hx25
        replace hA8 := hA8.up hx25
        replace hA14 := hA14.up hx25
        refine r_aload_n x_420_661 rfl ?_
        obtain ⟨b29, hb30, h⟩ := h
        refine r_getR x_420_662 rfl (ci := 12) (k := 72) (ns := 0) (by decide +kernel) (by decide) rfl (kz := 72) rfl hO4 hb30 ?_
        refine r_sipush x_420_665 (x := 200) rfl ?_
        refine r_iload_n x_420_668 rfl ?_
        refine r_imul x_420_669 ?_
        obtain ⟨h31, h⟩ := h
        refine r_iload x_420_670 rfl ?_
        refine r_iadd x_420_672 ?_
        obtain ⟨h32, h⟩ := h
        obtain ⟨n33, hA34, h⟩ := h
        obtain ⟨h35, h⟩ := h
        refine r_iald x_420_673 hA34 h32 h35.1 h35.2 ?_
        refine r_iconst x_420_674 ?_
        refine r_invV x_420_675 (z := 384) (ns := 0) (by decide +kernel) (as := [g_n v11, g_n r27, g_n (g_i M24 b29 ((200 * v2) + v10)), g_n 1]) (r := []) rfl rfl rfl hO4 rfl rfl ?_
        refine r_callV h fun M36 hx37 hok38 h => ?_
        replace h := h hx37 hok38
        replace hO4 := hO4.up hx37
        replace hA8 := hA8.up hx37
        replace hA14 := hA14.up hx37
        replace hA34 := hA34.up hx37
        obtain ⟨h39, h⟩ := h
        refine r_iinc x_420_678 (by decide +kernel) rfl rfl (lv1 := [(0, .ref a0), (1, g_n v1), (2, g_n v2), (3, g_n v3), (4, g_n v4), (5, g_n v5), (6, g_n v6), (7, g_n v7), (8, g_n v8), (9, g_n v9), (10, g_n v10), (11, g_n (v11 + 1))]) rfl ?_
        refine r_goto x_420_681 (t := 605) (by decide +kernel) ?_
        exact h
      · replace h := h.1 hc
        refine r_goto x_420_635 (t := 678) (by decide +kernel) ?_
        obtain ⟨h40, h⟩ := h
        refine r_iinc x_420_678 (by decide +kernel) rfl rfl (lv1 := [(0, .ref a0), (1, g_n v1), (2, g_n v2), (3, g_n v3), (4, g_n v4), (5, g_n v5), (6, g_n v6), (7, g_n v7), (8, g_n v8), (9, g_n v9), (10, g_n v10), (11, g_n (v11 + 1))]) rfl ?_
        refine r_goto x_420_681 (t := 605) (by decide +kernel) ?_
        exact h
theorem m_X12_newIndex {d : Nat} {M : g_M} {Q : Int → g_M → Prop} {a0 : Nat} {v1 : Int} (hv1 : g_InR v1) {v2 : Int} (hv2 : g_InR v2) (h : g_ok M → g_InR (4 * v2) ∧ g_Run d 421 4 [(0, .ref a0), (1, g_n v1), (2, g_n v2), (3, g_n (4 * v2))] [] M (g_qI Q)) : g_Call (d + 1) 421 [.ref a0, g_n v1, g_n v2] M (g_qI Q) := by
  refine g_Call.ok fun hok0 => ?_
  replace h := h hok0
  refine r_body rfl (lv := [(0, .ref a0), (1, g_n v1), (2, g_n v2)]) rfl ?_
  refine g_Run.ok fun hok => ?_
  refine r_iconst x_421_0 ?_
  refine r_iload_n x_421_1 rfl ?_
  refine r_imul x_421_2 ?_
  obtain ⟨h1, h⟩ := h
  refine r_istore_n x_421_3 (by decide +kernel) rfl (lv1 := [(0, .ref a0), (1, g_n v1), (2, g_n v2), (3, g_n (4 * v2))]) rfl ?_
  exact h
theorem s_X12_newIndex_4 {d : Nat} {M : g_M} {Q : Int → g_M → Prop} {a0 : Nat} {v1 : Int} (hv1 : g_InR v1) {v2 : Int} (hv2 : g_InR v2) {v3 : Int} (hv3 : g_InR v3) (h : g_ok M → g_InR (4 * v2) ∧ g_InR ((4 * v2) + 4) ∧ ((v3 < (4 * v2) + 4 → g_O M a0 12 ∧ ∃ b4, g_r M a0 35 = some b4 ∧ ∃ n6, g_A M b4 2 n6 ∧ ((0 : Int) ≤ v3 ∧ (v3 : Int) < n6) ∧ ((g_i M b4 v3 = 0 → g_Run d 421 28 [(0, .ref a0), (1, g_n v1), (2, g_n v2), (3, g_n v3)] [] M (g_qI Q)) ∧ (¬ g_i M b4 v3 = 0 → g_InR (v3 + 1) ∧ g_Run d 421 4 [(0, .ref a0), (1, g_n v1), (2, g_n v2), (3, g_n (v3 + 1))] [] M (g_qI Q)))) ∧ (¬ v3 < (4 * v2) + 4 → g_Run d 421 28 [(0, .ref a0), (1, g_n v1), (2, g_n v2), (3, g_n v3)] [] M (g_qI Q)))) : g_Run d 421 4 [(0, .ref a0), (1, g_n v1), (2, g_n v2), (3, g_n v3)] [] M (g_qI Q) := by
  refine g_Run.ok fun hok => ?_
  replace h := h hok
  refine r_iload_n x_421_4 rfl ?_
  refine r_iconst x_421_5 ?_
  refine r_iload_n x_421_6 rfl ?_
  refine r_imul x_421_7 ?_
  obtain ⟨h1, h⟩ := h
  refine r_iconst x_421_8 ?_
  refine r_iadd x_421_9 ?_
  obtain ⟨h2, h⟩ := h
  refine r_ic_ge x_421_10 (t := 28) (by decide +kernel) hv3 h2 (fun hc => ?_) (fun hc => ?_)
  · replace h := h.2 hc
    exact h
  · replace h := h.1 hc
    refine r_aload_n x_421_13 rfl ?_
    obtain ⟨hO3, h⟩ := h
    obtain ⟨b4, hb5, h⟩ := h
    refine r_getR x_421_14 rfl (ci := 12) (k := 35) (ns := 0) (by decide +kernel) (by decide) rfl (kz := 35) rfl hO3 hb5 ?_
    refine r_iload_n x_421_17 rfl ?_
    obtain ⟨n6, hA7, h⟩ := h
    obtain ⟨h8, h⟩ := h
    refine r_bald x_421_18 (Or.inr rfl) hA7 hv3 h8.1 h8.2 ?_
    refine r_if_eq x_421_19 (t := 28) (by decide +kernel) (hok.1 _ _) (fun hc => ?_) (fun hc => ?_)
    · replace h := h.1 hc
      exact h
    · replace h := h.2 hc
      obtain ⟨h9, h⟩ := h
      refine r_iinc x_421_22 (by decide +kernel) rfl rfl (lv1 := [(0, .ref a0), (1, g_n v1), (2, g_n v2), (3, g_n (v3 + 1))]) rfl ?_
      refine r_goto x_421_25 (t := 4) (by decide +kernel) ?_
      exact h
theorem s_X12_newIndex_28 {d : Nat} {M : g_M} {Q : Int → g_M → Prop} {a0 : Nat} {v1 : Int} (hv1 : g_InR v1) {v2 : Int} (hv2 : g_InR v2) {v3 : Int} (hv3 : g_InR v3) (h : g_ok M → g_InR (4 * v2) ∧ g_InR ((4 * v2) + 4) ∧ ((v3 = (4 * v2) + 4 → g_O M a0 12 ∧ g_Call d 405 [.ref a0, g_n 40, g_n ((-1))] M (g_qI fun r37 M34 => g_ext M M34 → g_ok M34 → g_InR r37 → (r37 = 0 ∨ r37 = 1) ∧ Q r37 M34)) ∧ (¬ v3 = (4 * v2) + 4 → g_O M a0 12 ∧ g_Call d 241 [.ref a0, g_n 0, g_n 2] M (g_qI fun r7 M4 => g_ext M M4 → g_ok M4 → g_InR r7 → g_Call d 233 [.ref a0, g_n r7] M4 (g_qI fun r12 M9 => g_ext M4 M9 → g_ok M9 → g_InR r12 → ∃ b14, g_r M9 a0 36 = some b14 ∧ g_Call d 233 [.ref a0, g_n v1] M9 (g_qI fun r19 M16 => g_ext M9 M16 → g_ok M16 → g_InR r19 → g_Call d 239 [.ref a0, g_n r19] M16 (g_qI fun r24 M21 => g_ext M16 M21 → g_ok M21 → g_InR r24 → ∃ n26, g_A M21 b14 1 n26 ∧ ((0 : Int) ≤ v3 ∧ (v3 : Int) < n26) ∧ (∀ M29, M29 = g_wi M21 b14 v3 r24 → g_ok M29 → g_Run d 421 75 [(0, .ref a0), (1, g_n v1), (2, g_n v2), (3, g_n v3), (4, g_n r12), (5, g_n 0)] [] M29 (g_qI Q))))))))) : g_Run d 421 28 [(0, .ref a0), (1, g_n v1), (2, g_n v2), (3, g_n v3)] [] M (g_qI Q) := by
  refine g_Run.ok fun hok => ?_
  replace h := h hok
  refine r_iload_n x_421_28 rfl ?_
  refine r_iconst x_421_29 ?_
  refine r_iload_n x_421_30 rfl ?_
  refine r_imul x_421_31 ?_
  obtain ⟨h1, h⟩ := h
  refine r_iconst x_421_32 ?_
  refine r_iadd x_421_33 ?_
  obtain ⟨h2, h⟩ := h
  refine r_ic_ne x_421_34 (t := 45) (by decide +kernel) hv3 h2 (fun hc => ?_) (fun hc => ?_)
  · replace h := h.2 hc
    refine r_aload_n x_421_45 rfl ?_
    refine r_aload_n x_421_46 rfl ?_
    refine r_iconst x_421_47 ?_
    refine r_iconst x_421_48 ?_
    obtain ⟨hO3, h⟩ := h
    refine r_invV x_421_49 (z := 241) (ns := 0) (by decide +kernel) (as := [g_n 0, g_n 2]) (r := [.ref a0]) rfl rfl rfl hO3 rfl rfl ?_
    refine r_callI h fun r7 M4 hx5 hok6 hr8 h => ?_
    replace h := h hx5 hok6 hr8
    replace hO3 := hO3.up hx5
    refine r_invV x_421_52 (z := 233) (ns := 0) (by decide +kernel) (as := [g_n r7]) (r := []) rfl rfl rfl hO3 rfl rfl ?_
    refine r_callI h fun r12 M9 hx10 hok11 hr13 h => ?_
    replace h := h hx10 hok11 hr13
    replace hO3 := hO3.up hx10
    refine r_istore x_421_55 (by decide +kernel) rfl (lv1 := [(0, .ref a0), (1, g_n v1), (2, g_n v2), (3, g_n v3), (4, g_n r12)]) rfl ?_
    refine r_aload_n x_421_57 rfl ?_
    obtain ⟨b14, hb15, h⟩ := h
    refine r_getR x_421_58 rfl (ci := 12) (k := 36) (ns := 0) (by decide +kernel) (by decide) rfl (kz := 36) rfl hO3 hb15 ?_
    refine r_iload_n x_421_61 rfl ?_
    refine r_aload_n x_421_62 rfl ?_
    refine r_aload_n x_421_63 rfl ?_
    refine r_iload_n x_421_64 rfl ?_
    refine r_invV x_421_65 (z := 233) (ns := 0) (by decide +kernel) (as := [g_n v1]) (r := [.ref a0, g_n v3, .ref b14]) rfl rfl rfl hO3 rfl rfl ?_
    refine r_callI h fun r19 M16 hx17 hok18 hr20 h => ?_
    replace h := h hx17 hok18 hr20
    replace hO3 := hO3.up hx17
    refine r_invV x_421_68 (z := 239) (ns := 0) (by decide +kernel) (as := [g_n r19]) (r := [g_n v3, .ref b14]) rfl rfl rfl hO3 rfl rfl ?_
    refine r_callI h fun r24 M21 hx22 hok23 hr25 h => ?_
    replace h := h hx22 hok23 hr25
    replace hO3 := hO3.up hx22
    obtain ⟨n26, hA27, h⟩ := h
    obtain ⟨h28, h⟩ := h
    refine r_iast x_421_71 hA27 hv3 h28.1 h28.2 hr25 ?_
    obtain ⟨M29, hM30⟩ : ∃ Mz, Mz = g_wi M21 b14 v3 r24 := ⟨_, rfl⟩
    rw [← hM30]
    refine g_Run.ok fun hok31 => ?_
    replace h := h M29 hM30 hok31
    have hx32 := g_extW hM30
    replace hO3 := hO3.up hx32
    replace hA27 := hA27.up hx32
    refine r_iconst x_421_72 ?_
    refine r_istore x_421_73 (by decide +kernel) rfl (lv1 := [(0, .ref a0), (1, g_n v1), (2, g_n v2), (3, g_n v3), (4, g_n r12), (5, g_n 0)]) rfl ?_
    exact h
  · replace h := h.1 hc
    refine r_aload_n x_421_37 rfl ?_
    refine r_bipush x_421_38 (x := 40) rfl ?_
    refine r_iconst x_421_40 ?_
    obtain ⟨hO33, h⟩ := h
    refine r_invV x_421_41 (z := 405) (ns := 0) (by decide +kernel) (as := [g_n 40, g_n ((-1))]) (r := []) rfl rfl rfl hO33 rfl rfl ?_
    refine r_callI h fun r37 M34 hx35 hok36 hr38 h => ?_
    replace h := h hx35 hok36 hr38
    replace hO33 := hO33.up hx35
    obtain ⟨hz, h⟩ := h
    exact r_retZ x_421_44 rfl hz h
theorem s_X12_newIndex_75 {d : Nat} {M : g_M} {Q : Int → g_M → Prop} {a0 : Nat} {v1 : Int} (hv1 : g_InR v1) {v2 : Int} (hv2 : g_InR v2) {v3 : Int} (hv3 : g_InR v3) {v4 : Int} (hv4 : g_InR v4) {v5 : Int} (hv5 : g_InR v5) (h : g_ok M → ((v5 < 2 → g_O M a0 12 ∧ ∃ b7, g_r M a0 39 = some b7 ∧ g_InR (2 * v3) ∧ g_InR ((2 * v3) + v5) ∧ ∃ n11, g_A M b7 2 n11 ∧ ((0 : Int) ≤ (2 * v3) + v5 ∧ ((2 * v3) + v5 : Int) < n11) ∧ (∀ M14, M14 = g_wi M b7 ((2 * v3) + v5) 0 → g_ok M14 → ∃ b18, g_r M14 a0 38 = some b18 ∧ g_InR (2 * v3) ∧ g_InR ((2 * v3) + v5) ∧ ∃ n22, g_A M14 b18 2 n22 ∧ ((0 : Int) ≤ (2 * v3) + v5 ∧ ((2 * v3) + v5 : Int) < n22) ∧ (∀ M25, M25 = g_wi M14 b18 ((2 * v3) + v5) 0 → g_ok M25 → ∃ b29, g_r M25 a0 36 = some b29 ∧ ∃ n31, g_A M25 b29 1 n31 ∧ ((0 : Int) ≤ v3 ∧ (v3 : Int) < n31) ∧ ((v5 = g_i M25 b29 v3 → g_InR (v5 + 1) ∧ g_Run d 421 75 [(0, .ref a0), (1, g_n v1), (2, g_n v2), (3, g_n v3), (4, g_n v4), (5, g_n (v5 + 1))] [] M25 (g_qI Q)) ∧ (¬ v5 = g_i M25 b29 v3 → g_Call d 233 [.ref a0, g_n v1] M25 (g_qI fun r37 M34 => g_ext M25 M34 → g_ok M34 → g_InR r37 → g_Call d 241 [.ref a0, g_n r37, g_n v5] M34 (g_qI fun r42 M39 => g_ext M34 M39 → g_ok M39 → g_InR r42 → g_Call d 322 [.ref a0, g_n r42] M39 (g_qI fun r47 M44 => g_ext M39 M44 → g_ok M44 → g_InR r47 → g_Call d 233 [.ref a0, g_n r42] M44 (g_qI fun r52 M49 => g_ext M44 M49 → g_ok M49 → g_InR r52 → g_InR (r47 - r52) ∧ g_InR ((r47 - r52) - 4) ∧ g_Call d 233 [.ref a0, g_n r42] M49 (g_qI fun r59 M56 => g_ext M49 M56 → g_ok M56 → g_InR r59 → g_InR (r59 + 4) ∧ g_Call d 358 [.ref a0, g_n v3, g_n v5] M56 (g_qI fun r65 M62 => g_ext M56 M62 → g_ok M62 → g_InR r65 → g_Call d 319 [.ref a0, g_n (r59 + 4), g_n r65, g_n ((r47 - r52) - 4)] M62 (g_qV fun M67 => g_ext M62 M67 → g_ok M67 → ∃ b70, g_r M67 a0 37 = some b70 ∧ g_InR (2 * v3) ∧ g_InR ((2 * v3) + v5) ∧ g_Call d 358 [.ref a0, g_n v3, g_n v5] M67 (g_qI fun r77 M74 => g_ext M67 M74 → g_ok M74 → g_InR r77 → g_InR (r77 + ((r47 - r52) - 4)) ∧ ∃ n80, g_A M74 b70 1 n80 ∧ ((0 : Int) ≤ (2 * v3) + v5 ∧ ((2 * v3) + v5 : Int) < n80) ∧ (∀ M83, M83 = g_wi M74 b70 ((2 * v3) + v5) (r77 + ((r47 - r52) - 4)) → g_ok M83 → ∃ b87, g_r M83 a0 38 = some b87 ∧ g_InR (2 * v3) ∧ g_InR ((2 * v3) + v5) ∧ g_Call d 241 [.ref a0, g_n v4, g_n v5] M83 (g_qI fun r94 M91 => g_ext M83 M91 → g_ok M91 → g_InR r94 → g_Call d 233 [.ref a0, g_n r94] M91 (g_qI fun r99 M96 => g_ext M91 M96 → g_ok M96 → g_InR r99 → g_Call d 226 [.ref a0, g_n r99] M96 (g_qI fun r104 M101 => g_ext M96 M101 → g_ok M101 → g_InR r104 → ((r104 = 1 → ∃ n114, g_A M101 b87 2 n114 ∧ ((0 : Int) ≤ (2 * v3) + v5 ∧ ((2 * v3) + v5 : Int) < n114) ∧ (∀ M117, M117 = g_wi M101 b87 ((2 * v3) + v5) 1 → g_ok M117 → g_InR (v5 + 1) ∧ g_Run d 421 75 [(0, .ref a0), (1, g_n v1), (2, g_n v2), (3, g_n v3), (4, g_n v4), (5, g_n (v5 + 1))] [] M117 (g_qI Q))) ∧ (¬ r104 = 1 → ∃ n106, g_A M101 b87 2 n106 ∧ ((0 : Int) ≤ (2 * v3) + v5 ∧ ((2 * v3) + v5 : Int) < n106) ∧ (∀ M109, M109 = g_wi M101 b87 ((2 * v3) + v5) 0 → g_ok M109 → g_InR (v5 + 1) ∧ g_Run d 421 75 [(0, .ref a0), (1, g_n v1), (2, g_n v2), (3, g_n v3), (4, g_n v4), (5, g_n (v5 + 1))] [] M109 (g_qI Q))))))))))))))))))))) ∧ (¬ v5 < 2 → g_O M a0 12 ∧ (∀ M2, M2 = g_wi M a0 40 0 → g_ok M2 → g_Run d 421 250 [(0, .ref a0), (1, g_n v1), (2, g_n v2), (3, g_n v3), (4, g_n v4), (5, g_n 0), (6, g_n (g_i M a0 10)), (7, g_n 0)] [] M2 (g_qI Q))))) : g_Run d 421 75 [(0, .ref a0), (1, g_n v1), (2, g_n v2), (3, g_n v3), (4, g_n v4), (5, g_n v5)] [] M (g_qI Q) := by
  refine g_Run.ok fun hok => ?_
  replace h := h hok
  refine r_iload x_421_75 rfl ?_
  refine r_iconst x_421_77 ?_
  refine r_ic_ge x_421_78 (t := 233) (by decide +kernel) hv5 (g_Rk rfl) (fun hc => ?_) (fun hc => ?_)
  · replace h := h.2 hc
    refine r_iconst x_421_233 ?_
    refine r_istore x_421_234 (by decide +kernel) rfl (lv1 := [(0, .ref a0), (1, g_n v1), (2, g_n v2), (3, g_n v3), (4, g_n v4), (5, g_n 0)]) rfl ?_
    refine r_aload_n x_421_236 rfl ?_
    obtain ⟨hO1, h⟩ := h
    refine r_getI x_421_237 rfl (ci := 12) (k := 10) (ns := 0) (by decide +kernel) (by decide) rfl (kz := 10) rfl hO1 ?_
    refine r_istore x_421_240 (by decide +kernel) rfl (lv1 := [(0, .ref a0), (1, g_n v1), (2, g_n v2), (3, g_n v3), (4, g_n v4), (5, g_n 0), (6, g_n (g_i M a0 10))]) rfl ?_
    refine r_aload_n x_421_242 rfl ?_
    refine r_iconst x_421_243 ?_
    refine r_putI x_421_244 (ci := 12) (k := 40) (ns := 0) (by decide +kernel) (by decide) (g_fZ (Or.inl rfl) (by decide +kernel)) rfl (g_Rk rfl) (g_zx (Or.inl rfl) rfl).2 (kz := 40) rfl hO1 ?_
    obtain ⟨M2, hM3⟩ : ∃ Mz, Mz = g_wi M a0 40 0 := ⟨_, rfl⟩
    rw [← hM3]
    refine g_Run.ok fun hok4 => ?_
    replace h := h M2 hM3 hok4
    have hx5 := g_extW hM3
    replace hO1 := hO1.up hx5
    refine r_iconst x_421_247 ?_
    refine r_istore x_421_248 (by decide +kernel) rfl (lv1 := [(0, .ref a0), (1, g_n v1), (2, g_n v2), (3, g_n v3), (4, g_n v4), (5, g_n 0), (6, g_n (g_i M a0 10)), (7, g_n 0)]) rfl ?_
    exact h
  · replace h := h.1 hc
    refine r_aload_n x_421_81 rfl ?_
    obtain ⟨hO6, h⟩ := h
    obtain ⟨b7, hb8, h⟩ := h
    refine r_getR x_421_82 rfl (ci := 12) (k := 39) (ns := 0) (by decide +kernel) (by decide) rfl (kz := 39) rfl hO6 hb8 ?_
    refine r_iconst x_421_85 ?_
    refine r_iload_n x_421_86 rfl ?_
    refine r_imul x_421_87 ?_
    obtain ⟨h9, h⟩ := h
    refine r_iload x_421_88 rfl ?_
    refine r_iadd x_421_90 ?_
    obtain ⟨h10, h⟩ := h
    refine r_iconst x_421_91 ?_
    obtain ⟨n11, hA12, h⟩ := h
    obtain ⟨h13, h⟩ := h
    refine r_bast2 x_421_92 hA12 h10 h13.1 h13.2 (Or.inl rfl) ?_
    obtain ⟨M14, hM15⟩ : ∃ Mz, Mz = g_wi M b7 ((2 * v3) + v5) 0 := ⟨_, rfl⟩
    rw [← hM15]
    refine g_Run.ok fun hok16 => ?_
    replace h := h M14 hM15 hok16
    have hx17 := g_extW hM15
    replace hO6 := hO6.up hx17
    replace hA12 := hA12.up hx17
    refine r_aload_n x_421_93 rfl ?_
    obtain ⟨b18, hb19, h⟩ := h
    refine r_getR x_421_94 rfl (ci := 12) (k := 38) (ns := 0) (by decide +kernel) (by decide) rfl (kz := 38) rfl hO6 hb19 ?_
    refine r_iconst x_421_97 ?_
    refine r_iload_n x_421_98 rfl ?_
    refine r_imul x_421_99 ?_
    obtain ⟨h20, h⟩ := h
    refine r_iload x_421_100 rfl ?_
    refine r_iadd x_421_102 ?_
    obtain ⟨h21, h⟩ := h
    refine r_iconst x_421_103 ?_
    obtain ⟨n22, hA23, h⟩ := h
    obtain ⟨h24, h⟩ := h
    refine r_bast2 x_421_104 hA23 h21 h24.1 h24.2 (Or.inl rfl) ?_
    obtain ⟨M25, hM26⟩ : ∃ Mz, Mz = g_wi M14 b18 ((2 * v3) + v5) 0 := ⟨_, rfl⟩
    rw [← hM26]
    refine g_Run.ok fun hok27 => ?_
    replace h := h M25 hM26 hok27
    have hx28 := g_extW hM26
    replace hO6 := hO6.up hx28
    replace hA12 := hA12.up hx28
    replace hA23 := hA23.up hx28
    refine r_iload x_421_105 rfl ?_
    refine r_aload_n x_421_107 rfl ?_
    obtain ⟨b29, hb30, h⟩ := h
    refine r_getR x_421_108 rfl (ci := 12) (k := 36) (ns := 0) (by decide +kernel) (by decide) rfl (kz := 36) rfl hO6 hb30 ?_
    refine r_iload_n x_421_111 rfl ?_
    obtain ⟨n31, hA32, h⟩ := h
    obtain ⟨h33, h⟩ := h
    refine r_iald x_421_112 hA32 hv3 h33.1 h33.2 ?_
    refine r_ic_ne x_421_113 (t := 119) (by decide +kernel) hv5 (hok27.1 _ _) (fun hc => ?_) (fun hc => ?_)
    · replace h := h.2 hc
      refine r_aload_n x_421_119 rfl ?_
      refine r_aload_n x_421_120 rfl ?_
      refine r_iload_n x_421_121 rfl ?_
      refine r_invV x_421_122 (z := 233) (ns := 0) (by decide +kernel) (as := [g_n v1]) (r := [.ref a0]) rfl rfl rfl hO6 rfl rfl ?_
      refine r_callI h fun r37 M34 hx35 hok36 hr38 h => ?_
      replace h := h hx35 hok36 hr38
      replace hO6 := hO6.up hx35
      replace hA12 := hA12.up hx35
      replace hA23 := hA23.up hx35
      replace hA32 := hA32.up hx35
      refine r_iload x_421_125 rfl ?_
      refine r_invV x_421_127 (z := 241) (ns := 0) (by decide +kernel) (as := [g_n r37, g_n v5]) (r := []) rfl rfl rfl hO6 rfl rfl ?_
      refine r_callI h fun r42 M39 hx40 hok41 hr43 h => ?_
      replace h := h hx40 hok41 hr43
      replace hO6 := hO6.up hx40
      replace hA12 := hA12.up hx40
      replace hA23 := hA23.up hx40
      replace hA32 := hA32.up hx40
      refine r_istore x_421_130 (by decide +kernel) rfl (lv1 := [(0, .ref a0), (1, g_n v1), (2, g_n v2), (3, g_n v3), (4, g_n v4), (5, g_n v5), (6, g_n r42)]) rfl ?_
      refine r_aload_n x_421_132 rfl ?_
      refine r_iload x_421_133 rfl ?_
      refine r_invV x_421_135 (z := 322) (ns := 0) (by decide +kernel) (as := [g_n r42]) (r := []) rfl rfl rfl hO6 rfl rfl ?_
      refine r_callI h fun r47 M44 hx45 hok46 hr48 h => ?_
      replace h := h hx45 hok46 hr48
      replace hO6 := hO6.up hx45
      replace hA12 := hA12.up hx45
      replace hA23 := hA23.up hx45
      replace hA32 := hA32.up hx45
      refine r_aload_n x_421_138 rfl ?_
      refine r_iload x_421_139 rfl ?_
      refine r_invV x_421_141 (z := 233) (ns := 0) (by decide +kernel) (as := [g_n r42]) (r := [g_n r47]) rfl rfl rfl hO6 rfl rfl ?_
      refine r_callI h fun r52 M49 hx50 hok51 hr53 h => ?_
      replace h := h hx50 hok51 hr53
      replace hO6 := hO6.up hx50
      replace hA12 := hA12.up hx50
      replace hA23 := hA23.up hx50
      replace hA32 := hA32.up hx50
      refine r_isub x_421_144 ?_
      obtain ⟨h54, h⟩ := h
      refine r_iconst x_421_145 ?_
      refine r_isub x_421_146 ?_
      obtain ⟨h55, h⟩ := h
      refine r_istore x_421_147 (by decide +kernel) rfl (lv1 := [(0, .ref a0), (1, g_n v1), (2, g_n v2), (3, g_n v3), (4, g_n v4), (5, g_n v5), (6, g_n r42), (7, g_n ((r47 - r52) - 4))]) rfl ?_
      refine r_aload_n x_421_149 rfl ?_
      refine r_aload_n x_421_150 rfl ?_
      refine r_iload x_421_151 rfl ?_
      refine r_invV x_421_153 (z := 233) (ns := 0) (by decide +kernel) (as := [g_n r42]) (r := [.ref a0]) rfl rfl rfl hO6 rfl rfl ?_
      refine r_callI h fun r59 M56 hx57 hok58 hr60 h => ?_
      replace h := h hx57 hok58 hr60
      replace hO6 := hO6.up hx57
      replace hA12 := hA12.up hx57
      replace hA23 := hA23.up hx57
      replace hA32 := hA32.up hx57
      refine r_iconst x_421_156 ?_
      refine r_iadd x_421_157 ?_
      obtain ⟨h61, h⟩ := h
      refine r_aload_n x_421_158 rfl ?_
      refine r_iload_n x_421_159 rfl ?_
      refine r_iload x_421_160 rfl ?_
      refine r_invV x_421_162 (z := 358) (ns := 0) (by decide +kernel) (as := [g_n v3, g_n v5]) (r := [g_n (r59 + 4), .ref a0]) rfl rfl rfl hO6 rfl rfl ?_
      refine r_callI h fun r65 M62 hx63 hok64 hr66 h => ?_
      replace h := h hx63 hok64 hr66
      replace hO6 := hO6.up hx63
      replace hA12 := hA12.up hx63
      replace hA23 := hA23.up hx63
      replace hA32 := hA32.up hx63
      refine r_iload x_421_165 rfl ?_
      refine r_invV x_421_167 (z := 319) (ns := 0) (by decide +kernel) (as := [g_n (r59 + 4), g_n r65, g_n ((r47 - r52) - 4)]) (r := []) rfl rfl rfl hO6 rfl rfl ?_
      refine r_callV h fun M67 hx68 hok69 h => ?_
      replace h := h hx68 hok69
      replace hO6 := hO6.up hx68
      replace hA12 := hA12.up hx68
      replace hA23 := hA23.up hx68
      replace hA32 := hA32.up hx68
      refine r_aload_n x_421_170 rfl ?_
      obtain ⟨b70, hb71, h⟩ := h
      refine r_getR x_421_171 rfl (ci := 12) (k := 37) (ns := 0) (by decide +kernel) (by decide) rfl (kz := 37) rfl hO6 hb71 ?_
      refine r_iconst x_421_174 ?_
      refine r_iload_n x_421_175 rfl ?_
      refine r_imul x_421_176 ?_
      obtain ⟨h72, h⟩ := h
      refine r_iload x_421_177 rfl ?_
      refine r_iadd x_421_179 ?_
      obtain ⟨h73, h⟩ := h
      refine r_aload_n x_421_180 rfl ?_
      refine r_iload_n x_421_181 rfl ?_
      refine r_iload x_421_182 rfl ?_
      refine r_invV x_421_184 (z := 358) (ns := 0) (by decide +kernel) (as := [g_n v3, g_n v5]) (r := [g_n ((2 * v3) + v5), .ref b70]) rfl rfl rfl hO6 rfl rfl ?_
      refine r_callI h fun r77 M74 hx75 hok76 hr78 h => ?_
      replace h := h hx75 hok76 hr78
      replace hO6 := hO6.up hx75
      replace hA12 := hA12.up hx75
      replace hA23 := hA23.up hx75
      replace hA32 := hA32.up hx75
      refine r_iload x_421_187 rfl ?_
      refine r_iadd x_421_189 ?_
      obtain ⟨h79, h⟩ := h
      obtain ⟨n80, hA81, h⟩ := h
      obtain ⟨h82, h⟩ := h
      refine r_iast x_421_190 hA81 h73 h82.1 h82.2 h79 ?_
      obtain ⟨M83, hM84⟩ : ∃ Mz, Mz = g_wi M74 b70 ((2 * v3) + v5) (r77 + ((r47 - r52) - 4)) := ⟨_, rfl⟩
      rw [← hM84]
      refine g_Run.ok fun hok85 => ?_
      replace h := h M83 hM84 hok85
      have hx86 := g_extW hM84
      replace hO6 := hO6.up hx86
      replace hA12 := hA12.up hx86
      replace hA23 := hA23.up hx86
      replace hA32 := hA32.up hx86
      replace hA81 := hA81.up hx86
      refine r_aload_n x_421_191 rfl ?_
      obtain ⟨b87, hb88, h⟩ := h
      refine r_getR x_421_192 rfl (ci := 12) (k := 38) (ns := 0) (by decide +kernel) (by decide) rfl (kz := 38) rfl hO6 hb88 ?_
      refine r_iconst x_421_195 ?_
      refine r_iload_n x_421_196 rfl ?_
      refine r_imul x_421_197 ?_
      obtain ⟨h89, h⟩ := h
      refine r_iload x_421_198 rfl ?_
      refine r_iadd x_421_200 ?_
      obtain ⟨h90, h⟩ := h
      refine r_aload_n x_421_201 rfl ?_
      refine r_aload_n x_421_202 rfl ?_
      refine r_aload_n x_421_203 rfl ?_
      refine r_iload x_421_204 rfl ?_
      refine r_iload x_421_206 rfl ?_
      refine r_invV x_421_208 (z := 241) (ns := 0) (by decide +kernel) (as := [g_n v4, g_n v5]) (r := [.ref a0, .ref a0, g_n ((2 * v3) + v5), .ref b87]) rfl rfl rfl hO6 rfl rfl ?_
      refine r_callI h fun r94 M91 hx92 hok93 hr95 h => ?_
      replace h := h hx92 hok93 hr95
      replace hO6 := hO6.up hx92
      replace hA12 := hA12.up hx92
      replace hA23 := hA23.up hx92
      replace hA32 := hA32.up hx92
      replace hA81 := hA81.up hx92
      refine r_invV x_421_211 (z := 233) (ns := 0) (by decide +kernel) (as := [g_n r94]) (r := [.ref a0, g_n ((2 * v3) + v5), .ref b87]) rfl rfl rfl hO6 rfl rfl ?_
      refine r_callI h fun r99 M96 hx97 hok98 hr100 h => ?_
      replace h := h hx97 hok98 hr100
      replace hO6 := hO6.up hx97
      replace hA12 := hA12.up hx97
      replace hA23 := hA23.up hx97
      replace hA32 := hA32.up hx97
      replace hA81 := hA81.up hx97
      refine r_invV x_421_214 (z := 226) (ns := 0) (by decide +kernel) (as := [g_n r99]) (r := [g_n ((2 * v3) + v5), .ref b87]) rfl rfl rfl hO6 rfl rfl ?_
      refine r_callI h fun r104 M101 hx102 hok103 hr105 h => ?_
      replace h := h hx102 hok103 hr105
      replace hO6 := hO6.up hx102
      replace hA12 := hA12.up hx102
      replace hA23 := hA23.up hx102
      replace hA32 := hA32.up hx102
      replace hA81 := hA81.up hx102
      refine r_iconst x_421_217 ?_
      refine r_ic_ne x_421_218 (t := 225) (by decide +kernel) hr105 (g_Rk rfl) (fun hc => ?_) (fun hc => ?_)
      · replace h := h.2 hc
        refine r_iconst x_421_225 ?_
        obtain ⟨n106, hA107, h⟩ := h
        obtain ⟨h108, h⟩ := h
        refine r_bast2 x_421_226 hA107 h90 h108.1 h108.2 (Or.inl rfl) ?_
        obtain ⟨M109, hM110⟩ : ∃ Mz, Mz = g_wi M101 b87 ((2 * v3) + v5) 0 := ⟨_, rfl⟩
        rw [← hM110]
        refine g_Run.ok fun hok111 => ?_
        replace h := h M109 hM110 hok111
        have hx112 := g_extW hM110
        replace hO6 := hO6.up hx112
        replace hA12 := hA12.up hx112
        replace hA23 := hA23.up hx112
        replace hA32 := hA32.up hx112
        replace hA81 := hA81.up hx112
        replace hA107 := hA107.up hx112
        obtain ⟨h113, h⟩ := h
        refine r_iinc x_421_227 (by decide +kernel) rfl rfl (lv1 := [(0, .ref a0), (1, g_n v1), (2, g_n v2), (3, g_n v3), (4, g_n v4), (5, g_n (v5 + 1)), (6, g_n r42), (7, g_n ((r47 - r52) - 4))]) rfl ?_
        refine r_goto x_421_230 (t := 75) (by decide +kernel) ?_
        refine g_drop [0, 1, 2, 3, 4, 5] (lv1 := [(0, .ref a0), (1, g_n v1), (2, g_n v2), (3, g_n v3), (4, g_n v4), (5, g_n (v5 + 1))]) rfl ?_
        exact h
      · replace h := h.1 hc
        refine r_iconst x_421_221 ?_
        refine r_goto x_421_222 (t := 226) (by decide +kernel) ?_
        obtain ⟨n114, hA115, h⟩ := h
        obtain ⟨h116, h⟩ := h
        refine r_bast2 x_421_226 hA115 h90 h116.1 h116.2 (Or.inr rfl) ?_
        obtain ⟨M117, hM118⟩ : ∃ Mz, Mz = g_wi M101 b87 ((2 * v3) + v5) 1 := ⟨_, rfl⟩
        rw [← hM118]
        refine g_Run.ok fun hok119 => ?_
        replace h := h M117 hM118 hok119
        have hx120 := g_extW hM118
        replace hO6 := hO6.up hx120
        replace hA12 := hA12.up hx120
        replace hA23 := hA23.up hx120
        replace hA32 := hA32.up hx120
        replace hA81 := hA81.up hx120
        replace hA115 := hA115.up hx120
        obtain ⟨h121, h⟩ := h
        refine r_iinc x_421_227 (by decide +kernel) rfl rfl (lv1 := [(0, .ref a0), (1, g_n v1), (2, g_n v2), (3, g_n v3), (4, g_n v4), (5, g_n (v5 + 1)), (6, g_n r42), (7, g_n ((r47 - r52) - 4))]) rfl ?_
        refine r_goto x_421_230 (t := 75) (by decide +kernel) ?_
        refine g_drop [0, 1, 2, 3, 4, 5] (lv1 := [(0, .ref a0), (1, g_n v1), (2, g_n v2), (3, g_n v3), (4, g_n v4), (5, g_n (v5 + 1))]) rfl ?_
        exact h
    · replace h := h.1 hc
      refine r_goto x_421_116 (t := 227) (by decide +kernel) ?_
      obtain ⟨h122, h⟩ := h
      refine r_iinc x_421_227 (by decide +kernel) rfl rfl (lv1 := [(0, .ref a0), (1, g_n v1), (2, g_n v2), (3, g_n v3), (4, g_n v4), (5, g_n (v5 + 1))]) rfl ?_
      refine r_goto x_421_230 (t := 75) (by decide +kernel) ?_
      exact h
theorem s_X12_newIndex_250 {d : Nat} {M : g_M} {Q : Int → g_M → Prop} {a0 : Nat} {v1 : Int} (hv1 : g_InR v1) {v2 : Int} (hv2 : g_InR v2) {v3 : Int} (hv3 : g_InR v3) {v4 : Int} (hv4 : g_InR v4) {v5 : Int} (hv5 : g_InR v5) {v6 : Int} (hv6 : g_InR v6) {v7 : Int} (hv7 : g_InR v7) (h : g_ok M → g_O M a0 12 ∧ ∃ b2, g_r M a0 68 = some b2 ∧ ∃ n4, g_A M b2 1 n4 ∧ ((0 : Int) ≤ v2 ∧ (v2 : Int) < n4) ∧ ((v7 < g_i M b2 v2 → g_Call d 404 [.ref a0, g_n v2, g_n v7] M (g_qI fun r32 M29 => g_ext M M29 → g_ok M29 → g_InR r32 → g_Call d 361 [.ref a0, g_n v3, g_n r32] M29 (g_qI fun r37 M34 => g_ext M29 M34 → g_ok M34 → g_InR r37 → g_InR (v5 + r37) ∧ (∀ M40, M40 = g_wi M34 a0 10 v6 → g_ok M40 → g_InR (v7 + 1) ∧ g_Run d 421 250 [(0, .ref a0), (1, g_n v1), (2, g_n v2), (3, g_n v3), (4, g_n v4), (5, g_n (v5 + r37)), (6, g_n v6), (7, g_n (v7 + 1))] [] M40 (g_qI Q))))) ∧ (¬ v7 < g_i M b2 v2 → ((1000 < v5 → g_Call d 405 [.ref a0, g_n 40, g_n ((-1))] M (g_qI fun r10 M7 => g_ext M M7 → g_ok M7 → g_InR r10 → (r10 = 0 ∨ r10 = 1) ∧ Q r10 M7)) ∧ (¬ 1000 < v5 → ((g_i M a0 40 = 0 → ∃ b12, g_r M a0 35 = some b12 ∧ ∃ n14, g_A M b12 2 n14 ∧ ((0 : Int) ≤ v3 ∧ (v3 : Int) < n14) ∧ (∀ M17, M17 = g_wi M b12 v3 1 → g_ok M17 → g_Call d 371 [.ref a0, g_n v3] M17 (g_qV fun M21 => g_ext M17 M21 → g_ok M21 → g_Run d 421 328 [(0, .ref a0), (1, g_n v1), (2, g_n v2), (3, g_n v3), (4, g_n v4), (5, g_n v5), (6, g_n v6), (7, g_n 0)] [] M21 (g_qI Q)))) ∧ (¬ g_i M a0 40 = 0 → g_Call d 405 [.ref a0, g_n 40, g_n ((-1))] M (g_qI fun r27 M24 => g_ext M M24 → g_ok M24 → g_InR r27 → (r27 = 0 ∨ r27 = 1) ∧ Q r27 M24)))))))) : g_Run d 421 250 [(0, .ref a0), (1, g_n v1), (2, g_n v2), (3, g_n v3), (4, g_n v4), (5, g_n v5), (6, g_n v6), (7, g_n v7)] [] M (g_qI Q) := by
  refine g_Run.ok fun hok => ?_
  replace h := h hok
  refine r_iload x_421_250 rfl ?_
  refine r_aload_n x_421_252 rfl ?_
  obtain ⟨hO1, h⟩ := h
  obtain ⟨b2, hb3, h⟩ := h
  refine r_getR x_421_253 rfl (ci := 12) (k := 68) (ns := 0) (by decide +kernel) (by decide) rfl (kz := 68) rfl hO1 hb3 ?_
  refine r_iload_n x_421_256 rfl ?_
  obtain ⟨n4, hA5, h⟩ := h
  obtain ⟨h6, h⟩ := h
  refine r_iald x_421_257 hA5 hv2 h6.1 h6.2 ?_
  refine r_ic_ge x_421_258 (t := 290) (by decide +kernel) hv7 (hok.1 _ _) (fun hc => ?_) (fun hc => ?_)
  · replace h := h.2 hc
    refine r_iload x_421_290 rfl ?_
    refine r_sipush x_421_292 (x := 1000) rfl ?_
    refine r_ic_gt x_421_295 (t := 305) (by decide +kernel) hv5 (g_Rk rfl) (fun hc => ?_) (fun hc => ?_)
    · replace h := h.1 hc
      refine r_aload_n x_421_305 rfl ?_
      refine r_bipush x_421_306 (x := 40) rfl ?_
      refine r_iconst x_421_308 ?_
      refine r_invV x_421_309 (z := 405) (ns := 0) (by decide +kernel) (as := [g_n 40, g_n ((-1))]) (r := []) rfl rfl rfl hO1 rfl rfl ?_
      refine r_callI h fun r10 M7 hx8 hok9 hr11 h => ?_
      replace h := h hx8 hok9 hr11
      replace hO1 := hO1.up hx8
      replace hA5 := hA5.up hx8
      obtain ⟨hz, h⟩ := h
      exact r_retZ x_421_312 rfl hz h
    · replace h := h.2 hc
      refine r_aload_n x_421_298 rfl ?_
      refine r_getI x_421_299 rfl (ci := 12) (k := 40) (ns := 0) (by decide +kernel) (by decide) rfl (kz := 40) rfl hO1 ?_
      refine r_if_eq x_421_302 (t := 313) (by decide +kernel) (hok.1 _ _) (fun hc => ?_) (fun hc => ?_)
      · replace h := h.1 hc
        refine r_aload_n x_421_313 rfl ?_
        obtain ⟨b12, hb13, h⟩ := h
        refine r_getR x_421_314 rfl (ci := 12) (k := 35) (ns := 0) (by decide +kernel) (by decide) rfl (kz := 35) rfl hO1 hb13 ?_
        refine r_iload_n x_421_317 rfl ?_
        refine r_iconst x_421_318 ?_
        obtain ⟨n14, hA15, h⟩ := h
        obtain ⟨h16, h⟩ := h
        refine r_bast2 x_421_319 hA15 hv3 h16.1 h16.2 (Or.inr rfl) ?_
        obtain ⟨M17, hM18⟩ : ∃ Mz, Mz = g_wi M b12 v3 1 := ⟨_, rfl⟩
        rw [← hM18]
        refine g_Run.ok fun hok19 => ?_
        replace h := h M17 hM18 hok19
        have hx20 := g_extW hM18
        replace hO1 := hO1.up hx20
        replace hA5 := hA5.up hx20
        replace hA15 := hA15.up hx20
        refine r_aload_n x_421_320 rfl ?_
        refine r_iload_n x_421_321 rfl ?_
        refine r_invV x_421_322 (z := 371) (ns := 0) (by decide +kernel) (as := [g_n v3]) (r := []) rfl rfl rfl hO1 rfl rfl ?_
        refine r_callV h fun M21 hx22 hok23 h => ?_
        replace h := h hx22 hok23
        replace hO1 := hO1.up hx22
        replace hA5 := hA5.up hx22
        replace hA15 := hA15.up hx22
        refine r_iconst x_421_325 ?_
        refine r_istore x_421_326 (by decide +kernel) rfl (lv1 := [(0, .ref a0), (1, g_n v1), (2, g_n v2), (3, g_n v3), (4, g_n v4), (5, g_n v5), (6, g_n v6), (7, g_n 0)]) rfl ?_
        exact h
      · replace h := h.2 hc
        refine r_aload_n x_421_305 rfl ?_
        refine r_bipush x_421_306 (x := 40) rfl ?_
        refine r_iconst x_421_308 ?_
        refine r_invV x_421_309 (z := 405) (ns := 0) (by decide +kernel) (as := [g_n 40, g_n ((-1))]) (r := []) rfl rfl rfl hO1 rfl rfl ?_
        refine r_callI h fun r27 M24 hx25 hok26 hr28 h => ?_
        replace h := h hx25 hok26 hr28
        replace hO1 := hO1.up hx25
        replace hA5 := hA5.up hx25
        obtain ⟨hz, h⟩ := h
        exact r_retZ x_421_312 rfl hz h
  · replace h := h.1 hc
    refine r_iload x_421_261 rfl ?_
    refine r_aload_n x_421_263 rfl ?_
    refine r_iload_n x_421_264 rfl ?_
    refine r_aload_n x_421_265 rfl ?_
    refine r_iload_n x_421_266 rfl ?_
    refine r_iload x_421_267 rfl ?_
    refine r_invV x_421_269 (z := 404) (ns := 0) (by decide +kernel) (as := [g_n v2, g_n v7]) (r := [g_n v3, .ref a0, g_n v5]) rfl rfl rfl hO1 rfl rfl ?_
    refine r_callI h fun r32 M29 hx30 hok31 hr33 h => ?_
    replace h := h hx30 hok31 hr33
    replace hO1 := hO1.up hx30
    replace hA5 := hA5.up hx30
    refine r_invV x_421_272 (z := 361) (ns := 0) (by decide +kernel) (as := [g_n v3, g_n r32]) (r := [g_n v5]) rfl rfl rfl hO1 rfl rfl ?_
    refine r_callI h fun r37 M34 hx35 hok36 hr38 h => ?_
    replace h := h hx35 hok36 hr38
    replace hO1 := hO1.up hx35
    replace hA5 := hA5.up hx35
    refine r_iadd x_421_275 ?_
    obtain ⟨h39, h⟩ := h
    refine r_istore x_421_276 (by decide +kernel) rfl (lv1 := [(0, .ref a0), (1, g_n v1), (2, g_n v2), (3, g_n v3), (4, g_n v4), (5, g_n (v5 + r37)), (6, g_n v6), (7, g_n v7)]) rfl ?_
    refine r_aload_n x_421_278 rfl ?_
    refine r_iload x_421_279 rfl ?_
    refine r_putI x_421_281 (ci := 12) (k := 10) (ns := 0) (by decide +kernel) (by decide) (g_f0 (by decide +kernel)) rfl hv6 trivial (kz := 10) rfl hO1 ?_
    obtain ⟨M40, hM41⟩ : ∃ Mz, Mz = g_wi M34 a0 10 v6 := ⟨_, rfl⟩
    rw [← hM41]
    refine g_Run.ok fun hok42 => ?_
    replace h := h M40 hM41 hok42
    have hx43 := g_extW hM41
    replace hO1 := hO1.up hx43
    replace hA5 := hA5.up hx43
    obtain ⟨h44, h⟩ := h
    refine r_iinc x_421_284 (by decide +kernel) rfl rfl (lv1 := [(0, .ref a0), (1, g_n v1), (2, g_n v2), (3, g_n v3), (4, g_n v4), (5, g_n (v5 + r37)), (6, g_n v6), (7, g_n (v7 + 1))]) rfl ?_
    refine r_goto x_421_287 (t := 250) (by decide +kernel) ?_
    exact h
theorem s_X12_newIndex_328 {d : Nat} {M : g_M} {Q : Int → g_M → Prop} {a0 : Nat} {v1 : Int} (hv1 : g_InR v1) {v2 : Int} (hv2 : g_InR v2) {v3 : Int} (hv3 : g_InR v3) {v4 : Int} (hv4 : g_InR v4) {v5 : Int} (hv5 : g_InR v5) {v6 : Int} (hv6 : g_InR v6) {v7 : Int} (hv7 : g_InR v7) (h : g_ok M → g_O M a0 12 ∧ ∃ b2, g_r M a0 68 = some b2 ∧ ∃ n4, g_A M b2 1 n4 ∧ ((0 : Int) ≤ v2 ∧ (v2 : Int) < n4) ∧ ((v7 < g_i M b2 v2 → g_Call d 404 [.ref a0, g_n v2, g_n v7] M (g_qI fun r23 M20 => g_ext M M20 → g_ok M20 → g_InR r23 → g_Call d 362 [.ref a0, g_n v3, g_n r23] M20 (g_qV fun M25 => g_ext M20 M25 → g_ok M25 → g_Call d 404 [.ref a0, g_n v2, g_n v7] M25 (g_qI fun r31 M28 => g_ext M25 M28 → g_ok M28 → g_InR r31 → ∃ b33, g_r M28 a0 72 = some b33 ∧ g_InR (200 * v2) ∧ g_InR ((200 * v2) + v7) ∧ ∃ n37, g_A M28 b33 1 n37 ∧ ((0 : Int) ≤ (200 * v2) + v7 ∧ ((200 * v2) + v7 : Int) < n37) ∧ g_Call d 384 [.ref a0, g_n v3, g_n r31, g_n (g_i M28 b33 ((200 * v2) + v7)), g_n 1] M28 (g_qV fun M40 => g_ext M28 M40 → g_ok M40 → g_InR (v7 + 1) ∧ g_Run d 421 328 [(0, .ref a0), (1, g_n v1), (2, g_n v2), (3, g_n v3), (4, g_n v4), (5, g_n v5), (6, g_n v6), (7, g_n (v7 + 1))] [] M40 (g_qI Q)))))) ∧ (¬ v7 < g_i M b2 v2 → g_Call d 414 [.ref a0] M (g_qV fun M7 => g_ext M M7 → g_ok M7 → g_InR (4 * v2) ∧ g_InR (v3 - (4 * v2)) ∧ g_Call d 255 [.ref a0, .ref (4 * 82 + 1), g_n (v3 - (4 * v2))] M7 (g_qV fun M12 => g_ext M7 M12 → g_ok M12 → g_Call d 415 [.ref a0] M12 (g_qI fun r18 M15 => g_ext M12 M15 → g_ok M15 → g_InR r18 → (r18 = 0 ∨ r18 = 1) ∧ Q r18 M15)))))) : g_Run d 421 328 [(0, .ref a0), (1, g_n v1), (2, g_n v2), (3, g_n v3), (4, g_n v4), (5, g_n v5), (6, g_n v6), (7, g_n v7)] [] M (g_qI Q) := by
  refine g_Run.ok fun hok => ?_
  replace h := h hok
  refine r_iload x_421_328 rfl ?_
  refine r_aload_n x_421_330 rfl ?_
  obtain ⟨hO1, h⟩ := h
  obtain ⟨b2, hb3, h⟩ := h
  refine r_getR x_421_331 rfl (ci := 12) (k := 68) (ns := 0) (by decide +kernel) (by decide) rfl (kz := 68) rfl hO1 hb3 ?_
  refine r_iload_n x_421_334 rfl ?_
  obtain ⟨n4, hA5, h⟩ := h
  obtain ⟨h6, h⟩ := h
  refine r_iald x_421_335 hA5 hv2 h6.1 h6.2 ?_
  refine r_ic_ge x_421_336 (t := 383) (by decide +kernel) hv7 (hok.1 _ _) (fun hc => ?_) (fun hc => ?_)
  · replace h := h.2 hc
    refine r_aload_n x_421_383 rfl ?_
    refine r_invV x_421_384 (z := 414) (ns := 0) (by decide +kernel) (as := []) (r := []) rfl rfl rfl hO1 rfl rfl ?_
    refine r_callV h fun M7 hx8 hok9 h => ?_
    replace h := h hx8 hok9
    replace hO1 := hO1.up hx8
    replace hA5 := hA5.up hx8
    refine r_aload_n x_421_387 rfl ?_
    refine r_ldcw x_421_388 (v := .ref (4 * 82 + 1)) rfl ?_
    refine r_iload_n x_421_391 rfl ?_
    refine r_iconst x_421_392 ?_
    refine r_iload_n x_421_393 rfl ?_
    refine r_imul x_421_394 ?_
    obtain ⟨h10, h⟩ := h
    refine r_isub x_421_395 ?_
    obtain ⟨h11, h⟩ := h
    refine r_invV x_421_396 (z := 255) (ns := 0) (by decide +kernel) (as := [.ref (4 * 82 + 1), g_n (v3 - (4 * v2))]) (r := []) rfl rfl rfl hO1 rfl rfl ?_
    refine r_callV h fun M12 hx13 hok14 h => ?_
    replace h := h hx13 hok14
    replace hO1 := hO1.up hx13
    replace hA5 := hA5.up hx13
    refine r_aload_n x_421_399 rfl ?_
    refine r_invV x_421_400 (z := 415) (ns := 0) (by decide +kernel) (as := []) (r := []) rfl rfl rfl hO1 rfl rfl ?_
    refine r_callI h fun r18 M15 hx16 hok17 hr19 h => ?_
    replace h := h hx16 hok17 hr19
    replace hO1 := hO1.up hx16
    replace hA5 := hA5.up hx16
    obtain ⟨hz, h⟩ := h
    exact r_retZ x_421_403 rfl hz h
  · replace h := h.1 hc
    refine r_aload_n x_421_339 rfl ?_
    refine r_iload_n x_421_340 rfl ?_
    refine r_aload_n x_421_341 rfl ?_
    refine r_iload_n x_421_342 rfl ?_
    refine r_iload x_421_343 rfl ?_
    refine r_invV x_421_345 (z := 404) (ns := 0) (by decide +kernel) (as := [g_n v2, g_n v7]) (r := [g_n v3, .ref a0]) rfl rfl rfl hO1 rfl rfl ?_
    refine r_callI h fun r23 M20 hx21 hok22 hr24 h => ?_
    replace h := h hx21 hok22 hr24
    replace hO1 := hO1.up hx21
    replace hA5 := hA5.up hx21
    refine r_invV x_421_348 (z := 362) (ns := 0) (by decide +kernel) (as := [g_n v3, g_n r23]) (r := []) rfl rfl rfl hO1 rfl rfl ?_
    refine r_callV h fun M25 hx26 hok27 h => ?_
    replace h := h hx26 hok27
    replace hO1 := hO1.up hx26
    replace hA5 := hA5.up hx26
    refine r_aload_n x_421_351 rfl ?_
    refine r_iload_n x_421_352 rfl ?_
    refine r_aload_n x_421_353 rfl ?_
    refine r_iload_n x_421_354 rfl ?_
    refine r_iload x_421_355 rfl ?_
    refine r_invV x_421_357 (z := 404) (ns := 0) (by decide +kernel) (as := [g_n v2, g_n v7]) (r := [g_n v3, .ref a0]) rfl rfl rfl hO1 rfl rfl ?_
    refine r_callI h fun r31 M28 hx29 hok30 hr32 h => ?_
    replace h := h hx29 hok30 hr32
    replace hO1 := hO1.up hx29
    replace hA5 := hA5.up hx29
    refine r_aload_n x_421_360 rfl ?_
    obtain ⟨b33, hb34, h⟩ := h
    refine r_getR x_421_361 rfl (ci := 12) (k := 72) (ns := 0) (by decide +kernel) (by decide) rfl (kz := 72) rfl hO1 hb34 ?_
    refine r_sipush x_421_364 (x := 200) rfl ?_
    refine r_iload_n x_421_367 rfl ?_
    refine r_imul x_421_368 ?_
    obtain ⟨h35, h⟩ := h
    refine r_iload x_421_369 rfl ?_
    refine r_iadd x_421_371 ?_
    obtain ⟨h36, h⟩ := h
    obtain ⟨n37, hA38, h⟩ := h
    obtain ⟨h39, h⟩ := h
    refine r_iald x_421_372 hA38 h36 h39.1 h39.2 ?_
    refine r_iconst x_421_373 ?_
    refine r_invV x_421_374 (z := 384) (ns := 0) (by decide +kernel) (as := [g_n v3, g_n r31, g_n (g_i M28 b33 ((200 * v2) + v7)), g_n 1]) (r := []) rfl rfl rfl hO1 rfl rfl ?_
    refine r_callV h fun M40 hx41 hok42 h => ?_
    replace h := h hx41 hok42
    replace hO1 := hO1.up hx41
    replace hA5 := hA5.up hx41
    replace hA38 := hA38.up hx41
    obtain ⟨h43, h⟩ := h
    refine r_iinc x_421_377 (by decide +kernel) rfl rfl (lv1 := [(0, .ref a0), (1, g_n v1), (2, g_n v2), (3, g_n v3), (4, g_n v4), (5, g_n v5), (6, g_n v6), (7, g_n (v7 + 1))]) rfl ?_
    refine r_goto x_421_380 (t := 328) (by decide +kernel) ?_
    exact h
theorem m_X12_withIndex {d : Nat} {M : g_M} {Q : Int → g_M → Prop} {a0 : Nat} {v1 : Int} (hv1 : g_InR v1) {v2 : Int} (hv2 : g_InR v2) (h : g_ok M → g_O M a0 12 ∧ g_Call d 243 [.ref a0, g_n v1] M (g_qL fun R5 M2 => g_ext M M2 → g_ok M2 → ((g_lc R5 0 < 0 → g_Call d 405 [.ref a0, g_n 41, g_n ((-1))] M2 (g_qI fun r9 M6 => g_ext M2 M6 → g_ok M6 → g_InR r9 → (r9 = 0 ∨ r9 = 1) ∧ Q r9 M6)) ∧ (¬ g_lc R5 0 < 0 → ((0 < g_lc R5 3 → g_Call d 405 [.ref a0, g_n 41, g_n ((-1))] M2 (g_qI fun r14 M11 => g_ext M2 M11 → g_ok M11 → g_InR r14 → (r14 = 0 ∨ r14 = 1) ∧ Q r14 M11)) ∧ (¬ 0 < g_lc R5 3 → ∃ b16, g_r M2 a0 35 = some b16 ∧ g_InR (4 * v2) ∧ g_InR ((4 * v2) + R5.toInt32.toInt) ∧ ∃ n20, g_A M2 b16 2 n20 ∧ ((0 : Int) ≤ (4 * v2) + R5.toInt32.toInt ∧ ((4 * v2) + R5.toInt32.toInt : Int) < n20) ∧ ((g_i M2 b16 ((4 * v2) + R5.toInt32.toInt) = 0 → g_Call d 405 [.ref a0, g_n 41, g_n ((-1))] M2 (g_qI fun r109 M106 => g_ext M2 M106 → g_ok M106 → g_InR r109 → (r109 = 0 ∨ r109 = 1) ∧ Q r109 M106)) ∧ (¬ g_i M2 b16 ((4 * v2) + R5.toInt32.toInt) = 0 → g_InR (4 * v2) ∧ g_InR ((4 * v2) + R5.toInt32.toInt) ∧ g_Call d 414 [.ref a0] M2 (g_qV fun M25 => g_ext M2 M25 → g_ok M25 → g_Call d 236 [.ref a0, g_n v1, .ref (4 * 79 + 1)] M25 (g_qI fun r31 M28 => g_ext M25 M28 → g_ok M28 → g_InR r31 → ((r31 = 0 → ∃ b33, g_r M28 a0 54 = some b33 ∧ ∃ n35, g_A M28 b33 1 n35 ∧ ((0 : Int) ≤ (4 * v2) + R5.toInt32.toInt ∧ ((4 * v2) + R5.toInt32.toInt : Int) < n35) ∧ g_Call d 255 [.ref a0, .ref (4 * 87 + 1), g_n (g_i M28 b33 ((4 * v2) + R5.toInt32.toInt))] M28 (g_qV fun M38 => g_ext M28 M38 → g_ok M38 → g_Call d 386 [.ref a0, g_n ((4 * v2) + R5.toInt32.toInt)] M38 (g_qI fun r44 M41 => g_ext M38 M41 → g_ok M41 → g_InR r44 → g_Call d 255 [.ref a0, .ref (4 * 88 + 1), g_n r44] M41 (g_qV fun M46 => g_ext M41 M46 → g_ok M46 → g_Call d 387 [.ref a0, g_n ((4 * v2) + R5.toInt32.toInt), g_n 1] M46 (g_qI fun r52 M49 => g_ext M46 M49 → g_ok M49 → g_InR r52 → g_Call d 255 [.ref a0, .ref (4 * 89 + 1), g_n r52] M49 (g_qV fun M54 => g_ext M49 M54 → g_ok M54 → g_Call d 387 [.ref a0, g_n ((4 * v2) + R5.toInt32.toInt), g_n 0] M54 (g_qI fun r60 M57 => g_ext M54 M57 → g_ok M57 → g_InR r60 → g_Call d 255 [.ref a0, .ref (4 * 90 + 1), g_n r60] M57 (g_qV fun M62 => g_ext M57 M62 → g_ok M62 → ∃ b65, g_r M62 a0 39 = some b65 ∧ g_InR (2 * ((4 * v2) + R5.toInt32.toInt)) ∧ ∃ n68, g_A M62 b65 2 n68 ∧ ((0 : Int) ≤ 2 * ((4 * v2) + R5.toInt32.toInt) ∧ (2 * ((4 * v2) + R5.toInt32.toInt) : Int) < n68) ∧ g_Call d 256 [.ref a0, .ref (4 * 91 + 1), g_n (g_i M62 b65 (2 * ((4 * v2) + R5.toInt32.toInt)))] M62 (g_qV fun M71 => g_ext M62 M71 → g_ok M71 → ∃ b74, g_r M71 a0 39 = some b74 ∧ g_InR (2 * ((4 * v2) + R5.toInt32.toInt)) ∧ g_InR ((2 * ((4 * v2) + R5.toInt32.toInt)) + 1) ∧ ∃ n78, g_A M71 b74 2 n78 ∧ ((0 : Int) ≤ (2 * ((4 * v2) + R5.toInt32.toInt)) + 1 ∧ ((2 * ((4 * v2) + R5.toInt32.toInt)) + 1 : Int) < n78) ∧ g_Call d 256 [.ref a0, .ref (4 * 92 + 1), g_n (g_i M71 b74 ((2 * ((4 * v2) + R5.toInt32.toInt)) + 1))] M71 (g_qV fun M81 => g_ext M71 M81 → g_ok M81 → g_Call d 415 [.ref a0] M81 (g_qI fun r87 M84 => g_ext M81 M84 → g_ok M84 → g_InR r87 → (r87 = 0 ∨ r87 = 1) ∧ Q r87 M84))))))))))) ∧ (¬ r31 = 0 → ∃ b89, g_r M28 a0 35 = some b89 ∧ ∃ n91, g_A M28 b89 2 n91 ∧ ((0 : Int) ≤ (4 * v2) + R5.toInt32.toInt ∧ ((4 * v2) + R5.toInt32.toInt : Int) < n91) ∧ (∀ M94, M94 = g_wi M28 b89 ((4 * v2) + R5.toInt32.toInt) 0 → g_ok M94 → g_Call d 256 [.ref a0, .ref (4 * 86 + 1), g_n 1] M94 (g_qV fun M98 => g_ext M94 M98 → g_ok M98 → g_Call d 415 [.ref a0] M98 (g_qI fun r104 M101 => g_ext M98 M101 → g_ok M101 → g_InR r104 → (r104 = 0 ∨ r104 = 1) ∧ Q r104 M101))))))))))))))) : g_Call (d + 1) 422 [.ref a0, g_n v1, g_n v2] M (g_qI Q) := by
  refine g_Call.ok fun hok0 => ?_
  replace h := h hok0
  refine r_body rfl (lv := [(0, .ref a0), (1, g_n v1), (2, g_n v2)]) rfl ?_
  refine g_Run.ok fun hok => ?_
  refine r_aload_n x_422_0 rfl ?_
  refine r_iload_n x_422_1 rfl ?_
  obtain ⟨hO1, h⟩ := h
  refine r_invV x_422_2 (z := 243) (ns := 0) (by decide +kernel) (as := [g_n v1]) (r := []) rfl rfl rfl hO1 rfl rfl ?_
  refine r_callL h fun R5 M2 hx3 hok4 h => ?_
  replace h := h hx3 hok4
  replace hO1 := hO1.up hx3
  refine r_lstore_n x_422_5 (by decide +kernel) rfl (lv1 := [(0, .ref a0), (1, g_n v1), (2, g_n v2), (3, .long R5)]) rfl ?_
  refine r_lload_n x_422_6 rfl ?_
  refine r_lconst x_422_7 ?_
  show g_Run d 422 8 [(0, .ref a0), (1, g_n v1), (2, g_n v2), (3, .long R5)] [.long 0, .long R5] M2 _
  refine r_lcmp x_422_8 ?_
  refine r_if_lt x_422_9 (t := 34) (by decide +kernel) (g_InR_toInt _) (fun hc => ?_) (fun hc => ?_)
  · replace h := h.1 hc
    refine r_aload_n x_422_34 rfl ?_
    refine r_bipush x_422_35 (x := 41) rfl ?_
    refine r_iconst x_422_37 ?_
    refine r_invV x_422_38 (z := 405) (ns := 0) (by decide +kernel) (as := [g_n 41, g_n ((-1))]) (r := []) rfl rfl rfl hO1 rfl rfl ?_
    refine r_callI h fun r9 M6 hx7 hok8 hr10 h => ?_
    replace h := h hx7 hok8 hr10
    replace hO1 := hO1.up hx7
    obtain ⟨hz, h⟩ := h
    exact r_retZ x_422_41 rfl hz h
  · replace h := h.2 hc
    refine r_lload_n x_422_12 rfl ?_
    refine r_ldc2 x_422_13 (X := 3) rfl ?_
    refine r_lcmp x_422_16 ?_
    refine r_if_gt x_422_17 (t := 34) (by decide +kernel) (g_InR_toInt _) (fun hc => ?_) (fun hc => ?_)
    · replace h := h.1 hc
      refine r_aload_n x_422_34 rfl ?_
      refine r_bipush x_422_35 (x := 41) rfl ?_
      refine r_iconst x_422_37 ?_
      refine r_invV x_422_38 (z := 405) (ns := 0) (by decide +kernel) (as := [g_n 41, g_n ((-1))]) (r := []) rfl rfl rfl hO1 rfl rfl ?_
      refine r_callI h fun r14 M11 hx12 hok13 hr15 h => ?_
      replace h := h hx12 hok13 hr15
      replace hO1 := hO1.up hx12
      obtain ⟨hz, h⟩ := h
      exact r_retZ x_422_41 rfl hz h
    · replace h := h.2 hc
      refine r_aload_n x_422_20 rfl ?_
      obtain ⟨b16, hb17, h⟩ := h
      refine r_getR x_422_21 rfl (ci := 12) (k := 35) (ns := 0) (by decide +kernel) (by decide) rfl (kz := 35) rfl hO1 hb17 ?_
      refine r_iconst x_422_24 ?_
      refine r_iload_n x_422_25 rfl ?_
      refine r_imul x_422_26 ?_
      obtain ⟨h18, h⟩ := h
      refine r_lload_n x_422_27 rfl ?_
      refine r_l2i x_422_28 ?_
      refine r_iadd x_422_29 ?_
      obtain ⟨h19, h⟩ := h
      obtain ⟨n20, hA21, h⟩ := h
      obtain ⟨h22, h⟩ := h
      refine r_bald x_422_30 (Or.inr rfl) hA21 h19 h22.1 h22.2 ?_
      refine r_if_ne x_422_31 (t := 42) (by decide +kernel) (hok4.1 _ _) (fun hc => ?_) (fun hc => ?_)
      · replace h := h.2 hc
        refine r_iconst x_422_42 ?_
        refine r_iload_n x_422_43 rfl ?_
        refine r_imul x_422_44 ?_
        obtain ⟨h23, h⟩ := h
        refine r_lload_n x_422_45 rfl ?_
        refine r_l2i x_422_46 ?_
        refine r_iadd x_422_47 ?_
        obtain ⟨h24, h⟩ := h
        refine r_istore x_422_48 (by decide +kernel) rfl (lv1 := [(0, .ref a0), (1, g_n v1), (2, g_n v2), (3, .long R5), (5, g_n ((4 * v2) + R5.toInt32.toInt))]) rfl ?_
        refine r_aload_n x_422_50 rfl ?_
        refine r_invV x_422_51 (z := 414) (ns := 0) (by decide +kernel) (as := []) (r := []) rfl rfl rfl hO1 rfl rfl ?_
        refine r_callV h fun M25 hx26 hok27 h => ?_
        replace h := h hx26 hok27
        replace hO1 := hO1.up hx26
        replace hA21 := hA21.up hx26
        refine r_aload_n x_422_54 rfl ?_
        refine r_iload_n x_422_55 rfl ?_
        refine r_ldcw x_422_56 (v := .ref (4 * 79 + 1)) rfl ?_
        refine r_invV x_422_59 (z := 236) (ns := 0) (by decide +kernel) (as := [g_n v1, .ref (4 * 79 + 1)]) (r := []) rfl rfl rfl hO1 rfl rfl ?_
        refine r_callI h fun r31 M28 hx29 hok30 hr32 h => ?_
        replace h := h hx29 hok30 hr32
        replace hO1 := hO1.up hx29
        replace hA21 := hA21.up hx29
        refine r_if_eq x_422_62 (t := 84) (by decide +kernel) hr32 (fun hc => ?_) (fun hc => ?_)
        · replace h := h.1 hc
          refine r_aload_n x_422_84 rfl ?_
          refine r_ldcw x_422_85 (v := .ref (4 * 87 + 1)) rfl ?_
          refine r_aload_n x_422_88 rfl ?_
          obtain ⟨b33, hb34, h⟩ := h
          refine r_getR x_422_89 rfl (ci := 12) (k := 54) (ns := 0) (by decide +kernel) (by decide) rfl (kz := 54) rfl hO1 hb34 ?_
          refine r_iload x_422_92 rfl ?_
          obtain ⟨n35, hA36, h⟩ := h
          obtain ⟨h37, h⟩ := h
          refine r_iald x_422_94 hA36 h24 h37.1 h37.2 ?_
          refine r_invV x_422_95 (z := 255) (ns := 0) (by decide +kernel) (as := [.ref (4 * 87 + 1), g_n (g_i M28 b33 ((4 * v2) + R5.toInt32.toInt))]) (r := []) rfl rfl rfl hO1 rfl rfl ?_
          refine r_callV h fun M38 hx39 hok40 h => ?_
          replace h := h hx39 hok40
          replace hO1 := hO1.up hx39
          replace hA21 := hA21.up hx39
          replace hA36 := hA36.up hx39
          refine r_aload_n x_422_98 rfl ?_
          refine r_ldcw x_422_99 (v := .ref (4 * 88 + 1)) rfl ?_
          refine r_aload_n x_422_102 rfl ?_
          refine r_iload x_422_103 rfl ?_
          refine r_invV x_422_105 (z := 386) (ns := 0) (by decide +kernel) (as := [g_n ((4 * v2) + R5.toInt32.toInt)]) (r := [.ref (4 * 88 + 1), .ref a0]) rfl rfl rfl hO1 rfl rfl ?_
          refine r_callI h fun r44 M41 hx42 hok43 hr45 h => ?_
          replace h := h hx42 hok43 hr45
          replace hO1 := hO1.up hx42
          replace hA21 := hA21.up hx42
          replace hA36 := hA36.up hx42
          refine r_invV x_422_108 (z := 255) (ns := 0) (by decide +kernel) (as := [.ref (4 * 88 + 1), g_n r44]) (r := []) rfl rfl rfl hO1 rfl rfl ?_
          refine r_callV h fun M46 hx47 hok48 h => ?_
          replace h := h hx47 hok48
          replace hO1 := hO1.up hx47
          replace hA21 := hA21.up hx47
          replace hA36 := hA36.up hx47
          refine r_aload_n x_422_111 rfl ?_
          refine r_ldcw x_422_112 (v := .ref (4 * 89 + 1)) rfl ?_
          refine r_aload_n x_422_115 rfl ?_
          refine r_iload x_422_116 rfl ?_
          refine r_iconst x_422_118 ?_
          refine r_invV x_422_119 (z := 387) (ns := 0) (by decide +kernel) (as := [g_n ((4 * v2) + R5.toInt32.toInt), g_n 1]) (r := [.ref (4 * 89 + 1), .ref a0]) rfl rfl rfl hO1 rfl rfl ?_
          refine r_callI h fun r52 M49 hx50 hok51 hr53 h => ?_
          replace h := h hx50 hok51 hr53
          replace hO1 := hO1.up hx50
          replace hA21 := hA21.up hx50
          replace hA36 := hA36.up hx50
          refine r_invV x_422_122 (z := 255) (ns := 0) (by decide +kernel) (as := [.ref (4 * 89 + 1), g_n r52]) (r := []) rfl rfl rfl hO1 rfl rfl ?_
          refine r_callV h fun M54 hx55 hok56 h => ?_
          replace h := h hx55 hok56
          replace hO1 := hO1.up hx55
          replace hA21 := hA21.up hx55
          replace hA36 := hA36.up hx55
          refine r_aload_n x_422_125 rfl ?_
          refine r_ldcw x_422_126 (v := .ref (4 * 90 + 1)) rfl ?_
          refine r_aload_n x_422_129 rfl ?_
          refine r_iload x_422_130 rfl ?_
          refine r_iconst x_422_132 ?_
          refine r_invV x_422_133 (z := 387) (ns := 0) (by decide +kernel) (as := [g_n ((4 * v2) + R5.toInt32.toInt), g_n 0]) (r := [.ref (4 * 90 + 1), .ref a0]) rfl rfl rfl hO1 rfl rfl ?_
          refine r_callI h fun r60 M57 hx58 hok59 hr61 h => ?_
          replace h := h hx58 hok59 hr61
          replace hO1 := hO1.up hx58
          replace hA21 := hA21.up hx58
          replace hA36 := hA36.up hx58
          refine r_invV x_422_136 (z := 255) (ns := 0) (by decide +kernel) (as := [.ref (4 * 90 + 1), g_n r60]) (r := []) rfl rfl rfl hO1 rfl rfl ?_
          refine r_callV h fun M62 hx63 hok64 h => ?_
          replace h := h hx63 hok64
          replace hO1 := hO1.up hx63
          replace hA21 := hA21.up hx63
          replace hA36 := hA36.up hx63
          refine r_aload_n x_422_139 rfl ?_
          refine r_ldcw x_422_140 (v := .ref (4 * 91 + 1)) rfl ?_
          refine r_aload_n x_422_143 rfl ?_
          obtain ⟨b65, hb66, h⟩ := h
          refine r_getR x_422_144 rfl (ci := 12) (k := 39) (ns := 0) (by decide +kernel) (by decide) rfl (kz := 39) rfl hO1 hb66 ?_
          refine r_iconst x_422_147 ?_
          refine r_iload x_422_148 rfl ?_
          refine r_imul x_422_150 ?_
          obtain ⟨h67, h⟩ := h
          obtain ⟨n68, hA69, h⟩ := h
          obtain ⟨h70, h⟩ := h
          refine r_bald x_422_151 (Or.inr rfl) hA69 h67 h70.1 h70.2 ?_
          refine r_invV x_422_152 (z := 256) (ns := 0) (by decide +kernel) (as := [.ref (4 * 91 + 1), g_n (g_i M62 b65 (2 * ((4 * v2) + R5.toInt32.toInt)))]) (r := []) rfl rfl rfl hO1 rfl rfl ?_
          refine r_callV h fun M71 hx72 hok73 h => ?_
          replace h := h hx72 hok73
          replace hO1 := hO1.up hx72
          replace hA21 := hA21.up hx72
          replace hA36 := hA36.up hx72
          replace hA69 := hA69.up hx72
          refine r_aload_n x_422_155 rfl ?_
          refine r_ldcw x_422_156 (v := .ref (4 * 92 + 1)) rfl ?_
          refine r_aload_n x_422_159 rfl ?_
          obtain ⟨b74, hb75, h⟩ := h
          refine r_getR x_422_160 rfl (ci := 12) (k := 39) (ns := 0) (by decide +kernel) (by decide) rfl (kz := 39) rfl hO1 hb75 ?_
          refine r_iconst x_422_163 ?_
          refine r_iload x_422_164 rfl ?_
          refine r_imul x_422_166 ?_
          obtain ⟨h76, h⟩ := h
          refine r_iconst x_422_167 ?_
          refine r_iadd x_422_168 ?_
          obtain ⟨h77, h⟩ := h
          obtain ⟨n78, hA79, h⟩ := h
          obtain ⟨h80, h⟩ := h
          refine r_bald x_422_169 (Or.inr rfl) hA79 h77 h80.1 h80.2 ?_
          refine r_invV x_422_170 (z := 256) (ns := 0) (by decide +kernel) (as := [.ref (4 * 92 + 1), g_n (g_i M71 b74 ((2 * ((4 * v2) + R5.toInt32.toInt)) + 1))]) (r := []) rfl rfl rfl hO1 rfl rfl ?_
          refine r_callV h fun M81 hx82 hok83 h => ?_
          replace h := h hx82 hok83
          replace hO1 := hO1.up hx82
          replace hA21 := hA21.up hx82
          replace hA36 := hA36.up hx82
          replace hA69 := hA69.up hx82
          replace hA79 := hA79.up hx82
          refine r_aload_n x_422_173 rfl ?_
          refine r_invV x_422_174 (z := 415) (ns := 0) (by decide +kernel) (as := []) (r := []) rfl rfl rfl hO1 rfl rfl ?_
          refine r_callI h fun r87 M84 hx85 hok86 hr88 h => ?_
          replace h := h hx85 hok86 hr88
          replace hO1 := hO1.up hx85
          replace hA21 := hA21.up hx85
          replace hA36 := hA36.up hx85
          replace hA69 := hA69.up hx85
          replace hA79 := hA79.up hx85
          obtain ⟨hz, h⟩ := h
          exact r_retZ x_422_177 rfl hz h
        · replace h := h.2 hc
          refine r_aload_n x_422_65 rfl ?_
          obtain ⟨b89, hb90, h⟩ := h
          refine r_getR x_422_66 rfl (ci := 12) (k := 35) (ns := 0) (by decide +kernel) (by decide) rfl (kz := 35) rfl hO1 hb90 ?_
          refine r_iload x_422_69 rfl ?_
          refine r_iconst x_422_71 ?_
          obtain ⟨n91, hA92, h⟩ := h
          obtain ⟨h93, h⟩ := h
          refine r_bast2 x_422_72 hA92 h24 h93.1 h93.2 (Or.inl rfl) ?_
          obtain ⟨M94, hM95⟩ : ∃ Mz, Mz = g_wi M28 b89 ((4 * v2) + R5.toInt32.toInt) 0 := ⟨_, rfl⟩
          rw [← hM95]
          refine g_Run.ok fun hok96 => ?_
          replace h := h M94 hM95 hok96
          have hx97 := g_extW hM95
          replace hO1 := hO1.up hx97
          replace hA21 := hA21.up hx97
          replace hA92 := hA92.up hx97
          refine r_aload_n x_422_73 rfl ?_
          refine r_ldcw x_422_74 (v := .ref (4 * 86 + 1)) rfl ?_
          refine r_iconst x_422_77 ?_
          refine r_invV x_422_78 (z := 256) (ns := 0) (by decide +kernel) (as := [.ref (4 * 86 + 1), g_n 1]) (r := []) rfl rfl rfl hO1 rfl rfl ?_
          refine r_callV h fun M98 hx99 hok100 h => ?_
          replace h := h hx99 hok100
          replace hO1 := hO1.up hx99
          replace hA21 := hA21.up hx99
          replace hA92 := hA92.up hx99
          refine r_goto x_422_81 (t := 173) (by decide +kernel) ?_
          refine r_aload_n x_422_173 rfl ?_
          refine r_invV x_422_174 (z := 415) (ns := 0) (by decide +kernel) (as := []) (r := []) rfl rfl rfl hO1 rfl rfl ?_
          refine r_callI h fun r104 M101 hx102 hok103 hr105 h => ?_
          replace h := h hx102 hok103 hr105
          replace hO1 := hO1.up hx102
          replace hA21 := hA21.up hx102
          replace hA92 := hA92.up hx102
          obtain ⟨hz, h⟩ := h
          exact r_retZ x_422_177 rfl hz h
      · replace h := h.1 hc
        refine r_aload_n x_422_34 rfl ?_
        refine r_bipush x_422_35 (x := 41) rfl ?_
        refine r_iconst x_422_37 ?_
        refine r_invV x_422_38 (z := 405) (ns := 0) (by decide +kernel) (as := [g_n 41, g_n ((-1))]) (r := []) rfl rfl rfl hO1 rfl rfl ?_
        refine r_callI h fun r109 M106 hx107 hok108 hr110 h => ?_
        replace h := h hx107 hok108 hr110
        replace hO1 := hO1.up hx107
        replace hA21 := hA21.up hx107
        obtain ⟨hz, h⟩ := h
        exact r_retZ x_422_41 rfl hz h
theorem m_X12_explain {d : Nat} {M : g_M} {Q : Int → g_M → Prop} {a0 : Nat} {v1 : Int} (hv1 : g_InR v1) {v2 : Int} (hv2 : g_InR v2) (h : g_ok M → g_O M a0 12 ∧ g_Call d 402 [.ref a0, g_n v1, g_n v2] M (g_qI fun r5 M2 => g_ext M M2 → g_ok M2 → g_InR r5 → g_Run d 423 13 [(0, .ref a0), (1, g_n v1), (2, g_n v2), (3, g_n r5), (4, g_n 0), (5, g_n 0)] [] M2 (g_qI Q))) : g_Call (d + 1) 423 [.ref a0, g_n v1, g_n v2] M (g_qI Q) := by
  refine g_Call.ok fun hok0 => ?_
  replace h := h hok0
  refine r_body rfl (lv := [(0, .ref a0), (1, g_n v1), (2, g_n v2)]) rfl ?_
  refine g_Run.ok fun hok => ?_
  refine r_aload_n x_423_0 rfl ?_
  refine r_iload_n x_423_1 rfl ?_
  refine r_iload_n x_423_2 rfl ?_
  obtain ⟨hO1, h⟩ := h
  refine r_invV x_423_3 (z := 402) (ns := 0) (by decide +kernel) (as := [g_n v1, g_n v2]) (r := []) rfl rfl rfl hO1 rfl rfl ?_
  refine r_callI h fun r5 M2 hx3 hok4 hr6 h => ?_
  replace h := h hx3 hok4 hr6
  replace hO1 := hO1.up hx3
  refine r_istore_n x_423_6 (by decide +kernel) rfl (lv1 := [(0, .ref a0), (1, g_n v1), (2, g_n v2), (3, g_n r5)]) rfl ?_
  refine r_iconst x_423_7 ?_
  refine r_istore x_423_8 (by decide +kernel) rfl (lv1 := [(0, .ref a0), (1, g_n v1), (2, g_n v2), (3, g_n r5), (4, g_n 0)]) rfl ?_
  refine r_iconst x_423_10 ?_
  refine r_istore x_423_11 (by decide +kernel) rfl (lv1 := [(0, .ref a0), (1, g_n v1), (2, g_n v2), (3, g_n r5), (4, g_n 0), (5, g_n 0)]) rfl ?_
  exact h
theorem s_X12_explain_13 {d : Nat} {M : g_M} {Q : Int → g_M → Prop} {a0 : Nat} {v1 : Int} (hv1 : g_InR v1) {v2 : Int} (hv2 : g_InR v2) {v3 : Int} (hv3 : g_InR v3) {v4 : Int} (hv4 : g_InR v4) {v5 : Int} (hv5 : g_InR v5) (h : g_ok M → g_O M a0 12 ∧ ∃ b2, g_r M a0 68 = some b2 ∧ ∃ n4, g_A M b2 1 n4 ∧ ((0 : Int) ≤ v2 ∧ (v2 : Int) < n4) ∧ ((v5 < g_i M b2 v2 → ((v3 = 8 → g_InR (v4 + 1) ∧ g_InR (v5 + 1) ∧ g_Run d 423 13 [(0, .ref a0), (1, g_n v1), (2, g_n v2), (3, g_n v3), (4, g_n (v4 + 1)), (5, g_n (v5 + 1))] [] M (g_qI Q)) ∧ (¬ v3 = 8 → g_Call d 404 [.ref a0, g_n v2, g_n v5] M (g_qI fun r17 M14 => g_ext M M14 → g_ok M14 → g_InR r17 → g_Call d 403 [.ref a0, g_n v3, g_n r17] M14 (g_qI fun r22 M19 => g_ext M14 M19 → g_ok M19 → g_InR r22 → ((r22 = 0 → g_InR (v4 + 0) ∧ g_InR (v5 + 1) ∧ g_Run d 423 13 [(0, .ref a0), (1, g_n v1), (2, g_n v2), (3, g_n v3), (4, g_n (v4 + 0)), (5, g_n (v5 + 1))] [] M19 (g_qI Q)) ∧ (¬ r22 = 0 → g_InR (v4 + 1) ∧ g_InR (v5 + 1) ∧ g_Run d 423 13 [(0, .ref a0), (1, g_n v1), (2, g_n v2), (3, g_n v3), (4, g_n (v4 + 1)), (5, g_n (v5 + 1))] [] M19 (g_qI Q)))))))) ∧ (¬ v5 < g_i M b2 v2 → g_Call d 414 [.ref a0] M (g_qV fun M7 => g_ext M M7 → g_ok M7 → ((v3 = 8 → g_Run d 423 84 [(0, .ref a0), (1, g_n v1), (2, g_n v2), (3, g_n v3), (4, g_n v4), (5, g_n v5)] [g_n ((-1)), .ref (4 * 82 + 1), .ref a0] M7 (g_qI Q)) ∧ (¬ v3 = 8 → g_InR (4 * v2) ∧ g_InR (v3 - (4 * v2)) ∧ g_Run d 423 84 [(0, .ref a0), (1, g_n v1), (2, g_n v2), (3, g_n v3), (4, g_n v4), (5, g_n v5)] [g_n (v3 - (4 * v2)), .ref (4 * 82 + 1), .ref a0] M7 (g_qI Q))))))) : g_Run d 423 13 [(0, .ref a0), (1, g_n v1), (2, g_n v2), (3, g_n v3), (4, g_n v4), (5, g_n v5)] [] M (g_qI Q) := by
  refine g_Run.ok fun hok => ?_
  replace h := h hok
  refine r_iload x_423_13 rfl ?_
  refine r_aload_n x_423_15 rfl ?_
  obtain ⟨hO1, h⟩ := h
  obtain ⟨b2, hb3, h⟩ := h
  refine r_getR x_423_16 rfl (ci := 12) (k := 68) (ns := 0) (by decide +kernel) (by decide) rfl (kz := 68) rfl hO1 hb3 ?_
  refine r_iload_n x_423_19 rfl ?_
  obtain ⟨n4, hA5, h⟩ := h
  obtain ⟨h6, h⟩ := h
  refine r_iald x_423_20 hA5 hv2 h6.1 h6.2 ?_
  refine r_ic_ge x_423_21 (t := 61) (by decide +kernel) hv5 (hok.1 _ _) (fun hc => ?_) (fun hc => ?_)
  · replace h := h.2 hc
    refine r_aload_n x_423_61 rfl ?_
    refine r_invV x_423_62 (z := 414) (ns := 0) (by decide +kernel) (as := []) (r := []) rfl rfl rfl hO1 rfl rfl ?_
    refine r_callV h fun M7 hx8 hok9 h => ?_
    replace h := h hx8 hok9
    replace hO1 := hO1.up hx8
    replace hA5 := hA5.up hx8
    refine r_aload_n x_423_65 rfl ?_
    refine r_ldcw x_423_66 (v := .ref (4 * 82 + 1)) rfl ?_
    refine r_iload_n x_423_69 rfl ?_
    refine r_bipush x_423_70 (x := 8) rfl ?_
    refine r_ic_ne x_423_72 (t := 79) (by decide +kernel) hv3 (g_Rk rfl) (fun hc => ?_) (fun hc => ?_)
    · replace h := h.2 hc
      refine r_iload_n x_423_79 rfl ?_
      refine r_iconst x_423_80 ?_
      refine r_iload_n x_423_81 rfl ?_
      refine r_imul x_423_82 ?_
      obtain ⟨h10, h⟩ := h
      refine r_isub x_423_83 ?_
      obtain ⟨h11, h⟩ := h
      exact h
    · replace h := h.1 hc
      refine r_iconst x_423_75 ?_
      refine r_goto x_423_76 (t := 84) (by decide +kernel) ?_
      exact h
  · replace h := h.1 hc
    refine r_iload x_423_24 rfl ?_
    refine r_iload_n x_423_26 rfl ?_
    refine r_bipush x_423_27 (x := 8) rfl ?_
    refine r_ic_eq x_423_29 (t := 47) (by decide +kernel) hv3 (g_Rk rfl) (fun hc => ?_) (fun hc => ?_)
    · replace h := h.1 hc
      refine r_iconst x_423_47 ?_
      refine r_goto x_423_48 (t := 52) (by decide +kernel) ?_
      refine r_iadd x_423_52 ?_
      obtain ⟨h12, h⟩ := h
      refine r_istore x_423_53 (by decide +kernel) rfl (lv1 := [(0, .ref a0), (1, g_n v1), (2, g_n v2), (3, g_n v3), (4, g_n (v4 + 1)), (5, g_n v5)]) rfl ?_
      obtain ⟨h13, h⟩ := h
      refine r_iinc x_423_55 (by decide +kernel) rfl rfl (lv1 := [(0, .ref a0), (1, g_n v1), (2, g_n v2), (3, g_n v3), (4, g_n (v4 + 1)), (5, g_n (v5 + 1))]) rfl ?_
      refine r_goto x_423_58 (t := 13) (by decide +kernel) ?_
      exact h
    · replace h := h.2 hc
      refine r_aload_n x_423_32 rfl ?_
      refine r_iload_n x_423_33 rfl ?_
      refine r_aload_n x_423_34 rfl ?_
      refine r_iload_n x_423_35 rfl ?_
      refine r_iload x_423_36 rfl ?_
      refine r_invV x_423_38 (z := 404) (ns := 0) (by decide +kernel) (as := [g_n v2, g_n v5]) (r := [g_n v3, .ref a0, g_n v4]) rfl rfl rfl hO1 rfl rfl ?_
      refine r_callI h fun r17 M14 hx15 hok16 hr18 h => ?_
      replace h := h hx15 hok16 hr18
      replace hO1 := hO1.up hx15
      replace hA5 := hA5.up hx15
      refine r_invV x_423_41 (z := 403) (ns := 0) (by decide +kernel) (as := [g_n v3, g_n r17]) (r := [g_n v4]) rfl rfl rfl hO1 rfl rfl ?_
      refine r_callI h fun r22 M19 hx20 hok21 hr23 h => ?_
      replace h := h hx20 hok21 hr23
      replace hO1 := hO1.up hx20
      replace hA5 := hA5.up hx20
      refine r_if_eq x_423_44 (t := 51) (by decide +kernel) hr23 (fun hc => ?_) (fun hc => ?_)
      · replace h := h.1 hc
        refine r_iconst x_423_51 ?_
        refine r_iadd x_423_52 ?_
        obtain ⟨h24, h⟩ := h
        refine r_istore x_423_53 (by decide +kernel) rfl (lv1 := [(0, .ref a0), (1, g_n v1), (2, g_n v2), (3, g_n v3), (4, g_n (v4 + 0)), (5, g_n v5)]) rfl ?_
        obtain ⟨h25, h⟩ := h
        refine r_iinc x_423_55 (by decide +kernel) rfl rfl (lv1 := [(0, .ref a0), (1, g_n v1), (2, g_n v2), (3, g_n v3), (4, g_n (v4 + 0)), (5, g_n (v5 + 1))]) rfl ?_
        refine r_goto x_423_58 (t := 13) (by decide +kernel) ?_
        exact h
      · replace h := h.2 hc
        refine r_iconst x_423_47 ?_
        refine r_goto x_423_48 (t := 52) (by decide +kernel) ?_
        refine r_iadd x_423_52 ?_
        obtain ⟨h26, h⟩ := h
        refine r_istore x_423_53 (by decide +kernel) rfl (lv1 := [(0, .ref a0), (1, g_n v1), (2, g_n v2), (3, g_n v3), (4, g_n (v4 + 1)), (5, g_n v5)]) rfl ?_
        obtain ⟨h27, h⟩ := h
        refine r_iinc x_423_55 (by decide +kernel) rfl rfl (lv1 := [(0, .ref a0), (1, g_n v1), (2, g_n v2), (3, g_n v3), (4, g_n (v4 + 1)), (5, g_n (v5 + 1))]) rfl ?_
        refine r_goto x_423_58 (t := 13) (by decide +kernel) ?_
        exact h
theorem s_X12_explain_84 {d : Nat} {M : g_M} {Q : Int → g_M → Prop} {a0 : Nat} {v1 : Int} (hv1 : g_InR v1) {v2 : Int} (hv2 : g_InR v2) {v3 : Int} (hv3 : g_InR v3) {v4 : Int} (hv4 : g_InR v4) {v5 : Int} (hv5 : g_InR v5) {w0 : Int} (hw0 : g_InR w0) {j91 : Nat} (hj91 : j91 < q_nS) {c2 : Nat} (h : g_ok M → g_O M c2 12 ∧ g_Call d 255 [.ref c2, .ref (4 * j91 + 1), g_n w0] M (g_qV fun M2 => g_ext M M2 → g_ok M2 → g_O M2 a0 12 ∧ g_Call d 255 [.ref a0, .ref (4 * 131 + 1), g_n (g_i M2 a0 65)] M2 (g_qV fun M6 => g_ext M2 M6 → g_ok M6 → g_Call d 255 [.ref a0, .ref (4 * 132 + 1), g_n (g_i M6 a0 66)] M6 (g_qV fun M9 => g_ext M6 M9 → g_ok M9 → g_Call d 255 [.ref a0, .ref (4 * 133 + 1), g_n v4] M9 (g_qV fun M12 => g_ext M9 M12 → g_ok M12 → g_Call d 415 [.ref a0] M12 (g_qI fun r18 M15 => g_ext M12 M15 → g_ok M15 → g_InR r18 → (r18 = 0 ∨ r18 = 1) ∧ Q r18 M15)))))) : g_Run d 423 84 [(0, .ref a0), (1, g_n v1), (2, g_n v2), (3, g_n v3), (4, g_n v4), (5, g_n v5)] [g_n w0, .ref (4 * j91 + 1), .ref c2] M (g_qI Q) := by
  refine g_Run.ok fun hok => ?_
  replace h := h hok
  obtain ⟨hO1, h⟩ := h
  refine r_invV x_423_84 (z := 255) (ns := 0) (by decide +kernel) (as := [.ref (4 * j91 + 1), g_n w0]) (r := []) rfl rfl rfl hO1 rfl rfl ?_
  refine r_callV h fun M2 hx3 hok4 h => ?_
  replace h := h hx3 hok4
  replace hO1 := hO1.up hx3
  refine r_aload_n x_423_87 rfl ?_
  refine r_ldcw x_423_88 (v := .ref (4 * 131 + 1)) rfl ?_
  refine r_aload_n x_423_91 rfl ?_
  obtain ⟨hO5, h⟩ := h
  refine r_getI x_423_92 rfl (ci := 12) (k := 65) (ns := 0) (by decide +kernel) (by decide) rfl (kz := 65) rfl hO5 ?_
  refine r_invV x_423_95 (z := 255) (ns := 0) (by decide +kernel) (as := [.ref (4 * 131 + 1), g_n (g_i M2 a0 65)]) (r := []) rfl rfl rfl hO5 rfl rfl ?_
  refine r_callV h fun M6 hx7 hok8 h => ?_
  replace h := h hx7 hok8
  replace hO1 := hO1.up hx7
  replace hO5 := hO5.up hx7
  refine r_aload_n x_423_98 rfl ?_
  refine r_ldcw x_423_99 (v := .ref (4 * 132 + 1)) rfl ?_
  refine r_aload_n x_423_102 rfl ?_
  refine r_getI x_423_103 rfl (ci := 12) (k := 66) (ns := 0) (by decide +kernel) (by decide) rfl (kz := 66) rfl hO5 ?_
  refine r_invV x_423_106 (z := 255) (ns := 0) (by decide +kernel) (as := [.ref (4 * 132 + 1), g_n (g_i M6 a0 66)]) (r := []) rfl rfl rfl hO5 rfl rfl ?_
  refine r_callV h fun M9 hx10 hok11 h => ?_
  replace h := h hx10 hok11
  replace hO1 := hO1.up hx10
  replace hO5 := hO5.up hx10
  refine r_aload_n x_423_109 rfl ?_
  refine r_ldcw x_423_110 (v := .ref (4 * 133 + 1)) rfl ?_
  refine r_iload x_423_113 rfl ?_
  refine r_invV x_423_115 (z := 255) (ns := 0) (by decide +kernel) (as := [.ref (4 * 133 + 1), g_n v4]) (r := []) rfl rfl rfl hO5 rfl rfl ?_
  refine r_callV h fun M12 hx13 hok14 h => ?_
  replace h := h hx13 hok14
  replace hO1 := hO1.up hx13
  replace hO5 := hO5.up hx13
  refine r_aload_n x_423_118 rfl ?_
  refine r_invV x_423_119 (z := 415) (ns := 0) (by decide +kernel) (as := []) (r := []) rfl rfl rfl hO5 rfl rfl ?_
  refine r_callI h fun r18 M15 hx16 hok17 hr19 h => ?_
  replace h := h hx16 hok17 hr19
  replace hO1 := hO1.up hx16
  replace hO5 := hO5.up hx16
  obtain ⟨hz, h⟩ := h
  exact r_retZ x_423_122 rfl hz h
theorem m_X12_pipeline {d : Nat} {M : g_M} {Q : Int → g_M → Prop} {a0 : Nat} {v1 : Int} (hv1 : g_InR v1) {v2 : Int} (hv2 : g_InR v2) (h : g_ok M → g_O M a0 12 ∧ ∃ b2, g_r M a0 68 = some b2 ∧ ∃ n4, g_A M b2 1 n4 ∧ ((0 : Int) ≤ v2 ∧ (v2 : Int) < n4) ∧ (∀ M7, M7 = g_wi M a0 19 (g_i M b2 v2) → g_ok M7 → g_Run d 424 12 [(0, .ref a0), (1, g_n v1), (2, g_n v2), (3, g_n 0)] [] M7 (g_qI Q))) : g_Call (d + 1) 424 [.ref a0, g_n v1, g_n v2] M (g_qI Q) := by
  refine g_Call.ok fun hok0 => ?_
  replace h := h hok0
  refine r_body rfl (lv := [(0, .ref a0), (1, g_n v1), (2, g_n v2)]) rfl ?_
  refine g_Run.ok fun hok => ?_
  refine r_aload_n x_424_0 rfl ?_
  refine r_aload_n x_424_1 rfl ?_
  obtain ⟨hO1, h⟩ := h
  obtain ⟨b2, hb3, h⟩ := h
  refine r_getR x_424_2 rfl (ci := 12) (k := 68) (ns := 0) (by decide +kernel) (by decide) rfl (kz := 68) rfl hO1 hb3 ?_
  refine r_iload_n x_424_5 rfl ?_
  obtain ⟨n4, hA5, h⟩ := h
  obtain ⟨h6, h⟩ := h
  refine r_iald x_424_6 hA5 hv2 h6.1 h6.2 ?_
  refine r_putI x_424_7 (ci := 12) (k := 19) (ns := 0) (by decide +kernel) (by decide) (g_f0 (by decide +kernel)) rfl (hok.1 _ _) trivial (kz := 19) rfl hO1 ?_
  obtain ⟨M7, hM8⟩ : ∃ Mz, Mz = g_wi M a0 19 (g_i M b2 v2) := ⟨_, rfl⟩
  rw [← hM8]
  refine g_Run.ok fun hok9 => ?_
  replace h := h M7 hM8 hok9
  have hx10 := g_extW hM8
  replace hO1 := hO1.up hx10
  replace hA5 := hA5.up hx10
  refine r_iconst x_424_10 ?_
  refine r_istore_n x_424_11 (by decide +kernel) rfl (lv1 := [(0, .ref a0), (1, g_n v1), (2, g_n v2), (3, g_n 0)]) rfl ?_
  exact h
theorem s_X12_pipeline_12 {d : Nat} {M : g_M} {Q : Int → g_M → Prop} {a0 : Nat} {v1 : Int} (hv1 : g_InR v1) {v2 : Int} (hv2 : g_InR v2) {v3 : Int} (hv3 : g_InR v3) (h : g_ok M → g_O M a0 12 ∧ ((v3 < g_i M a0 19 → ∃ b12, g_r M a0 18 = some b12 ∧ g_Call d 404 [.ref a0, g_n v2, g_n v3] M (g_qI fun r17 M14 => g_ext M M14 → g_ok M14 → g_InR r17 → ∃ n19, g_A M14 b12 1 n19 ∧ ((0 : Int) ≤ v3 ∧ (v3 : Int) < n19) ∧ (∀ M22, M22 = g_wi M14 b12 v3 r17 → g_ok M22 → g_InR (v3 + 1) ∧ g_Run d 424 12 [(0, .ref a0), (1, g_n v1), (2, g_n v2), (3, g_n (v3 + 1))] [] M22 (g_qI Q)))) ∧ (¬ v3 < g_i M a0 19 → ∃ b2, g_r M a0 68 = some b2 ∧ g_InR (1 - v2) ∧ ∃ n5, g_A M b2 1 n5 ∧ ((0 : Int) ≤ 1 - v2 ∧ (1 - v2 : Int) < n5) ∧ (∀ M8, M8 = g_wi M a0 21 (g_i M b2 (1 - v2)) → g_ok M8 → g_Run d 424 52 [(0, .ref a0), (1, g_n v1), (2, g_n v2), (3, g_n 0)] [] M8 (g_qI Q))))) : g_Run d 424 12 [(0, .ref a0), (1, g_n v1), (2, g_n v2), (3, g_n v3)] [] M (g_qI Q) := by
  refine g_Run.ok fun hok => ?_
  replace h := h hok
  refine r_iload_n x_424_12 rfl ?_
  refine r_aload_n x_424_13 rfl ?_
  obtain ⟨hO1, h⟩ := h
  refine r_getI x_424_14 rfl (ci := 12) (k := 19) (ns := 0) (by decide +kernel) (by decide) rfl (kz := 19) rfl hO1 ?_
  refine r_ic_ge x_424_17 (t := 38) (by decide +kernel) hv3 (hok.1 _ _) (fun hc => ?_) (fun hc => ?_)
  · replace h := h.2 hc
    refine r_aload_n x_424_38 rfl ?_
    refine r_aload_n x_424_39 rfl ?_
    obtain ⟨b2, hb3, h⟩ := h
    refine r_getR x_424_40 rfl (ci := 12) (k := 68) (ns := 0) (by decide +kernel) (by decide) rfl (kz := 68) rfl hO1 hb3 ?_
    refine r_iconst x_424_43 ?_
    refine r_iload_n x_424_44 rfl ?_
    refine r_isub x_424_45 ?_
    obtain ⟨h4, h⟩ := h
    obtain ⟨n5, hA6, h⟩ := h
    obtain ⟨h7, h⟩ := h
    refine r_iald x_424_46 hA6 h4 h7.1 h7.2 ?_
    refine r_putI x_424_47 (ci := 12) (k := 21) (ns := 0) (by decide +kernel) (by decide) (g_f0 (by decide +kernel)) rfl (hok.1 _ _) trivial (kz := 21) rfl hO1 ?_
    obtain ⟨M8, hM9⟩ : ∃ Mz, Mz = g_wi M a0 21 (g_i M b2 (1 - v2)) := ⟨_, rfl⟩
    rw [← hM9]
    refine g_Run.ok fun hok10 => ?_
    replace h := h M8 hM9 hok10
    have hx11 := g_extW hM9
    replace hO1 := hO1.up hx11
    replace hA6 := hA6.up hx11
    refine r_iconst x_424_50 ?_
    refine r_istore_n x_424_51 (by decide +kernel) rfl (lv1 := [(0, .ref a0), (1, g_n v1), (2, g_n v2), (3, g_n 0)]) rfl ?_
    exact h
  · replace h := h.1 hc
    refine r_aload_n x_424_20 rfl ?_
    obtain ⟨b12, hb13, h⟩ := h
    refine r_getR x_424_21 rfl (ci := 12) (k := 18) (ns := 0) (by decide +kernel) (by decide) rfl (kz := 18) rfl hO1 hb13 ?_
    refine r_iload_n x_424_24 rfl ?_
    refine r_aload_n x_424_25 rfl ?_
    refine r_iload_n x_424_26 rfl ?_
    refine r_iload_n x_424_27 rfl ?_
    refine r_invV x_424_28 (z := 404) (ns := 0) (by decide +kernel) (as := [g_n v2, g_n v3]) (r := [g_n v3, .ref b12]) rfl rfl rfl hO1 rfl rfl ?_
    refine r_callI h fun r17 M14 hx15 hok16 hr18 h => ?_
    replace h := h hx15 hok16 hr18
    replace hO1 := hO1.up hx15
    obtain ⟨n19, hA20, h⟩ := h
    obtain ⟨h21, h⟩ := h
    refine r_iast x_424_31 hA20 hv3 h21.1 h21.2 hr18 ?_
    obtain ⟨M22, hM23⟩ : ∃ Mz, Mz = g_wi M14 b12 v3 r17 := ⟨_, rfl⟩
    rw [← hM23]
    refine g_Run.ok fun hok24 => ?_
    replace h := h M22 hM23 hok24
    have hx25 := g_extW hM23
    replace hO1 := hO1.up hx25
    replace hA20 := hA20.up hx25
    obtain ⟨h26, h⟩ := h
    refine r_iinc x_424_32 (by decide +kernel) rfl rfl (lv1 := [(0, .ref a0), (1, g_n v1), (2, g_n v2), (3, g_n (v3 + 1))]) rfl ?_
    refine r_goto x_424_35 (t := 12) (by decide +kernel) ?_
    exact h
theorem s_X12_pipeline_52 {d : Nat} {M : g_M} {Q : Int → g_M → Prop} {a0 : Nat} {v1 : Int} (hv1 : g_InR v1) {v2 : Int} (hv2 : g_InR v2) {v3 : Int} (hv3 : g_InR v3) (h : g_ok M → g_O M a0 12 ∧ ((v3 < g_i M a0 21 → ∃ b7, g_r M a0 20 = some b7 ∧ g_InR (1 - v2) ∧ g_Call d 404 [.ref a0, g_n (1 - v2), g_n v3] M (g_qI fun r13 M10 => g_ext M M10 → g_ok M10 → g_InR r13 → ∃ n15, g_A M10 b7 1 n15 ∧ ((0 : Int) ≤ v3 ∧ (v3 : Int) < n15) ∧ (∀ M18, M18 = g_wi M10 b7 v3 r13 → g_ok M18 → g_InR (v3 + 1) ∧ g_Run d 424 52 [(0, .ref a0), (1, g_n v1), (2, g_n v2), (3, g_n (v3 + 1))] [] M18 (g_qI Q)))) ∧ (¬ v3 < g_i M a0 21 → g_Call d 237 [g_n v1] M (g_qI fun r5 M2 => g_ext M M2 → g_ok M2 → g_InR r5 → g_Run d 424 85 [(0, .ref a0), (1, g_n v1), (2, g_n v2), (3, g_n r5)] [] M2 (g_qI Q))))) : g_Run d 424 52 [(0, .ref a0), (1, g_n v1), (2, g_n v2), (3, g_n v3)] [] M (g_qI Q) := by
  refine g_Run.ok fun hok => ?_
  replace h := h hok
  refine r_iload_n x_424_52 rfl ?_
  refine r_aload_n x_424_53 rfl ?_
  obtain ⟨hO1, h⟩ := h
  refine r_getI x_424_54 rfl (ci := 12) (k := 21) (ns := 0) (by decide +kernel) (by decide) rfl (kz := 21) rfl hO1 ?_
  refine r_ic_ge x_424_57 (t := 80) (by decide +kernel) hv3 (hok.1 _ _) (fun hc => ?_) (fun hc => ?_)
  · replace h := h.2 hc
    refine r_iload_n x_424_80 rfl ?_
    refine r_invS x_424_81 (z := 237) (ns := 0) (by decide +kernel) (as := [g_n v1]) (r := []) rfl rfl rfl ?_
    refine r_callI h fun r5 M2 hx3 hok4 hr6 h => ?_
    replace h := h hx3 hok4 hr6
    replace hO1 := hO1.up hx3
    refine r_istore_n x_424_84 (by decide +kernel) rfl (lv1 := [(0, .ref a0), (1, g_n v1), (2, g_n v2), (3, g_n r5)]) rfl ?_
    exact h
  · replace h := h.1 hc
    refine r_aload_n x_424_60 rfl ?_
    obtain ⟨b7, hb8, h⟩ := h
    refine r_getR x_424_61 rfl (ci := 12) (k := 20) (ns := 0) (by decide +kernel) (by decide) rfl (kz := 20) rfl hO1 hb8 ?_
    refine r_iload_n x_424_64 rfl ?_
    refine r_aload_n x_424_65 rfl ?_
    refine r_iconst x_424_66 ?_
    refine r_iload_n x_424_67 rfl ?_
    refine r_isub x_424_68 ?_
    obtain ⟨h9, h⟩ := h
    refine r_iload_n x_424_69 rfl ?_
    refine r_invV x_424_70 (z := 404) (ns := 0) (by decide +kernel) (as := [g_n (1 - v2), g_n v3]) (r := [g_n v3, .ref b7]) rfl rfl rfl hO1 rfl rfl ?_
    refine r_callI h fun r13 M10 hx11 hok12 hr14 h => ?_
    replace h := h hx11 hok12 hr14
    replace hO1 := hO1.up hx11
    obtain ⟨n15, hA16, h⟩ := h
    obtain ⟨h17, h⟩ := h
    refine r_iast x_424_73 hA16 hv3 h17.1 h17.2 hr14 ?_
    obtain ⟨M18, hM19⟩ : ∃ Mz, Mz = g_wi M10 b7 v3 r13 := ⟨_, rfl⟩
    rw [← hM19]
    refine g_Run.ok fun hok20 => ?_
    replace h := h M18 hM19 hok20
    have hx21 := g_extW hM19
    replace hO1 := hO1.up hx21
    replace hA16 := hA16.up hx21
    obtain ⟨h22, h⟩ := h
    refine r_iinc x_424_74 (by decide +kernel) rfl rfl (lv1 := [(0, .ref a0), (1, g_n v1), (2, g_n v2), (3, g_n (v3 + 1))]) rfl ?_
    refine r_goto x_424_77 (t := 52) (by decide +kernel) ?_
    exact h
theorem s_X12_pipeline_85 {d : Nat} {M : g_M} {Q : Int → g_M → Prop} {a0 : Nat} {v1 : Int} (hv1 : g_InR v1) {v2 : Int} (hv2 : g_InR v2) {v3 : Int} (hv3 : g_InR v3) (h : g_ok M → g_O M a0 12 ∧ g_Call d 238 [.ref a0, g_n v1] M (g_qI fun r5 M2 => g_ext M M2 → g_ok M2 → g_InR r5 → ((v3 < r5 → g_Call d 233 [.ref a0, g_n v3] M2 (g_qI fun r27 M24 => g_ext M2 M24 → g_ok M24 → g_InR r27 → g_Call d 237 [g_n r27] M24 (g_qI fun r32 M29 => g_ext M24 M29 → g_ok M29 → g_InR r32 → g_Call d 233 [.ref a0, g_n v3] M29 (g_qI fun r37 M34 => g_ext M29 M34 → g_ok M34 → g_InR r37 → g_Call d 239 [.ref a0, g_n r37] M34 (g_qI fun r42 M39 => g_ext M34 M39 → g_ok M39 → g_InR r42 → ((r42 = 1 → g_Call d 236 [.ref a0, g_n r32, .ref (4 * 93 + 1)] M39 (g_qI fun r47 M44 => g_ext M39 M44 → g_ok M44 → g_InR r47 → ((r47 = 0 → g_Run d 424 225 [(0, .ref a0), (1, g_n v1), (2, g_n v2), (3, g_n v3), (4, g_n r32)] [] M44 (g_qI Q)) ∧ (¬ r47 = 0 → ∃ b49, g_r M44 a0 0 = some b49 ∧ ∃ n51, g_A M44 b49 0 n51 ∧ ((0 : Int) ≤ r32 ∧ (r32 : Int) < n51) ∧ ((g_i M44 b49 r32 = 3 → g_Call d 233 [.ref a0, g_n r32] M44 (g_qI fun r57 M54 => g_ext M44 M54 → g_ok M54 → g_InR r57 → g_Call d 412 [.ref a0, g_n r57] M54 (g_qI fun r62 M59 => g_ext M54 M59 → g_ok M59 → g_InR r62 → ((r62 = 0 → Q 0 M59) ∧ (¬ r62 = 0 → g_Run d 424 161 [(0, .ref a0), (1, g_n v1), (2, g_n v2), (3, g_n v3), (4, g_n r32), (5, g_n 0), (6, g_n 0)] [] M59 (g_qI Q)))))) ∧ (¬ g_i M44 b49 r32 = 3 → g_Run d 424 225 [(0, .ref a0), (1, g_n v1), (2, g_n v2), (3, g_n v3), (4, g_n r32)] [] M44 (g_qI Q))))))) ∧ (¬ r42 = 1 → g_Run d 424 225 [(0, .ref a0), (1, g_n v1), (2, g_n v2), (3, g_n v3), (4, g_n r32)] [] M39 (g_qI Q)))))))) ∧ (¬ v3 < r5 → g_Call d 414 [.ref a0] M2 (g_qV fun M7 => g_ext M2 M7 → g_ok M7 → g_Call d 255 [.ref a0, .ref (4 * 128 + 1), g_n (g_i M7 a0 19)] M7 (g_qV fun M10 => g_ext M7 M10 → g_ok M10 → g_Call d 246 [.ref a0, g_n 4] M10 (g_qV fun M13 => g_ext M10 M13 → g_ok M13 → g_Call d 249 [.ref a0, .ref (4 * 129 + 1)] M13 (g_qV fun M16 => g_ext M13 M16 → g_ok M16 → g_Call d 251 [.ref a0] M16 (g_qI fun r22 M19 => g_ext M16 M19 → g_ok M19 → g_InR r22 → g_Run d 424 314 [(0, .ref a0), (1, g_n v1), (2, g_n v2), (3, g_n r22), (4, g_n 0)] [] M19 (g_qI Q)))))))))) : g_Run d 424 85 [(0, .ref a0), (1, g_n v1), (2, g_n v2), (3, g_n v3)] [] M (g_qI Q) := by
  refine g_Run.ok fun hok => ?_
  replace h := h hok
  refine r_iload_n x_424_85 rfl ?_
  refine r_aload_n x_424_86 rfl ?_
  refine r_iload_n x_424_87 rfl ?_
  obtain ⟨hO1, h⟩ := h
  refine r_invV x_424_88 (z := 238) (ns := 0) (by decide +kernel) (as := [g_n v1]) (r := [g_n v3]) rfl rfl rfl hO1 rfl rfl ?_
  refine r_callI h fun r5 M2 hx3 hok4 hr6 h => ?_
  replace h := h hx3 hok4 hr6
  replace hO1 := hO1.up hx3
  refine r_ic_ge x_424_91 (t := 279) (by decide +kernel) hv3 hr6 (fun hc => ?_) (fun hc => ?_)
  · replace h := h.2 hc
    refine r_aload_n x_424_279 rfl ?_
    refine r_invV x_424_280 (z := 414) (ns := 0) (by decide +kernel) (as := []) (r := []) rfl rfl rfl hO1 rfl rfl ?_
    refine r_callV h fun M7 hx8 hok9 h => ?_
    replace h := h hx8 hok9
    replace hO1 := hO1.up hx8
    refine r_aload_n x_424_283 rfl ?_
    refine r_ldcw x_424_284 (v := .ref (4 * 128 + 1)) rfl ?_
    refine r_aload_n x_424_287 rfl ?_
    refine r_getI x_424_288 rfl (ci := 12) (k := 19) (ns := 0) (by decide +kernel) (by decide) rfl (kz := 19) rfl hO1 ?_
    refine r_invV x_424_291 (z := 255) (ns := 0) (by decide +kernel) (as := [.ref (4 * 128 + 1), g_n (g_i M7 a0 19)]) (r := []) rfl rfl rfl hO1 rfl rfl ?_
    refine r_callV h fun M10 hx11 hok12 h => ?_
    replace h := h hx11 hok12
    replace hO1 := hO1.up hx11
    refine r_aload_n x_424_294 rfl ?_
    refine r_iconst x_424_295 ?_
    refine r_invV x_424_296 (z := 246) (ns := 0) (by decide +kernel) (as := [g_n 4]) (r := []) rfl rfl rfl hO1 rfl rfl ?_
    refine r_callV h fun M13 hx14 hok15 h => ?_
    replace h := h hx14 hok15
    replace hO1 := hO1.up hx14
    refine r_aload_n x_424_299 rfl ?_
    refine r_ldcw x_424_300 (v := .ref (4 * 129 + 1)) rfl ?_
    refine r_invV x_424_303 (z := 249) (ns := 0) (by decide +kernel) (as := [.ref (4 * 129 + 1)]) (r := []) rfl rfl rfl hO1 rfl rfl ?_
    refine r_callV h fun M16 hx17 hok18 h => ?_
    replace h := h hx17 hok18
    replace hO1 := hO1.up hx17
    refine r_aload_n x_424_306 rfl ?_
    refine r_invV x_424_307 (z := 251) (ns := 0) (by decide +kernel) (as := []) (r := []) rfl rfl rfl hO1 rfl rfl ?_
    refine r_callI h fun r22 M19 hx20 hok21 hr23 h => ?_
    replace h := h hx20 hok21 hr23
    replace hO1 := hO1.up hx20
    refine r_istore_n x_424_310 (by decide +kernel) rfl (lv1 := [(0, .ref a0), (1, g_n v1), (2, g_n v2), (3, g_n r22)]) rfl ?_
    refine r_iconst x_424_311 ?_
    refine r_istore x_424_312 (by decide +kernel) rfl (lv1 := [(0, .ref a0), (1, g_n v1), (2, g_n v2), (3, g_n r22), (4, g_n 0)]) rfl ?_
    exact h
  · replace h := h.1 hc
    refine r_aload_n x_424_94 rfl ?_
    refine r_iload_n x_424_95 rfl ?_
    refine r_invV x_424_96 (z := 233) (ns := 0) (by decide +kernel) (as := [g_n v3]) (r := []) rfl rfl rfl hO1 rfl rfl ?_
    refine r_callI h fun r27 M24 hx25 hok26 hr28 h => ?_
    replace h := h hx25 hok26 hr28
    replace hO1 := hO1.up hx25
    refine r_invS x_424_99 (z := 237) (ns := 0) (by decide +kernel) (as := [g_n r27]) (r := []) rfl rfl rfl ?_
    refine r_callI h fun r32 M29 hx30 hok31 hr33 h => ?_
    replace h := h hx30 hok31 hr33
    replace hO1 := hO1.up hx30
    refine r_istore x_424_102 (by decide +kernel) rfl (lv1 := [(0, .ref a0), (1, g_n v1), (2, g_n v2), (3, g_n v3), (4, g_n r32)]) rfl ?_
    refine r_aload_n x_424_104 rfl ?_
    refine r_aload_n x_424_105 rfl ?_
    refine r_iload_n x_424_106 rfl ?_
    refine r_invV x_424_107 (z := 233) (ns := 0) (by decide +kernel) (as := [g_n v3]) (r := [.ref a0]) rfl rfl rfl hO1 rfl rfl ?_
    refine r_callI h fun r37 M34 hx35 hok36 hr38 h => ?_
    replace h := h hx35 hok36 hr38
    replace hO1 := hO1.up hx35
    refine r_invV x_424_110 (z := 239) (ns := 0) (by decide +kernel) (as := [g_n r37]) (r := []) rfl rfl rfl hO1 rfl rfl ?_
    refine r_callI h fun r42 M39 hx40 hok41 hr43 h => ?_
    replace h := h hx40 hok41 hr43
    replace hO1 := hO1.up hx40
    refine r_iconst x_424_113 ?_
    refine r_ic_ne x_424_114 (t := 225) (by decide +kernel) hr43 (g_Rk rfl) (fun hc => ?_) (fun hc => ?_)
    · replace h := h.2 hc
      exact h
    · replace h := h.1 hc
      refine r_aload_n x_424_117 rfl ?_
      refine r_iload x_424_118 rfl ?_
      refine r_ldcw x_424_120 (v := .ref (4 * 93 + 1)) rfl ?_
      refine r_invV x_424_123 (z := 236) (ns := 0) (by decide +kernel) (as := [g_n r32, .ref (4 * 93 + 1)]) (r := []) rfl rfl rfl hO1 rfl rfl ?_
      refine r_callI h fun r47 M44 hx45 hok46 hr48 h => ?_
      replace h := h hx45 hok46 hr48
      replace hO1 := hO1.up hx45
      refine r_if_eq x_424_126 (t := 225) (by decide +kernel) hr48 (fun hc => ?_) (fun hc => ?_)
      · replace h := h.1 hc
        exact h
      · replace h := h.2 hc
        refine r_aload_n x_424_129 rfl ?_
        obtain ⟨b49, hb50, h⟩ := h
        refine r_getR x_424_130 rfl (ci := 12) (k := 0) (ns := 0) (by decide +kernel) (by decide) rfl (kz := 0) rfl hO1 hb50 ?_
        refine r_iload x_424_133 rfl ?_
        obtain ⟨n51, hA52, h⟩ := h
        obtain ⟨h53, h⟩ := h
        refine r_bald x_424_135 (Or.inl rfl) hA52 hr33 h53.1 h53.2 ?_
        refine r_iconst x_424_136 ?_
        refine r_ic_ne x_424_137 (t := 225) (by decide +kernel) (hok46.1 _ _) (g_Rk rfl) (fun hc => ?_) (fun hc => ?_)
        · replace h := h.2 hc
          exact h
        · replace h := h.1 hc
          refine r_aload_n x_424_140 rfl ?_
          refine r_aload_n x_424_141 rfl ?_
          refine r_iload x_424_142 rfl ?_
          refine r_invV x_424_144 (z := 233) (ns := 0) (by decide +kernel) (as := [g_n r32]) (r := [.ref a0]) rfl rfl rfl hO1 rfl rfl ?_
          refine r_callI h fun r57 M54 hx55 hok56 hr58 h => ?_
          replace h := h hx55 hok56 hr58
          replace hO1 := hO1.up hx55
          replace hA52 := hA52.up hx55
          refine r_invV x_424_147 (z := 412) (ns := 0) (by decide +kernel) (as := [g_n r57]) (r := []) rfl rfl rfl hO1 rfl rfl ?_
          refine r_callI h fun r62 M59 hx60 hok61 hr63 h => ?_
          replace h := h hx60 hok61 hr63
          replace hO1 := hO1.up hx60
          replace hA52 := hA52.up hx60
          refine r_if_ne x_424_150 (t := 155) (by decide +kernel) hr63 (fun hc => ?_) (fun hc => ?_)
          · replace h := h.2 hc
            refine r_iconst x_424_155 ?_
            refine r_istore x_424_156 (by decide +kernel) rfl (lv1 := [(0, .ref a0), (1, g_n v1), (2, g_n v2), (3, g_n v3), (4, g_n r32), (5, g_n 0)]) rfl ?_
            refine r_iconst x_424_158 ?_
            refine r_istore x_424_159 (by decide +kernel) rfl (lv1 := [(0, .ref a0), (1, g_n v1), (2, g_n v2), (3, g_n v3), (4, g_n r32), (5, g_n 0), (6, g_n 0)]) rfl ?_
            exact h
          · replace h := h.1 hc
            refine r_iconst x_424_153 ?_
            exact r_retZ x_424_154 rfl (Or.inl rfl) h
theorem s_X12_pipeline_161 {d : Nat} {M : g_M} {Q : Int → g_M → Prop} {a0 : Nat} {v1 : Int} (hv1 : g_InR v1) {v2 : Int} (hv2 : g_InR v2) {v3 : Int} (hv3 : g_InR v3) {v4 : Int} (hv4 : g_InR v4) {v5 : Int} (hv5 : g_InR v5) {v6 : Int} (hv6 : g_InR v6) (h : g_ok M → g_O M a0 12 ∧ ((v6 < g_i M a0 19 → g_Call d 233 [.ref a0, g_n v4] M (g_qI fun r14 M11 => g_ext M M11 → g_ok M11 → g_InR r14 → ∃ b16, g_r M11 a0 18 = some b16 ∧ ∃ n18, g_A M11 b16 1 n18 ∧ ((0 : Int) ≤ v6 ∧ (v6 : Int) < n18) ∧ g_Call d 293 [.ref a0, g_n r14, g_n (g_i M11 b16 v6)] M11 (g_qI fun r24 M21 => g_ext M11 M21 → g_ok M21 → g_InR r24 → ((r24 = 0 → g_InR (v6 + 1) ∧ g_Run d 424 161 [(0, .ref a0), (1, g_n v1), (2, g_n v2), (3, g_n v3), (4, g_n v4), (5, g_n v5), (6, g_n (v6 + 1))] [] M21 (g_qI Q)) ∧ (¬ r24 = 0 → ∃ b26, g_r M21 a0 18 = some b26 ∧ ∃ b28, g_r M21 a0 18 = some b28 ∧ ∃ n30, g_A M21 b28 1 n30 ∧ ((0 : Int) ≤ v6 ∧ (v6 : Int) < n30) ∧ ∃ n33, g_A M21 b26 1 n33 ∧ ((0 : Int) ≤ v5 ∧ (v5 : Int) < n33) ∧ (∀ M36, M36 = g_wi M21 b26 v5 (g_i M21 b28 v6) → g_ok M36 → g_InR (v5 + 1) ∧ g_InR (v6 + 1) ∧ g_Run d 424 161 [(0, .ref a0), (1, g_n v1), (2, g_n v2), (3, g_n v3), (4, g_n v4), (5, g_n (v5 + 1)), (6, g_n (v6 + 1))] [] M36 (g_qI Q))))))) ∧ (¬ v6 < g_i M a0 19 → (∀ M2, M2 = g_wi M a0 19 v5 → g_ok M2 → g_Call d 235 [.ref a0, g_n v3] M2 (g_qI fun r9 M6 => g_ext M2 M6 → g_ok M6 → g_InR r9 → g_Run d 424 85 [(0, .ref a0), (1, g_n v1), (2, g_n v2), (3, g_n r9)] [] M6 (g_qI Q)))))) : g_Run d 424 161 [(0, .ref a0), (1, g_n v1), (2, g_n v2), (3, g_n v3), (4, g_n v4), (5, g_n v5), (6, g_n v6)] [] M (g_qI Q) := by
  refine g_Run.ok fun hok => ?_
  replace h := h hok
  refine r_iload x_424_161 rfl ?_
  refine r_aload_n x_424_163 rfl ?_
  obtain ⟨hO1, h⟩ := h
  refine r_getI x_424_164 rfl (ci := 12) (k := 19) (ns := 0) (by decide +kernel) (by decide) rfl (kz := 19) rfl hO1 ?_
  refine r_ic_ge x_424_167 (t := 216) (by decide +kernel) hv6 (hok.1 _ _) (fun hc => ?_) (fun hc => ?_)
  · replace h := h.2 hc
    refine r_aload_n x_424_216 rfl ?_
    refine r_iload x_424_217 rfl ?_
    refine r_putI x_424_219 (ci := 12) (k := 19) (ns := 0) (by decide +kernel) (by decide) (g_f0 (by decide +kernel)) rfl hv5 trivial (kz := 19) rfl hO1 ?_
    obtain ⟨M2, hM3⟩ : ∃ Mz, Mz = g_wi M a0 19 v5 := ⟨_, rfl⟩
    rw [← hM3]
    refine g_Run.ok fun hok4 => ?_
    replace h := h M2 hM3 hok4
    have hx5 := g_extW hM3
    replace hO1 := hO1.up hx5
    refine r_goto x_424_222 (t := 270) (by decide +kernel) ?_
    refine r_aload_n x_424_270 rfl ?_
    refine r_iload_n x_424_271 rfl ?_
    refine r_invV x_424_272 (z := 235) (ns := 0) (by decide +kernel) (as := [g_n v3]) (r := []) rfl rfl rfl hO1 rfl rfl ?_
    refine r_callI h fun r9 M6 hx7 hok8 hr10 h => ?_
    replace h := h hx7 hok8 hr10
    replace hO1 := hO1.up hx7
    refine r_istore_n x_424_275 (by decide +kernel) rfl (lv1 := [(0, .ref a0), (1, g_n v1), (2, g_n v2), (3, g_n r9), (4, g_n v4), (5, g_n v5), (6, g_n v6)]) rfl ?_
    refine r_goto x_424_276 (t := 85) (by decide +kernel) ?_
    refine g_drop [0, 1, 2, 3] (lv1 := [(0, .ref a0), (1, g_n v1), (2, g_n v2), (3, g_n r9)]) rfl ?_
    exact h
  · replace h := h.1 hc
    refine r_aload_n x_424_170 rfl ?_
    refine r_aload_n x_424_171 rfl ?_
    refine r_iload x_424_172 rfl ?_
    refine r_invV x_424_174 (z := 233) (ns := 0) (by decide +kernel) (as := [g_n v4]) (r := [.ref a0]) rfl rfl rfl hO1 rfl rfl ?_
    refine r_callI h fun r14 M11 hx12 hok13 hr15 h => ?_
    replace h := h hx12 hok13 hr15
    replace hO1 := hO1.up hx12
    refine r_aload_n x_424_177 rfl ?_
    obtain ⟨b16, hb17, h⟩ := h
    refine r_getR x_424_178 rfl (ci := 12) (k := 18) (ns := 0) (by decide +kernel) (by decide) rfl (kz := 18) rfl hO1 hb17 ?_
    refine r_iload x_424_181 rfl ?_
    obtain ⟨n18, hA19, h⟩ := h
    obtain ⟨h20, h⟩ := h
    refine r_iald x_424_183 hA19 hv6 h20.1 h20.2 ?_
    refine r_invV x_424_184 (z := 293) (ns := 0) (by decide +kernel) (as := [g_n r14, g_n (g_i M11 b16 v6)]) (r := []) rfl rfl rfl hO1 rfl rfl ?_
    refine r_callI h fun r24 M21 hx22 hok23 hr25 h => ?_
    replace h := h hx22 hok23 hr25
    replace hO1 := hO1.up hx22
    replace hA19 := hA19.up hx22
    refine r_if_ne x_424_187 (t := 193) (by decide +kernel) hr25 (fun hc => ?_) (fun hc => ?_)
    · replace h := h.2 hc
      refine r_aload_n x_424_193 rfl ?_
      obtain ⟨b26, hb27, h⟩ := h
      refine r_getR x_424_194 rfl (ci := 12) (k := 18) (ns := 0) (by decide +kernel) (by decide) rfl (kz := 18) rfl hO1 hb27 ?_
      refine r_iload x_424_197 rfl ?_
      refine r_aload_n x_424_199 rfl ?_
      obtain ⟨b28, hb29, h⟩ := h
      refine r_getR x_424_200 rfl (ci := 12) (k := 18) (ns := 0) (by decide +kernel) (by decide) rfl (kz := 18) rfl hO1 hb29 ?_
      refine r_iload x_424_203 rfl ?_
      obtain ⟨n30, hA31, h⟩ := h
      obtain ⟨h32, h⟩ := h
      refine r_iald x_424_205 hA31 hv6 h32.1 h32.2 ?_
      obtain ⟨n33, hA34, h⟩ := h
      obtain ⟨h35, h⟩ := h
      refine r_iast x_424_206 hA34 hv5 h35.1 h35.2 (hok23.1 _ _) ?_
      obtain ⟨M36, hM37⟩ : ∃ Mz, Mz = g_wi M21 b26 v5 (g_i M21 b28 v6) := ⟨_, rfl⟩
      rw [← hM37]
      refine g_Run.ok fun hok38 => ?_
      replace h := h M36 hM37 hok38
      have hx39 := g_extW hM37
      replace hO1 := hO1.up hx39
      replace hA19 := hA19.up hx39
      replace hA31 := hA31.up hx39
      replace hA34 := hA34.up hx39
      obtain ⟨h40, h⟩ := h
      refine r_iinc x_424_207 (by decide +kernel) rfl rfl (lv1 := [(0, .ref a0), (1, g_n v1), (2, g_n v2), (3, g_n v3), (4, g_n v4), (5, g_n (v5 + 1)), (6, g_n v6)]) rfl ?_
      obtain ⟨h41, h⟩ := h
      refine r_iinc x_424_210 (by decide +kernel) rfl rfl (lv1 := [(0, .ref a0), (1, g_n v1), (2, g_n v2), (3, g_n v3), (4, g_n v4), (5, g_n (v5 + 1)), (6, g_n (v6 + 1))]) rfl ?_
      refine r_goto x_424_213 (t := 161) (by decide +kernel) ?_
      exact h
    · replace h := h.1 hc
      refine r_goto x_424_190 (t := 210) (by decide +kernel) ?_
      obtain ⟨h42, h⟩ := h
      refine r_iinc x_424_210 (by decide +kernel) rfl rfl (lv1 := [(0, .ref a0), (1, g_n v1), (2, g_n v2), (3, g_n v3), (4, g_n v4), (5, g_n v5), (6, g_n (v6 + 1))]) rfl ?_
      refine r_goto x_424_213 (t := 161) (by decide +kernel) ?_
      exact h
theorem s_X12_pipeline_225 {d : Nat} {M : g_M} {Q : Int → g_M → Prop} {a0 : Nat} {v1 : Int} (hv1 : g_InR v1) {v2 : Int} (hv2 : g_InR v2) {v3 : Int} (hv3 : g_InR v3) {v4 : Int} (hv4 : g_InR v4) (h : g_ok M → g_O M a0 12 ∧ g_Call d 233 [.ref a0, g_n v3] M (g_qI fun r5 M2 => g_ext M M2 → g_ok M2 → g_InR r5 → g_Call d 330 [.ref a0, g_n r5] M2 (g_qI fun r10 M7 => g_ext M2 M7 → g_ok M7 → g_InR r10 → ((r10 = 0 → g_Call d 339 [.ref a0, g_n v4] M7 (g_qI fun r15 M12 => g_ext M7 M12 → g_ok M12 → g_InR r15 → g_Run d 424 252 [(0, .ref a0), (1, g_n v1), (2, g_n v2), (3, g_n v3), (4, g_n v4), (5, g_n r10)] [g_n r15] M12 (g_qI Q))) ∧ (¬ r10 = 0 → g_Run d 424 252 [(0, .ref a0), (1, g_n v1), (2, g_n v2), (3, g_n v3), (4, g_n v4), (5, g_n r10)] [g_n r10] M7 (g_qI Q)))))) : g_Run d 424 225 [(0, .ref a0), (1, g_n v1), (2, g_n v2), (3, g_n v3), (4, g_n v4)] [] M (g_qI Q) := by
  refine g_Run.ok fun hok => ?_
  replace h := h hok
  refine r_aload_n x_424_225 rfl ?_
  refine r_aload_n x_424_226 rfl ?_
  refine r_iload_n x_424_227 rfl ?_
  obtain ⟨hO1, h⟩ := h
  refine r_invV x_424_228 (z := 233) (ns := 0) (by decide +kernel) (as := [g_n v3]) (r := [.ref a0]) rfl rfl rfl hO1 rfl rfl ?_
  refine r_callI h fun r5 M2 hx3 hok4 hr6 h => ?_
  replace h := h hx3 hok4 hr6
  replace hO1 := hO1.up hx3
  refine r_invV x_424_231 (z := 330) (ns := 0) (by decide +kernel) (as := [g_n r5]) (r := []) rfl rfl rfl hO1 rfl rfl ?_
  refine r_callI h fun r10 M7 hx8 hok9 hr11 h => ?_
  replace h := h hx8 hok9 hr11
  replace hO1 := hO1.up hx8
  refine r_istore x_424_234 (by decide +kernel) rfl (lv1 := [(0, .ref a0), (1, g_n v1), (2, g_n v2), (3, g_n v3), (4, g_n v4), (5, g_n r10)]) rfl ?_
  refine r_iload x_424_236 rfl ?_
  refine r_if_ne x_424_238 (t := 250) (by decide +kernel) hr11 (fun hc => ?_) (fun hc => ?_)
  · replace h := h.2 hc
    refine r_iload x_424_250 rfl ?_
    exact h
  · replace h := h.1 hc
    refine r_aload_n x_424_241 rfl ?_
    refine r_iload x_424_242 rfl ?_
    refine r_invV x_424_244 (z := 339) (ns := 0) (by decide +kernel) (as := [g_n v4]) (r := []) rfl rfl rfl hO1 rfl rfl ?_
    refine r_callI h fun r15 M12 hx13 hok14 hr16 h => ?_
    replace h := h hx13 hok14 hr16
    replace hO1 := hO1.up hx13
    refine r_goto x_424_247 (t := 252) (by decide +kernel) ?_
    exact h
theorem s_X12_pipeline_252 {d : Nat} {M : g_M} {Q : Int → g_M → Prop} {a0 : Nat} {v1 : Int} (hv1 : g_InR v1) {v2 : Int} (hv2 : g_InR v2) {v3 : Int} (hv3 : g_InR v3) {v4 : Int} (hv4 : g_InR v4) {v5 : Int} (hv5 : g_InR v5) {w0 : Int} (hw0 : g_InR w0) (h : g_ok M → ((0 < w0 → g_InR (30 + w0) ∧ g_O M a0 12 ∧ g_Call d 405 [.ref a0, g_n (30 + w0), g_n v3] M (g_qI fun r12 M9 => g_ext M M9 → g_ok M9 → g_InR r12 → (r12 = 0 ∨ r12 = 1) ∧ Q r12 M9)) ∧ (¬ 0 < w0 → g_O M a0 12 ∧ g_Call d 235 [.ref a0, g_n v3] M (g_qI fun r5 M2 => g_ext M M2 → g_ok M2 → g_InR r5 → g_Run d 424 85 [(0, .ref a0), (1, g_n v1), (2, g_n v2), (3, g_n r5)] [] M2 (g_qI Q))))) : g_Run d 424 252 [(0, .ref a0), (1, g_n v1), (2, g_n v2), (3, g_n v3), (4, g_n v4), (5, g_n v5)] [g_n w0] M (g_qI Q) := by
  refine g_Run.ok fun hok => ?_
  replace h := h hok
  refine r_istore x_424_252 (by decide +kernel) rfl (lv1 := [(0, .ref a0), (1, g_n v1), (2, g_n v2), (3, g_n v3), (4, g_n v4), (5, g_n w0)]) rfl ?_
  refine r_iload x_424_254 rfl ?_
  refine r_if_le x_424_256 (t := 270) (by decide +kernel) hw0 (fun hc => ?_) (fun hc => ?_)
  · replace h := h.2 hc
    refine r_aload_n x_424_270 rfl ?_
    refine r_iload_n x_424_271 rfl ?_
    obtain ⟨hO1, h⟩ := h
    refine r_invV x_424_272 (z := 235) (ns := 0) (by decide +kernel) (as := [g_n v3]) (r := []) rfl rfl rfl hO1 rfl rfl ?_
    refine r_callI h fun r5 M2 hx3 hok4 hr6 h => ?_
    replace h := h hx3 hok4 hr6
    replace hO1 := hO1.up hx3
    refine r_istore_n x_424_275 (by decide +kernel) rfl (lv1 := [(0, .ref a0), (1, g_n v1), (2, g_n v2), (3, g_n r5), (4, g_n v4), (5, g_n w0)]) rfl ?_
    refine r_goto x_424_276 (t := 85) (by decide +kernel) ?_
    refine g_drop [0, 1, 2, 3] (lv1 := [(0, .ref a0), (1, g_n v1), (2, g_n v2), (3, g_n r5)]) rfl ?_
    exact h
  · replace h := h.1 hc
    refine r_aload_n x_424_259 rfl ?_
    refine r_bipush x_424_260 (x := 30) rfl ?_
    refine r_iload x_424_262 rfl ?_
    refine r_iadd x_424_264 ?_
    obtain ⟨h7, h⟩ := h
    refine r_iload_n x_424_265 rfl ?_
    obtain ⟨hO8, h⟩ := h
    refine r_invV x_424_266 (z := 405) (ns := 0) (by decide +kernel) (as := [g_n (30 + w0), g_n v3]) (r := []) rfl rfl rfl hO8 rfl rfl ?_
    refine r_callI h fun r12 M9 hx10 hok11 hr13 h => ?_
    replace h := h hx10 hok11 hr13
    replace hO8 := hO8.up hx10
    obtain ⟨hz, h⟩ := h
    exact r_retZ x_424_269 rfl hz h
theorem s_X12_pipeline_314 {d : Nat} {M : g_M} {Q : Int → g_M → Prop} {a0 : Nat} {v1 : Int} (hv1 : g_InR v1) {v2 : Int} (hv2 : g_InR v2) {v3 : Int} (hv3 : g_InR v3) {v4 : Int} (hv4 : g_InR v4) (h : g_ok M → g_O M a0 12 ∧ ((v4 < g_i M a0 19 → g_Call d 246 [.ref a0, g_n 3] M (g_qV fun M10 => g_ext M M10 → g_ok M10 → g_Call d 250 [.ref a0, g_n v4] M10 (g_qV fun M13 => g_ext M10 M13 → g_ok M13 → ∃ b16, g_r M13 a0 18 = some b16 ∧ ∃ n18, g_A M13 b16 1 n18 ∧ ((0 : Int) ≤ v4 ∧ (v4 : Int) < n18) ∧ ∃ b21, g_r M13 a0 18 = some b21 ∧ ∃ n23, g_A M13 b21 1 n23 ∧ ((0 : Int) ≤ v4 ∧ (v4 : Int) < n23) ∧ ∃ b26, g_r M13 a0 18 = some b26 ∧ ∃ n28, g_A M13 b26 1 n28 ∧ ((0 : Int) ≤ v4 ∧ (v4 : Int) < n28) ∧ g_Call d 227 [.ref a0, g_n (g_i M13 b26 v4)] M13 (g_qI fun r34 M31 => g_ext M13 M31 → g_ok M31 → g_InR r34 → g_InR ((g_i M13 b21 v4) + r34) ∧ g_Call d 248 [.ref a0, g_n (g_i M13 b16 v4), g_n ((g_i M13 b21 v4) + r34)] M31 (g_qV fun M37 => g_ext M31 M37 → g_ok M37 → g_InR (v4 + 1) ∧ g_Run d 424 314 [(0, .ref a0), (1, g_n v1), (2, g_n v2), (3, g_n v3), (4, g_n (v4 + 1))] [] M37 (g_qI Q)))))) ∧ (¬ v4 < g_i M a0 19 → g_Call d 252 [.ref a0, g_n v3] M (g_qV fun M2 => g_ext M M2 → g_ok M2 → g_Call d 415 [.ref a0] M2 (g_qI fun r8 M5 => g_ext M2 M5 → g_ok M5 → g_InR r8 → (r8 = 0 ∨ r8 = 1) ∧ Q r8 M5))))) : g_Run d 424 314 [(0, .ref a0), (1, g_n v1), (2, g_n v2), (3, g_n v3), (4, g_n v4)] [] M (g_qI Q) := by
  refine g_Run.ok fun hok => ?_
  replace h := h hok
  refine r_iload x_424_314 rfl ?_
  refine r_aload_n x_424_316 rfl ?_
  obtain ⟨hO1, h⟩ := h
  refine r_getI x_424_317 rfl (ci := 12) (k := 19) (ns := 0) (by decide +kernel) (by decide) rfl (kz := 19) rfl hO1 ?_
  refine r_ic_ge x_424_320 (t := 370) (by decide +kernel) hv4 (hok.1 _ _) (fun hc => ?_) (fun hc => ?_)
  · replace h := h.2 hc
    refine r_aload_n x_424_370 rfl ?_
    refine r_iload_n x_424_371 rfl ?_
    refine r_invV x_424_372 (z := 252) (ns := 0) (by decide +kernel) (as := [g_n v3]) (r := []) rfl rfl rfl hO1 rfl rfl ?_
    refine r_callV h fun M2 hx3 hok4 h => ?_
    replace h := h hx3 hok4
    replace hO1 := hO1.up hx3
    refine r_aload_n x_424_375 rfl ?_
    refine r_invV x_424_376 (z := 415) (ns := 0) (by decide +kernel) (as := []) (r := []) rfl rfl rfl hO1 rfl rfl ?_
    refine r_callI h fun r8 M5 hx6 hok7 hr9 h => ?_
    replace h := h hx6 hok7 hr9
    replace hO1 := hO1.up hx6
    obtain ⟨hz, h⟩ := h
    exact r_retZ x_424_379 rfl hz h
  · replace h := h.1 hc
    refine r_aload_n x_424_323 rfl ?_
    refine r_iconst x_424_324 ?_
    refine r_invV x_424_325 (z := 246) (ns := 0) (by decide +kernel) (as := [g_n 3]) (r := []) rfl rfl rfl hO1 rfl rfl ?_
    refine r_callV h fun M10 hx11 hok12 h => ?_
    replace h := h hx11 hok12
    replace hO1 := hO1.up hx11
    refine r_aload_n x_424_328 rfl ?_
    refine r_iload x_424_329 rfl ?_
    refine r_invV x_424_331 (z := 250) (ns := 0) (by decide +kernel) (as := [g_n v4]) (r := []) rfl rfl rfl hO1 rfl rfl ?_
    refine r_callV h fun M13 hx14 hok15 h => ?_
    replace h := h hx14 hok15
    replace hO1 := hO1.up hx14
    refine r_aload_n x_424_334 rfl ?_
    refine r_aload_n x_424_335 rfl ?_
    obtain ⟨b16, hb17, h⟩ := h
    refine r_getR x_424_336 rfl (ci := 12) (k := 18) (ns := 0) (by decide +kernel) (by decide) rfl (kz := 18) rfl hO1 hb17 ?_
    refine r_iload x_424_339 rfl ?_
    obtain ⟨n18, hA19, h⟩ := h
    obtain ⟨h20, h⟩ := h
    refine r_iald x_424_341 hA19 hv4 h20.1 h20.2 ?_
    refine r_aload_n x_424_342 rfl ?_
    obtain ⟨b21, hb22, h⟩ := h
    refine r_getR x_424_343 rfl (ci := 12) (k := 18) (ns := 0) (by decide +kernel) (by decide) rfl (kz := 18) rfl hO1 hb22 ?_
    refine r_iload x_424_346 rfl ?_
    obtain ⟨n23, hA24, h⟩ := h
    obtain ⟨h25, h⟩ := h
    refine r_iald x_424_348 hA24 hv4 h25.1 h25.2 ?_
    refine r_aload_n x_424_349 rfl ?_
    refine r_aload_n x_424_350 rfl ?_
    obtain ⟨b26, hb27, h⟩ := h
    refine r_getR x_424_351 rfl (ci := 12) (k := 18) (ns := 0) (by decide +kernel) (by decide) rfl (kz := 18) rfl hO1 hb27 ?_
    refine r_iload x_424_354 rfl ?_
    obtain ⟨n28, hA29, h⟩ := h
    obtain ⟨h30, h⟩ := h
    refine r_iald x_424_356 hA29 hv4 h30.1 h30.2 ?_
    refine r_invV x_424_357 (z := 227) (ns := 0) (by decide +kernel) (as := [g_n (g_i M13 b26 v4)]) (r := [g_n (g_i M13 b21 v4), g_n (g_i M13 b16 v4), .ref a0]) rfl rfl rfl hO1 rfl rfl ?_
    refine r_callI h fun r34 M31 hx32 hok33 hr35 h => ?_
    replace h := h hx32 hok33 hr35
    replace hO1 := hO1.up hx32
    replace hA19 := hA19.up hx32
    replace hA24 := hA24.up hx32
    replace hA29 := hA29.up hx32
    refine r_iadd x_424_360 ?_
    obtain ⟨h36, h⟩ := h
    refine r_invV x_424_361 (z := 248) (ns := 0) (by decide +kernel) (as := [g_n (g_i M13 b16 v4), g_n ((g_i M13 b21 v4) + r34)]) (r := []) rfl rfl rfl hO1 rfl rfl ?_
    refine r_callV h fun M37 hx38 hok39 h => ?_
    replace h := h hx38 hok39
    replace hO1 := hO1.up hx38
    replace hA19 := hA19.up hx38
    replace hA24 := hA24.up hx38
    replace hA29 := hA29.up hx38
    obtain ⟨h40, h⟩ := h
    refine r_iinc x_424_364 (by decide +kernel) rfl rfl (lv1 := [(0, .ref a0), (1, g_n v1), (2, g_n v2), (3, g_n v3), (4, g_n (v4 + 1))]) rfl ?_
    refine r_goto x_424_367 (t := 314) (by decide +kernel) ?_
    exact h
theorem m_X12_feed {d : Nat} {M : g_M} {Q : Int → g_M → Prop} {a0 : Nat} {v1 : Int} (hv1 : g_InR v1) {v2 : Int} (hv2 : g_InR v2) {v3 : Int} (hv3 : g_InR v3) {v4 : Int} (hv4 : g_InR v4) {v5 : Int} (hv5 : g_InR v5) (h : g_ok M → g_O M a0 12 ∧ g_InR ((g_i M a0 2) + 20) ∧ ((2000 < (g_i M a0 2) + 20 → Q ((-1)) M) ∧ (¬ 2000 < (g_i M a0 2) + 20 → g_Run d 425 18 [(0, .ref a0), (1, g_n v1), (2, g_n v2), (3, g_n v3), (4, g_n v4), (5, g_n v5), (6, g_n 0)] [] M (g_qI Q)))) : g_Call (d + 1) 425 [.ref a0, g_n v1, g_n v2, g_n v3, g_n v4, g_n v5] M (g_qI Q) := by
  refine g_Call.ok fun hok0 => ?_
  replace h := h hok0
  refine r_body rfl (lv := [(0, .ref a0), (1, g_n v1), (2, g_n v2), (3, g_n v3), (4, g_n v4), (5, g_n v5)]) rfl ?_
  refine g_Run.ok fun hok => ?_
  refine r_aload_n x_425_0 rfl ?_
  obtain ⟨hO1, h⟩ := h
  refine r_getI x_425_1 rfl (ci := 12) (k := 2) (ns := 0) (by decide +kernel) (by decide) rfl (kz := 2) rfl hO1 ?_
  refine r_bipush x_425_4 (x := 20) rfl ?_
  refine r_iadd x_425_6 ?_
  obtain ⟨h2, h⟩ := h
  refine r_sipush x_425_7 (x := 2000) rfl ?_
  refine r_ic_le x_425_10 (t := 15) (by decide +kernel) h2 (g_Rk rfl) (fun hc => ?_) (fun hc => ?_)
  · replace h := h.2 hc
    refine r_iconst x_425_15 ?_
    refine r_istore x_425_16 (by decide +kernel) rfl (lv1 := [(0, .ref a0), (1, g_n v1), (2, g_n v2), (3, g_n v3), (4, g_n v4), (5, g_n v5), (6, g_n 0)]) rfl ?_
    exact h
  · replace h := h.1 hc
    refine r_iconst x_425_13 ?_
    exact r_retI x_425_14 rfl (g_Rk rfl) h
theorem s_X12_feed_18 {d : Nat} {M : g_M} {Q : Int → g_M → Prop} {a0 : Nat} {v1 : Int} (hv1 : g_InR v1) {v2 : Int} (hv2 : g_InR v2) {v3 : Int} (hv3 : g_InR v3) {v4 : Int} (hv4 : g_InR v4) {v5 : Int} (hv5 : g_InR v5) {v6 : Int} (hv6 : g_InR v6) (h : g_ok M → ((v6 < 20 → ((v6 < 4 → g_Run d 425 71 [(0, .ref a0), (1, g_n v1), (2, g_n v2), (3, g_n v3), (4, g_n v4), (5, g_n v5), (6, g_n v6)] [g_n v1] M (g_qI Q)) ∧ (¬ v6 < 4 → ((v6 < 8 → g_Run d 425 71 [(0, .ref a0), (1, g_n v1), (2, g_n v2), (3, g_n v3), (4, g_n v4), (5, g_n v5), (6, g_n v6)] [g_n v2] M (g_qI Q)) ∧ (¬ v6 < 8 → ((v6 < 12 → g_Run d 425 71 [(0, .ref a0), (1, g_n v1), (2, g_n v2), (3, g_n v3), (4, g_n v4), (5, g_n v5), (6, g_n v6)] [g_n v3] M (g_qI Q)) ∧ (¬ v6 < 12 → ((v6 < 16 → g_Run d 425 71 [(0, .ref a0), (1, g_n v1), (2, g_n v2), (3, g_n v3), (4, g_n v4), (5, g_n v5), (6, g_n v6)] [g_n v4] M (g_qI Q)) ∧ (¬ v6 < 16 → g_Run d 425 71 [(0, .ref a0), (1, g_n v1), (2, g_n v2), (3, g_n v3), (4, g_n v4), (5, g_n v5), (6, g_n v6)] [g_n v5] M (g_qI Q)))))))))) ∧ (¬ v6 < 20 → g_O M a0 12 ∧ Q (g_i M a0 2) M))) : g_Run d 425 18 [(0, .ref a0), (1, g_n v1), (2, g_n v2), (3, g_n v3), (4, g_n v4), (5, g_n v5), (6, g_n v6)] [] M (g_qI Q) := by
  refine g_Run.ok fun hok => ?_
  replace h := h hok
  refine r_iload x_425_18 rfl ?_
  refine r_bipush x_425_20 (x := 20) rfl ?_
  refine r_ic_ge x_425_22 (t := 115) (by decide +kernel) hv6 (g_Rk rfl) (fun hc => ?_) (fun hc => ?_)
  · replace h := h.2 hc
    refine r_aload_n x_425_115 rfl ?_
    obtain ⟨hO1, h⟩ := h
    refine r_getI x_425_116 rfl (ci := 12) (k := 2) (ns := 0) (by decide +kernel) (by decide) rfl (kz := 2) rfl hO1 ?_
    exact r_retI x_425_119 rfl (hok.1 _ _) h
  · replace h := h.1 hc
    refine r_iload x_425_25 rfl ?_
    refine r_iconst x_425_27 ?_
    refine r_ic_ge x_425_28 (t := 35) (by decide +kernel) hv6 (g_Rk rfl) (fun hc => ?_) (fun hc => ?_)
    · replace h := h.2 hc
      refine r_iload x_425_35 rfl ?_
      refine r_bipush x_425_37 (x := 8) rfl ?_
      refine r_ic_ge x_425_39 (t := 46) (by decide +kernel) hv6 (g_Rk rfl) (fun hc => ?_) (fun hc => ?_)
      · replace h := h.2 hc
        refine r_iload x_425_46 rfl ?_
        refine r_bipush x_425_48 (x := 12) rfl ?_
        refine r_ic_ge x_425_50 (t := 57) (by decide +kernel) hv6 (g_Rk rfl) (fun hc => ?_) (fun hc => ?_)
        · replace h := h.2 hc
          refine r_iload x_425_57 rfl ?_
          refine r_bipush x_425_59 (x := 16) rfl ?_
          refine r_ic_ge x_425_61 (t := 69) (by decide +kernel) hv6 (g_Rk rfl) (fun hc => ?_) (fun hc => ?_)
          · replace h := h.2 hc
            refine r_iload x_425_69 rfl ?_
            exact h
          · replace h := h.1 hc
            refine r_iload x_425_64 rfl ?_
            refine r_goto x_425_66 (t := 71) (by decide +kernel) ?_
            exact h
        · replace h := h.1 hc
          refine r_iload_n x_425_53 rfl ?_
          refine r_goto x_425_54 (t := 71) (by decide +kernel) ?_
          exact h
      · replace h := h.1 hc
        refine r_iload_n x_425_42 rfl ?_
        refine r_goto x_425_43 (t := 71) (by decide +kernel) ?_
        exact h
    · replace h := h.1 hc
      refine r_iload_n x_425_31 rfl ?_
      refine r_goto x_425_32 (t := 71) (by decide +kernel) ?_
      exact h
theorem s_X12_feed_71 {d : Nat} {M : g_M} {Q : Int → g_M → Prop} {a0 : Nat} {v1 : Int} (hv1 : g_InR v1) {v2 : Int} (hv2 : g_InR v2) {v3 : Int} (hv3 : g_InR v3) {v4 : Int} (hv4 : g_InR v4) {v5 : Int} (hv5 : g_InR v5) {v6 : Int} (hv6 : g_InR v6) {w0 : Int} (hw0 : g_InR w0) (h : g_ok M → g_O M a0 12 ∧ ∃ b2, g_r M a0 1 = some b2 ∧ g_InR (8 * (v6.tmod 4)) ∧ g_InR (24 - (8 * (v6.tmod 4))) ∧ ∃ n6, g_A M b2 1 n6 ∧ ((0 : Int) ≤ g_i M a0 2 ∧ (g_i M a0 2 : Int) < n6) ∧ (∀ M9, M9 = g_wi M b2 (g_i M a0 2) (g_and (g_shr w0 (24 - (8 * (v6.tmod 4)))) 255) → g_ok M9 → g_InR ((g_i M9 a0 2) + 1) ∧ (∀ M14, M14 = g_wi M9 a0 2 ((g_i M9 a0 2) + 1) → g_ok M14 → g_InR (v6 + 1) ∧ g_Run d 425 18 [(0, .ref a0), (1, g_n v1), (2, g_n v2), (3, g_n v3), (4, g_n v4), (5, g_n v5), (6, g_n (v6 + 1))] [] M14 (g_qI Q)))) : g_Run d 425 71 [(0, .ref a0), (1, g_n v1), (2, g_n v2), (3, g_n v3), (4, g_n v4), (5, g_n v5), (6, g_n v6)] [g_n w0] M (g_qI Q) := by
  refine g_Run.ok fun hok => ?_
  replace h := h hok
  refine r_istore x_425_71 (by decide +kernel) rfl (lv1 := [(0, .ref a0), (1, g_n v1), (2, g_n v2), (3, g_n v3), (4, g_n v4), (5, g_n v5), (6, g_n v6), (7, g_n w0)]) rfl ?_
  refine r_aload_n x_425_73 rfl ?_
  obtain ⟨hO1, h⟩ := h
  obtain ⟨b2, hb3, h⟩ := h
  refine r_getR x_425_74 rfl (ci := 12) (k := 1) (ns := 0) (by decide +kernel) (by decide) rfl (kz := 1) rfl hO1 hb3 ?_
  refine r_aload_n x_425_77 rfl ?_
  refine r_getI x_425_78 rfl (ci := 12) (k := 2) (ns := 0) (by decide +kernel) (by decide) rfl (kz := 2) rfl hO1 ?_
  refine r_iload x_425_81 rfl ?_
  refine r_bipush x_425_83 (x := 24) rfl ?_
  refine r_bipush x_425_85 (x := 8) rfl ?_
  refine r_iload x_425_87 rfl ?_
  refine r_iconst x_425_89 ?_
  refine r_irem x_425_90 hv6 (g_Rk rfl) (by decide) ?_
  refine r_imul x_425_91 ?_
  obtain ⟨h4, h⟩ := h
  refine r_isub x_425_92 ?_
  obtain ⟨h5, h⟩ := h
  refine r_ishr x_425_93 ?_
  refine r_sipush x_425_94 (x := 255) rfl ?_
  refine r_iand x_425_97 ?_
  obtain ⟨n6, hA7, h⟩ := h
  obtain ⟨h8, h⟩ := h
  refine r_iast x_425_98 hA7 (hok.1 _ _) h8.1 h8.2 (g_InR_toInt _) ?_
  obtain ⟨M9, hM10⟩ : ∃ Mz, Mz = g_wi M b2 (g_i M a0 2) (g_and (g_shr w0 (24 - (8 * (v6.tmod 4)))) 255) := ⟨_, rfl⟩
  rw [← hM10]
  refine g_Run.ok fun hok11 => ?_
  replace h := h M9 hM10 hok11
  have hx12 := g_extW hM10
  replace hO1 := hO1.up hx12
  replace hA7 := hA7.up hx12
  refine r_aload_n x_425_99 rfl ?_
  refine r_dup x_425_100 rfl ?_
  refine r_getI x_425_101 rfl (ci := 12) (k := 2) (ns := 0) (by decide +kernel) (by decide) rfl (kz := 2) rfl hO1 ?_
  refine r_iconst x_425_104 ?_
  refine r_iadd x_425_105 ?_
  obtain ⟨h13, h⟩ := h
  refine r_putI x_425_106 (ci := 12) (k := 2) (ns := 0) (by decide +kernel) (by decide) (g_f0 (by decide +kernel)) rfl h13 trivial (kz := 2) rfl hO1 ?_
  obtain ⟨M14, hM15⟩ : ∃ Mz, Mz = g_wi M9 a0 2 ((g_i M9 a0 2) + 1) := ⟨_, rfl⟩
  rw [← hM15]
  refine g_Run.ok fun hok16 => ?_
  replace h := h M14 hM15 hok16
  have hx17 := g_extW hM15
  replace hO1 := hO1.up hx17
  replace hA7 := hA7.up hx17
  obtain ⟨h18, h⟩ := h
  refine r_iinc x_425_109 (by decide +kernel) rfl rfl (lv1 := [(0, .ref a0), (1, g_n v1), (2, g_n v2), (3, g_n v3), (4, g_n v4), (5, g_n v5), (6, g_n (v6 + 1)), (7, g_n w0)]) rfl ?_
  refine r_goto x_425_112 (t := 18) (by decide +kernel) ?_
  refine g_drop [0, 1, 2, 3, 4, 5, 6] (lv1 := [(0, .ref a0), (1, g_n v1), (2, g_n v2), (3, g_n v3), (4, g_n v4), (5, g_n v5), (6, g_n (v6 + 1))]) rfl ?_
  exact h
theorem m_X12_ask {d : Nat} {M : g_M} {Q : Int → g_M → Prop} {a0 : Nat} {v1 : Int} (hv1 : g_InR v1) (h : g_ok M → ((v1 < 0 → Q ((-1)) M) ∧ (¬ v1 < 0 → g_O M a0 12 ∧ ((g_i M a0 2 < v1 → Q ((-1)) M) ∧ (¬ g_i M a0 2 < v1 → g_Run d 426 16 [(0, .ref a0), (1, g_n v1), (2, g_n 0)] [] M (g_qI Q)))))) : g_Call (d + 1) 426 [.ref a0, g_n v1] M (g_qI Q) := by
  refine g_Call.ok fun hok0 => ?_
  replace h := h hok0
  refine r_body rfl (lv := [(0, .ref a0), (1, g_n v1)]) rfl ?_
  refine g_Run.ok fun hok => ?_
  refine r_iload_n x_426_0 rfl ?_
  refine r_if_lt x_426_1 (t := 12) (by decide +kernel) hv1 (fun hc => ?_) (fun hc => ?_)
  · replace h := h.1 hc
    refine r_iconst x_426_12 ?_
    exact r_retI x_426_13 rfl (g_Rk rfl) h
  · replace h := h.2 hc
    refine r_iload_n x_426_4 rfl ?_
    refine r_aload_n x_426_5 rfl ?_
    obtain ⟨hO1, h⟩ := h
    refine r_getI x_426_6 rfl (ci := 12) (k := 2) (ns := 0) (by decide +kernel) (by decide) rfl (kz := 2) rfl hO1 ?_
    refine r_ic_le x_426_9 (t := 14) (by decide +kernel) hv1 (hok.1 _ _) (fun hc => ?_) (fun hc => ?_)
    · replace h := h.2 hc
      refine r_iconst x_426_14 ?_
      refine r_istore_n x_426_15 (by decide +kernel) rfl (lv1 := [(0, .ref a0), (1, g_n v1), (2, g_n 0)]) rfl ?_
      exact h
    · replace h := h.1 hc
      refine r_iconst x_426_12 ?_
      exact r_retI x_426_13 rfl (g_Rk rfl) h
theorem s_X12_ask_16 {d : Nat} {M : g_M} {Q : Int → g_M → Prop} {a0 : Nat} {v1 : Int} (hv1 : g_InR v1) {v2 : Int} (hv2 : g_InR v2) (h : g_ok M → ((v2 < v1 → g_O M a0 12 ∧ ∃ b35, g_r M a0 0 = some b35 ∧ g_InR (0 + v2) ∧ ∃ b38, g_r M a0 1 = some b38 ∧ ∃ n40, g_A M b38 1 n40 ∧ ((0 : Int) ≤ v2 ∧ (v2 : Int) < n40) ∧ ∃ n43, g_A M b35 0 n43 ∧ ((0 : Int) ≤ 0 + v2 ∧ (0 + v2 : Int) < n43) ∧ (∀ M46, M46 = g_wi M b35 (0 + v2) (g_w8 (g_w8 (g_i M b38 v2))) → g_ok M46 → g_InR (v2 + 1) ∧ g_Run d 426 16 [(0, .ref a0), (1, g_n v1), (2, g_n (v2 + 1))] [] M46 (g_qI Q))) ∧ (¬ v2 < v1 → g_O M a0 12 ∧ (∀ M2, M2 = g_wi M a0 2 0 → g_ok M2 → (∀ M6, M6 = g_wi M2 a0 10 0 → g_ok M6 → g_Call d 260 [.ref a0, g_n v1] M6 (g_qI fun r13 M10 => g_ext M6 M10 → g_ok M10 → g_InR r13 → ((r13 = 0 → g_Run d 426 74 [(0, .ref a0), (1, g_n v1), (2, g_n v2)] [] M10 (g_qI Q)) ∧ (¬ r13 = 0 → g_Call d 409 [.ref a0] M10 (g_qI fun r18 M15 => g_ext M10 M15 → g_ok M15 → g_InR r18 → ((r18 = 0 → g_Run d 426 74 [(0, .ref a0), (1, g_n v1), (2, g_n v2)] [] M15 (g_qI Q)) ∧ (¬ r18 = 0 → g_Call d 416 [.ref a0] M15 (g_qI fun r23 M20 => g_ext M15 M20 → g_ok M20 → g_InR r23 → ((r23 = 0 → g_Run d 426 74 [(0, .ref a0), (1, g_n v1), (2, g_n v2)] [] M20 (g_qI Q)) ∧ (¬ r23 = 0 → g_Call d 227 [.ref a0, g_n 2598000] M20 (g_qI fun r28 M25 => g_ext M20 M25 → g_ok M25 → g_InR r28 → (∀ M30, M30 = g_wi M25 a0 3 r28 → g_ok M30 → Q (g_i M30 a0 3) M30)))))))))))))))) : g_Run d 426 16 [(0, .ref a0), (1, g_n v1), (2, g_n v2)] [] M (g_qI Q) := by
  refine g_Run.ok fun hok => ?_
  replace h := h hok
  refine r_iload_n x_426_16 rfl ?_
  refine r_iload_n x_426_17 rfl ?_
  refine r_ic_ge x_426_18 (t := 42) (by decide +kernel) hv2 hv1 (fun hc => ?_) (fun hc => ?_)
  · replace h := h.2 hc
    refine r_aload_n x_426_42 rfl ?_
    refine r_iconst x_426_43 ?_
    obtain ⟨hO1, h⟩ := h
    refine r_putI x_426_44 (ci := 12) (k := 2) (ns := 0) (by decide +kernel) (by decide) (g_f0 (by decide +kernel)) rfl (g_Rk rfl) trivial (kz := 2) rfl hO1 ?_
    obtain ⟨M2, hM3⟩ : ∃ Mz, Mz = g_wi M a0 2 0 := ⟨_, rfl⟩
    rw [← hM3]
    refine g_Run.ok fun hok4 => ?_
    replace h := h M2 hM3 hok4
    have hx5 := g_extW hM3
    replace hO1 := hO1.up hx5
    refine r_aload_n x_426_47 rfl ?_
    refine r_iconst x_426_48 ?_
    refine r_putI x_426_49 (ci := 12) (k := 10) (ns := 0) (by decide +kernel) (by decide) (g_f0 (by decide +kernel)) rfl (g_Rk rfl) trivial (kz := 10) rfl hO1 ?_
    obtain ⟨M6, hM7⟩ : ∃ Mz, Mz = g_wi M2 a0 10 0 := ⟨_, rfl⟩
    rw [← hM7]
    refine g_Run.ok fun hok8 => ?_
    replace h := h M6 hM7 hok8
    have hx9 := g_extW hM7
    replace hO1 := hO1.up hx9
    refine r_aload_n x_426_52 rfl ?_
    refine r_iload_n x_426_53 rfl ?_
    refine r_invV x_426_54 (z := 260) (ns := 0) (by decide +kernel) (as := [g_n v1]) (r := []) rfl rfl rfl hO1 rfl rfl ?_
    refine r_callI h fun r13 M10 hx11 hok12 hr14 h => ?_
    replace h := h hx11 hok12 hr14
    replace hO1 := hO1.up hx11
    refine r_if_eq x_426_57 (t := 74) (by decide +kernel) hr14 (fun hc => ?_) (fun hc => ?_)
    · replace h := h.1 hc
      exact h
    · replace h := h.2 hc
      refine r_aload_n x_426_60 rfl ?_
      refine r_invV x_426_61 (z := 409) (ns := 0) (by decide +kernel) (as := []) (r := []) rfl rfl rfl hO1 rfl rfl ?_
      refine r_callI h fun r18 M15 hx16 hok17 hr19 h => ?_
      replace h := h hx16 hok17 hr19
      replace hO1 := hO1.up hx16
      refine r_if_eq x_426_64 (t := 74) (by decide +kernel) hr19 (fun hc => ?_) (fun hc => ?_)
      · replace h := h.1 hc
        exact h
      · replace h := h.2 hc
        refine r_aload_n x_426_67 rfl ?_
        refine r_invV x_426_68 (z := 416) (ns := 0) (by decide +kernel) (as := []) (r := []) rfl rfl rfl hO1 rfl rfl ?_
        refine r_callI h fun r23 M20 hx21 hok22 hr24 h => ?_
        replace h := h hx21 hok22 hr24
        replace hO1 := hO1.up hx21
        refine r_if_ne x_426_71 (t := 105) (by decide +kernel) hr24 (fun hc => ?_) (fun hc => ?_)
        · replace h := h.2 hc
          refine r_aload_n x_426_105 rfl ?_
          refine r_aload_n x_426_106 rfl ?_
          refine r_ldcw x_426_107 (v := g_n 2598000) rfl ?_
          refine r_invV x_426_110 (z := 227) (ns := 0) (by decide +kernel) (as := [g_n 2598000]) (r := [.ref a0]) rfl rfl rfl hO1 rfl rfl ?_
          refine r_callI h fun r28 M25 hx26 hok27 hr29 h => ?_
          replace h := h hx26 hok27 hr29
          replace hO1 := hO1.up hx26
          refine r_putI x_426_113 (ci := 12) (k := 3) (ns := 0) (by decide +kernel) (by decide) (g_f0 (by decide +kernel)) rfl hr29 trivial (kz := 3) rfl hO1 ?_
          obtain ⟨M30, hM31⟩ : ∃ Mz, Mz = g_wi M25 a0 3 r28 := ⟨_, rfl⟩
          rw [← hM31]
          refine g_Run.ok fun hok32 => ?_
          replace h := h M30 hM31 hok32
          have hx33 := g_extW hM31
          replace hO1 := hO1.up hx33
          refine r_aload_n x_426_116 rfl ?_
          refine r_getI x_426_117 rfl (ci := 12) (k := 3) (ns := 0) (by decide +kernel) (by decide) rfl (kz := 3) rfl hO1 ?_
          exact r_retI x_426_120 rfl (hok32.1 _ _) h
        · replace h := h.1 hc
          exact h
  · replace h := h.1 hc
    refine r_aload_n x_426_21 rfl ?_
    obtain ⟨hO34, h⟩ := h
    obtain ⟨b35, hb36, h⟩ := h
    refine r_getR x_426_22 rfl (ci := 12) (k := 0) (ns := 0) (by decide +kernel) (by decide) rfl (kz := 0) rfl hO34 hb36 ?_
    refine r_iconst x_426_25 ?_
    refine r_iload_n x_426_26 rfl ?_
    refine r_iadd x_426_27 ?_
    obtain ⟨h37, h⟩ := h
    refine r_aload_n x_426_28 rfl ?_
    obtain ⟨b38, hb39, h⟩ := h
    refine r_getR x_426_29 rfl (ci := 12) (k := 1) (ns := 0) (by decide +kernel) (by decide) rfl (kz := 1) rfl hO34 hb39 ?_
    refine r_iload_n x_426_32 rfl ?_
    obtain ⟨n40, hA41, h⟩ := h
    obtain ⟨h42, h⟩ := h
    refine r_iald x_426_33 hA41 hv2 h42.1 h42.2 ?_
    refine r_i2b x_426_34 ?_
    obtain ⟨n43, hA44, h⟩ := h
    obtain ⟨h45, h⟩ := h
    refine r_bast0 x_426_35 hA44 h37 h45.1 h45.2 ?_
    obtain ⟨M46, hM47⟩ : ∃ Mz, Mz = g_wi M b35 (0 + v2) (g_w8 (g_w8 (g_i M b38 v2))) := ⟨_, rfl⟩
    rw [← hM47]
    refine g_Run.ok fun hok48 => ?_
    replace h := h M46 hM47 hok48
    have hx49 := g_extW hM47
    replace hO34 := hO34.up hx49
    replace hA41 := hA41.up hx49
    replace hA44 := hA44.up hx49
    obtain ⟨h50, h⟩ := h
    refine r_iinc x_426_36 (by decide +kernel) rfl rfl (lv1 := [(0, .ref a0), (1, g_n v1), (2, g_n (v2 + 1))]) rfl ?_
    refine r_goto x_426_39 (t := 16) (by decide +kernel) ?_
    exact h
theorem s_X12_ask_74 {d : Nat} {M : g_M} {Q : Int → g_M → Prop} {a0 : Nat} {v1 : Int} (hv1 : g_InR v1) {v2 : Int} (hv2 : g_InR v2) (h : g_ok M → g_O M a0 12 ∧ g_Call d 414 [.ref a0] M (g_qV fun M2 => g_ext M M2 → g_ok M2 → g_Call d 255 [.ref a0, .ref (4 * 140 + 1), g_n (g_i M2 a0 7)] M2 (g_qV fun M5 => g_ext M2 M5 → g_ok M5 → g_Call d 255 [.ref a0, .ref (4 * 141 + 1), g_n (g_i M5 a0 8)] M5 (g_qV fun M8 => g_ext M5 M8 → g_ok M8 → g_Call d 415 [.ref a0] M8 (g_qI fun r14 M11 => g_ext M8 M11 → g_ok M11 → g_InR r14 → g_Call d 227 [.ref a0, g_n 2598000] M11 (g_qI fun r19 M16 => g_ext M11 M16 → g_ok M16 → g_InR r19 → (∀ M21, M21 = g_wi M16 a0 3 r19 → g_ok M21 → Q (g_i M21 a0 3) M21))))))) : g_Run d 426 74 [(0, .ref a0), (1, g_n v1), (2, g_n v2)] [] M (g_qI Q) := by
  refine g_Run.ok fun hok => ?_
  replace h := h hok
  refine r_aload_n x_426_74 rfl ?_
  obtain ⟨hO1, h⟩ := h
  refine r_invV x_426_75 (z := 414) (ns := 0) (by decide +kernel) (as := []) (r := []) rfl rfl rfl hO1 rfl rfl ?_
  refine r_callV h fun M2 hx3 hok4 h => ?_
  replace h := h hx3 hok4
  replace hO1 := hO1.up hx3
  refine r_aload_n x_426_78 rfl ?_
  refine r_ldcw x_426_79 (v := .ref (4 * 140 + 1)) rfl ?_
  refine r_aload_n x_426_82 rfl ?_
  refine r_getI x_426_83 rfl (ci := 12) (k := 7) (ns := 0) (by decide +kernel) (by decide) rfl (kz := 7) rfl hO1 ?_
  refine r_invV x_426_86 (z := 255) (ns := 0) (by decide +kernel) (as := [.ref (4 * 140 + 1), g_n (g_i M2 a0 7)]) (r := []) rfl rfl rfl hO1 rfl rfl ?_
  refine r_callV h fun M5 hx6 hok7 h => ?_
  replace h := h hx6 hok7
  replace hO1 := hO1.up hx6
  refine r_aload_n x_426_89 rfl ?_
  refine r_ldcw x_426_90 (v := .ref (4 * 141 + 1)) rfl ?_
  refine r_aload_n x_426_93 rfl ?_
  refine r_getI x_426_94 rfl (ci := 12) (k := 8) (ns := 0) (by decide +kernel) (by decide) rfl (kz := 8) rfl hO1 ?_
  refine r_invV x_426_97 (z := 255) (ns := 0) (by decide +kernel) (as := [.ref (4 * 141 + 1), g_n (g_i M5 a0 8)]) (r := []) rfl rfl rfl hO1 rfl rfl ?_
  refine r_callV h fun M8 hx9 hok10 h => ?_
  replace h := h hx9 hok10
  replace hO1 := hO1.up hx9
  refine r_aload_n x_426_100 rfl ?_
  refine r_invV x_426_101 (z := 415) (ns := 0) (by decide +kernel) (as := []) (r := []) rfl rfl rfl hO1 rfl rfl ?_
  refine r_callI h fun r14 M11 hx12 hok13 hr15 h => ?_
  replace h := h hx12 hok13 hr15
  replace hO1 := hO1.up hx12
  refine r_pop x_426_104 rfl ?_
  refine r_aload_n x_426_105 rfl ?_
  refine r_aload_n x_426_106 rfl ?_
  refine r_ldcw x_426_107 (v := g_n 2598000) rfl ?_
  refine r_invV x_426_110 (z := 227) (ns := 0) (by decide +kernel) (as := [g_n 2598000]) (r := [.ref a0]) rfl rfl rfl hO1 rfl rfl ?_
  refine r_callI h fun r19 M16 hx17 hok18 hr20 h => ?_
  replace h := h hx17 hok18 hr20
  replace hO1 := hO1.up hx17
  refine r_putI x_426_113 (ci := 12) (k := 3) (ns := 0) (by decide +kernel) (by decide) (g_f0 (by decide +kernel)) rfl hr20 trivial (kz := 3) rfl hO1 ?_
  obtain ⟨M21, hM22⟩ : ∃ Mz, Mz = g_wi M16 a0 3 r19 := ⟨_, rfl⟩
  rw [← hM22]
  refine g_Run.ok fun hok23 => ?_
  replace h := h M21 hM22 hok23
  have hx24 := g_extW hM22
  replace hO1 := hO1.up hx24
  refine r_aload_n x_426_116 rfl ?_
  refine r_getI x_426_117 rfl (ci := 12) (k := 3) (ns := 0) (by decide +kernel) (by decide) rfl (kz := 3) rfl hO1 ?_
  exact r_retI x_426_120 rfl (hok23.1 _ _) h
theorem m_X12_answer {d : Nat} {M : g_M} {Q : Int → g_M → Prop} {a0 : Nat} {v1 : Int} (hv1 : g_InR v1) (h : g_ok M → ((v1 < 0 → Q ((-1)) M) ∧ (¬ v1 < 0 → g_O M a0 12 ∧ ((v1 < g_i M a0 3 → g_InR (2598000 + v1) ∧ g_Call d 226 [.ref a0, g_n (2598000 + v1)] M (g_qI fun r6 M3 => g_ext M M3 → g_ok M3 → g_InR r6 → Q r6 M3)) ∧ (¬ v1 < g_i M a0 3 → Q ((-1)) M))))) : g_Call (d + 1) 427 [.ref a0, g_n v1] M (g_qI Q) := by
  refine g_Call.ok fun hok0 => ?_
  replace h := h hok0
  refine r_body rfl (lv := [(0, .ref a0), (1, g_n v1)]) rfl ?_
  refine g_Run.ok fun hok => ?_
  refine r_iload_n x_427_0 rfl ?_
  refine r_if_lt x_427_1 (t := 24) (by decide +kernel) hv1 (fun hc => ?_) (fun hc => ?_)
  · replace h := h.1 hc
    refine r_iconst x_427_24 ?_
    exact r_retI x_427_25 rfl (g_Rk rfl) h
  · replace h := h.2 hc
    refine r_iload_n x_427_4 rfl ?_
    refine r_aload_n x_427_5 rfl ?_
    obtain ⟨hO1, h⟩ := h
    refine r_getI x_427_6 rfl (ci := 12) (k := 3) (ns := 0) (by decide +kernel) (by decide) rfl (kz := 3) rfl hO1 ?_
    refine r_ic_ge x_427_9 (t := 24) (by decide +kernel) hv1 (hok.1 _ _) (fun hc => ?_) (fun hc => ?_)
    · replace h := h.2 hc
      refine r_iconst x_427_24 ?_
      exact r_retI x_427_25 rfl (g_Rk rfl) h
    · replace h := h.1 hc
      refine r_aload_n x_427_12 rfl ?_
      refine r_ldcw x_427_13 (v := g_n 2598000) rfl ?_
      refine r_iload_n x_427_16 rfl ?_
      refine r_iadd x_427_17 ?_
      obtain ⟨h2, h⟩ := h
      refine r_invV x_427_18 (z := 226) (ns := 0) (by decide +kernel) (as := [g_n (2598000 + v1)]) (r := []) rfl rfl rfl hO1 rfl rfl ?_
      refine r_callI h fun r6 M3 hx4 hok5 hr7 h => ?_
      replace h := h hx4 hok5 hr7
      replace hO1 := hO1.up hx4
      refine r_goto x_427_21 (t := 25) (by decide +kernel) ?_
      exact r_retI x_427_25 rfl hr7 h
theorem m_X12_state {d : Nat} {M : g_M} {Q : Int → g_M → Prop} {a0 : Nat} {v1 : Int} (hv1 : g_InR v1) (h : g_ok M → ((v1 = 0 → g_O M a0 12 ∧ ∃ b2, g_r M a0 68 = some b2 ∧ ∃ n4, g_A M b2 1 n4 ∧ ((0 : Int) ≤ v1 ∧ (v1 : Int) < n4) ∧ Q (g_i M b2 v1) M) ∧ (¬ v1 = 0 → ((v1 = 1 → g_O M a0 12 ∧ ∃ b28, g_r M a0 68 = some b28 ∧ ∃ n30, g_A M b28 1 n30 ∧ ((0 : Int) ≤ v1 ∧ (v1 : Int) < n30) ∧ Q (g_i M b28 v1) M) ∧ (¬ v1 = 1 → ((v1 = 2 → g_O M a0 12 ∧ ∃ b8, g_r M a0 69 = some b8 ∧ g_InR (v1 - 2) ∧ ∃ n11, g_A M b8 1 n11 ∧ ((0 : Int) ≤ v1 - 2 ∧ (v1 - 2 : Int) < n11) ∧ Q (g_i M b8 (v1 - 2)) M) ∧ (¬ v1 = 2 → ((v1 = 3 → g_O M a0 12 ∧ ∃ b21, g_r M a0 69 = some b21 ∧ g_InR (v1 - 2) ∧ ∃ n24, g_A M b21 1 n24 ∧ ((0 : Int) ≤ v1 - 2 ∧ (v1 - 2 : Int) < n24) ∧ Q (g_i M b21 (v1 - 2)) M) ∧ (¬ v1 = 3 → ((v1 = 6 → g_O M a0 12 ∧ Q (g_i M a0 3) M) ∧ (¬ v1 = 6 → ((v1 = 7 → g_O M a0 12 ∧ Q (g_i M a0 2) M) ∧ (¬ v1 = 7 → ((v1 = 4 → g_InR (v1 - 4) ∧ g_InR (4 * (v1 - 4)) ∧ g_Run d 428 77 [(0, .ref a0), (1, g_n v1), (2, g_n 0), (3, g_n (4 * (v1 - 4)))] [] M (g_qI Q)) ∧ (¬ v1 = 4 → ((v1 = 5 → g_InR (v1 - 4) ∧ g_InR (4 * (v1 - 4)) ∧ g_Run d 428 77 [(0, .ref a0), (1, g_n v1), (2, g_n 0), (3, g_n (4 * (v1 - 4)))] [] M (g_qI Q)) ∧ (¬ v1 = 5 → Q ((-1)) M))))))))))))))))) : g_Call (d + 1) 428 [.ref a0, g_n v1] M (g_qI Q) := by
  refine g_Call.ok fun hok0 => ?_
  replace h := h hok0
  refine r_body rfl (lv := [(0, .ref a0), (1, g_n v1)]) rfl ?_
  refine g_Run.ok fun hok => ?_
  refine r_iload_n x_428_0 rfl ?_
  refine r_if_eq x_428_1 (t := 9) (by decide +kernel) hv1 (fun hc => ?_) (fun hc => ?_)
  · replace h := h.1 hc
    refine r_aload_n x_428_9 rfl ?_
    obtain ⟨hO1, h⟩ := h
    obtain ⟨b2, hb3, h⟩ := h
    refine r_getR x_428_10 rfl (ci := 12) (k := 68) (ns := 0) (by decide +kernel) (by decide) rfl (kz := 68) rfl hO1 hb3 ?_
    refine r_iload_n x_428_13 rfl ?_
    obtain ⟨n4, hA5, h⟩ := h
    obtain ⟨h6, h⟩ := h
    refine r_iald x_428_14 hA5 hv1 h6.1 h6.2 ?_
    exact r_retI x_428_15 rfl (hok.1 _ _) h
  · replace h := h.2 hc
    refine r_iload_n x_428_4 rfl ?_
    refine r_iconst x_428_5 ?_
    refine r_ic_ne x_428_6 (t := 16) (by decide +kernel) hv1 (g_Rk rfl) (fun hc => ?_) (fun hc => ?_)
    · replace h := h.2 hc
      refine r_iload_n x_428_16 rfl ?_
      refine r_iconst x_428_17 ?_
      refine r_ic_eq x_428_18 (t := 26) (by decide +kernel) hv1 (g_Rk rfl) (fun hc => ?_) (fun hc => ?_)
      · replace h := h.1 hc
        refine r_aload_n x_428_26 rfl ?_
        obtain ⟨hO7, h⟩ := h
        obtain ⟨b8, hb9, h⟩ := h
        refine r_getR x_428_27 rfl (ci := 12) (k := 69) (ns := 0) (by decide +kernel) (by decide) rfl (kz := 69) rfl hO7 hb9 ?_
        refine r_iload_n x_428_30 rfl ?_
        refine r_iconst x_428_31 ?_
        refine r_isub x_428_32 ?_
        obtain ⟨h10, h⟩ := h
        obtain ⟨n11, hA12, h⟩ := h
        obtain ⟨h13, h⟩ := h
        refine r_iald x_428_33 hA12 h10 h13.1 h13.2 ?_
        exact r_retI x_428_34 rfl (hok.1 _ _) h
      · replace h := h.2 hc
        refine r_iload_n x_428_21 rfl ?_
        refine r_iconst x_428_22 ?_
        refine r_ic_ne x_428_23 (t := 35) (by decide +kernel) hv1 (g_Rk rfl) (fun hc => ?_) (fun hc => ?_)
        · replace h := h.2 hc
          refine r_iload_n x_428_35 rfl ?_
          refine r_bipush x_428_36 (x := 6) rfl ?_
          refine r_ic_ne x_428_38 (t := 46) (by decide +kernel) hv1 (g_Rk rfl) (fun hc => ?_) (fun hc => ?_)
          · replace h := h.2 hc
            refine r_iload_n x_428_46 rfl ?_
            refine r_bipush x_428_47 (x := 7) rfl ?_
            refine r_ic_ne x_428_49 (t := 57) (by decide +kernel) hv1 (g_Rk rfl) (fun hc => ?_) (fun hc => ?_)
            · replace h := h.2 hc
              refine r_iload_n x_428_57 rfl ?_
              refine r_iconst x_428_58 ?_
              refine r_ic_eq x_428_59 (t := 69) (by decide +kernel) hv1 (g_Rk rfl) (fun hc => ?_) (fun hc => ?_)
              · replace h := h.1 hc
                refine r_iconst x_428_69 ?_
                refine r_istore_n x_428_70 (by decide +kernel) rfl (lv1 := [(0, .ref a0), (1, g_n v1), (2, g_n 0)]) rfl ?_
                refine r_iconst x_428_71 ?_
                refine r_iload_n x_428_72 rfl ?_
                refine r_iconst x_428_73 ?_
                refine r_isub x_428_74 ?_
                obtain ⟨h14, h⟩ := h
                refine r_imul x_428_75 ?_
                obtain ⟨h15, h⟩ := h
                refine r_istore_n x_428_76 (by decide +kernel) rfl (lv1 := [(0, .ref a0), (1, g_n v1), (2, g_n 0), (3, g_n (4 * (v1 - 4)))]) rfl ?_
                exact h
              · replace h := h.2 hc
                refine r_iload_n x_428_62 rfl ?_
                refine r_iconst x_428_63 ?_
                refine r_ic_eq x_428_64 (t := 69) (by decide +kernel) hv1 (g_Rk rfl) (fun hc => ?_) (fun hc => ?_)
                · replace h := h.1 hc
                  refine r_iconst x_428_69 ?_
                  refine r_istore_n x_428_70 (by decide +kernel) rfl (lv1 := [(0, .ref a0), (1, g_n v1), (2, g_n 0)]) rfl ?_
                  refine r_iconst x_428_71 ?_
                  refine r_iload_n x_428_72 rfl ?_
                  refine r_iconst x_428_73 ?_
                  refine r_isub x_428_74 ?_
                  obtain ⟨h16, h⟩ := h
                  refine r_imul x_428_75 ?_
                  obtain ⟨h17, h⟩ := h
                  refine r_istore_n x_428_76 (by decide +kernel) rfl (lv1 := [(0, .ref a0), (1, g_n v1), (2, g_n 0), (3, g_n (4 * (v1 - 4)))]) rfl ?_
                  exact h
                · replace h := h.2 hc
                  refine r_iconst x_428_67 ?_
                  exact r_retI x_428_68 rfl (g_Rk rfl) h
            · replace h := h.1 hc
              refine r_aload_n x_428_52 rfl ?_
              obtain ⟨hO18, h⟩ := h
              refine r_getI x_428_53 rfl (ci := 12) (k := 2) (ns := 0) (by decide +kernel) (by decide) rfl (kz := 2) rfl hO18 ?_
              exact r_retI x_428_56 rfl (hok.1 _ _) h
          · replace h := h.1 hc
            refine r_aload_n x_428_41 rfl ?_
            obtain ⟨hO19, h⟩ := h
            refine r_getI x_428_42 rfl (ci := 12) (k := 3) (ns := 0) (by decide +kernel) (by decide) rfl (kz := 3) rfl hO19 ?_
            exact r_retI x_428_45 rfl (hok.1 _ _) h
        · replace h := h.1 hc
          refine r_aload_n x_428_26 rfl ?_
          obtain ⟨hO20, h⟩ := h
          obtain ⟨b21, hb22, h⟩ := h
          refine r_getR x_428_27 rfl (ci := 12) (k := 69) (ns := 0) (by decide +kernel) (by decide) rfl (kz := 69) rfl hO20 hb22 ?_
          refine r_iload_n x_428_30 rfl ?_
          refine r_iconst x_428_31 ?_
          refine r_isub x_428_32 ?_
          obtain ⟨h23, h⟩ := h
          obtain ⟨n24, hA25, h⟩ := h
          obtain ⟨h26, h⟩ := h
          refine r_iald x_428_33 hA25 h23 h26.1 h26.2 ?_
          exact r_retI x_428_34 rfl (hok.1 _ _) h
    · replace h := h.1 hc
      refine r_aload_n x_428_9 rfl ?_
      obtain ⟨hO27, h⟩ := h
      obtain ⟨b28, hb29, h⟩ := h
      refine r_getR x_428_10 rfl (ci := 12) (k := 68) (ns := 0) (by decide +kernel) (by decide) rfl (kz := 68) rfl hO27 hb29 ?_
      refine r_iload_n x_428_13 rfl ?_
      obtain ⟨n30, hA31, h⟩ := h
      obtain ⟨h32, h⟩ := h
      refine r_iald x_428_14 hA31 hv1 h32.1 h32.2 ?_
      exact r_retI x_428_15 rfl (hok.1 _ _) h
theorem s_X12_state_77 {d : Nat} {M : g_M} {Q : Int → g_M → Prop} {a0 : Nat} {v1 : Int} (hv1 : g_InR v1) {v2 : Int} (hv2 : g_InR v2) {v3 : Int} (hv3 : g_InR v3) (h : g_ok M → g_InR (v1 - 4) ∧ g_InR (4 * (v1 - 4)) ∧ g_InR ((4 * (v1 - 4)) + 4) ∧ ((v3 < (4 * (v1 - 4)) + 4 → g_O M a0 12 ∧ ∃ b5, g_r M a0 35 = some b5 ∧ ∃ n7, g_A M b5 2 n7 ∧ ((0 : Int) ≤ v3 ∧ (v3 : Int) < n7) ∧ ((g_i M b5 v3 = 0 → g_InR (v2 + 0) ∧ g_InR (v3 + 1) ∧ g_Run d 428 77 [(0, .ref a0), (1, g_n v1), (2, g_n (v2 + 0)), (3, g_n (v3 + 1))] [] M (g_qI Q)) ∧ (¬ g_i M b5 v3 = 0 → g_InR (v2 + 1) ∧ g_InR (v3 + 1) ∧ g_Run d 428 77 [(0, .ref a0), (1, g_n v1), (2, g_n (v2 + 1)), (3, g_n (v3 + 1))] [] M (g_qI Q)))) ∧ (¬ v3 < (4 * (v1 - 4)) + 4 → Q v2 M))) : g_Run d 428 77 [(0, .ref a0), (1, g_n v1), (2, g_n v2), (3, g_n v3)] [] M (g_qI Q) := by
  refine g_Run.ok fun hok => ?_
  replace h := h hok
  refine r_iload_n x_428_77 rfl ?_
  refine r_iconst x_428_78 ?_
  refine r_iload_n x_428_79 rfl ?_
  refine r_iconst x_428_80 ?_
  refine r_isub x_428_81 ?_
  obtain ⟨h1, h⟩ := h
  refine r_imul x_428_82 ?_
  obtain ⟨h2, h⟩ := h
  refine r_iconst x_428_83 ?_
  refine r_iadd x_428_84 ?_
  obtain ⟨h3, h⟩ := h
  refine r_ic_ge x_428_85 (t := 111) (by decide +kernel) hv3 h3 (fun hc => ?_) (fun hc => ?_)
  · replace h := h.2 hc
    refine r_iload_n x_428_111 rfl ?_
    exact r_retI x_428_112 rfl hv2 h
  · replace h := h.1 hc
    refine r_iload_n x_428_88 rfl ?_
    refine r_aload_n x_428_89 rfl ?_
    obtain ⟨hO4, h⟩ := h
    obtain ⟨b5, hb6, h⟩ := h
    refine r_getR x_428_90 rfl (ci := 12) (k := 35) (ns := 0) (by decide +kernel) (by decide) rfl (kz := 35) rfl hO4 hb6 ?_
    refine r_iload_n x_428_93 rfl ?_
    obtain ⟨n7, hA8, h⟩ := h
    obtain ⟨h9, h⟩ := h
    refine r_bald x_428_94 (Or.inr rfl) hA8 hv3 h9.1 h9.2 ?_
    refine r_if_eq x_428_95 (t := 102) (by decide +kernel) (hok.1 _ _) (fun hc => ?_) (fun hc => ?_)
    · replace h := h.1 hc
      refine r_iconst x_428_102 ?_
      refine r_iadd x_428_103 ?_
      obtain ⟨h10, h⟩ := h
      refine r_istore_n x_428_104 (by decide +kernel) rfl (lv1 := [(0, .ref a0), (1, g_n v1), (2, g_n (v2 + 0)), (3, g_n v3)]) rfl ?_
      obtain ⟨h11, h⟩ := h
      refine r_iinc x_428_105 (by decide +kernel) rfl rfl (lv1 := [(0, .ref a0), (1, g_n v1), (2, g_n (v2 + 0)), (3, g_n (v3 + 1))]) rfl ?_
      refine r_goto x_428_108 (t := 77) (by decide +kernel) ?_
      exact h
    · replace h := h.2 hc
      refine r_iconst x_428_98 ?_
      refine r_goto x_428_99 (t := 103) (by decide +kernel) ?_
      refine r_iadd x_428_103 ?_
      obtain ⟨h12, h⟩ := h
      refine r_istore_n x_428_104 (by decide +kernel) rfl (lv1 := [(0, .ref a0), (1, g_n v1), (2, g_n (v2 + 1)), (3, g_n v3)]) rfl ?_
      obtain ⟨h13, h⟩ := h
      refine r_iinc x_428_105 (by decide +kernel) rfl rfl (lv1 := [(0, .ref a0), (1, g_n v1), (2, g_n (v2 + 1)), (3, g_n (v3 + 1))]) rfl ?_
      refine r_goto x_428_108 (t := 77) (by decide +kernel) ?_
      exact h
theorem m_X12_isThereOne {d : Nat} {M : g_M} {Q : Int → g_M → Prop} {a0 : Nat} {v1 : Int} (hv1 : g_InR v1) {v2 : Int} (hv2 : g_InR v2) (h : g_ok M → ((v1 = 0 → g_Run d 429 9 [(0, .ref a0), (1, g_n v1), (2, g_n v2)] [] M (g_qI Q)) ∧ (¬ v1 = 0 → ((v1 = 1 → g_Run d 429 9 [(0, .ref a0), (1, g_n v1), (2, g_n v2)] [] M (g_qI Q)) ∧ (¬ v1 = 1 → Q 0 M))))) : g_Call (d + 1) 429 [.ref a0, g_n v1, g_n v2] M (g_qI Q) := by
  refine g_Call.ok fun hok0 => ?_
  replace h := h hok0
  refine r_body rfl (lv := [(0, .ref a0), (1, g_n v1), (2, g_n v2)]) rfl ?_
  refine g_Run.ok fun hok => ?_
  refine r_iload_n x_429_0 rfl ?_
  refine r_if_eq x_429_1 (t := 9) (by decide +kernel) hv1 (fun hc => ?_) (fun hc => ?_)
  · replace h := h.1 hc
    exact h
  · replace h := h.2 hc
    refine r_iload_n x_429_4 rfl ?_
    refine r_iconst x_429_5 ?_
    refine r_ic_ne x_429_6 (t := 27) (by decide +kernel) hv1 (g_Rk rfl) (fun hc => ?_) (fun hc => ?_)
    · replace h := h.2 hc
      refine r_iconst x_429_27 ?_
      exact r_retZ x_429_28 rfl (Or.inl rfl) h
    · replace h := h.1 hc
      exact h
theorem s_X12_isThereOne_9 {d : Nat} {M : g_M} {Q : Int → g_M → Prop} {a0 : Nat} {v1 : Int} (hv1 : g_InR v1) {v2 : Int} (hv2 : g_InR v2) (h : g_ok M → ((v2 < 0 → Q 0 M) ∧ (¬ v2 < 0 → g_O M a0 12 ∧ ∃ b2, g_r M a0 68 = some b2 ∧ ∃ n4, g_A M b2 1 n4 ∧ ((0 : Int) ≤ v1 ∧ (v1 : Int) < n4) ∧ ((v2 < g_i M b2 v1 → Q 1 M) ∧ (¬ v2 < g_i M b2 v1 → Q 0 M))))) : g_Run d 429 9 [(0, .ref a0), (1, g_n v1), (2, g_n v2)] [] M (g_qI Q) := by
  refine g_Run.ok fun hok => ?_
  replace h := h hok
  refine r_iload_n x_429_9 rfl ?_
  refine r_if_lt x_429_10 (t := 27) (by decide +kernel) hv2 (fun hc => ?_) (fun hc => ?_)
  · replace h := h.1 hc
    refine r_iconst x_429_27 ?_
    exact r_retZ x_429_28 rfl (Or.inl rfl) h
  · replace h := h.2 hc
    refine r_iload_n x_429_13 rfl ?_
    refine r_aload_n x_429_14 rfl ?_
    obtain ⟨hO1, h⟩ := h
    obtain ⟨b2, hb3, h⟩ := h
    refine r_getR x_429_15 rfl (ci := 12) (k := 68) (ns := 0) (by decide +kernel) (by decide) rfl (kz := 68) rfl hO1 hb3 ?_
    refine r_iload_n x_429_18 rfl ?_
    obtain ⟨n4, hA5, h⟩ := h
    obtain ⟨h6, h⟩ := h
    refine r_iald x_429_19 hA5 hv1 h6.1 h6.2 ?_
    refine r_ic_ge x_429_20 (t := 27) (by decide +kernel) hv2 (hok.1 _ _) (fun hc => ?_) (fun hc => ?_)
    · replace h := h.2 hc
      refine r_iconst x_429_27 ?_
      exact r_retZ x_429_28 rfl (Or.inl rfl) h
    · replace h := h.1 hc
      refine r_iconst x_429_23 ?_
      refine r_goto x_429_24 (t := 28) (by decide +kernel) ?_
      exact r_retZ x_429_28 rfl (Or.inr rfl) h
theorem m_X12_number_ {d : Nat} {M : g_M} {Q : Int → g_M → Prop} {a0 : Nat} {v1 : Int} (hv1 : g_InR v1) {v2 : Int} (hv2 : g_InR v2) (h : g_ok M → g_O M a0 12 ∧ g_Call d 429 [.ref a0, g_n v1, g_n v2] M (g_qI fun r5 M2 => g_ext M M2 → g_ok M2 → g_InR r5 → ((r5 = 0 → Q 0 M2) ∧ (¬ r5 = 0 → ∃ b7, g_r M2 a0 72 = some b7 ∧ g_InR (200 * v1) ∧ g_InR ((200 * v1) + v2) ∧ ∃ n11, g_A M2 b7 1 n11 ∧ ((0 : Int) ≤ (200 * v1) + v2 ∧ ((200 * v1) + v2 : Int) < n11) ∧ Q (g_i M2 b7 ((200 * v1) + v2)) M2)))) : g_Call (d + 1) 430 [.ref a0, g_n v1, g_n v2] M (g_qI Q) := by
  refine g_Call.ok fun hok0 => ?_
  replace h := h hok0
  refine r_body rfl (lv := [(0, .ref a0), (1, g_n v1), (2, g_n v2)]) rfl ?_
  refine g_Run.ok fun hok => ?_
  refine r_aload_n x_430_0 rfl ?_
  refine r_iload_n x_430_1 rfl ?_
  refine r_iload_n x_430_2 rfl ?_
  obtain ⟨hO1, h⟩ := h
  refine r_invV x_430_3 (z := 429) (ns := 0) (by decide +kernel) (as := [g_n v1, g_n v2]) (r := []) rfl rfl rfl hO1 rfl rfl ?_
  refine r_callI h fun r5 M2 hx3 hok4 hr6 h => ?_
  replace h := h hx3 hok4 hr6
  replace hO1 := hO1.up hx3
  refine r_if_eq x_430_6 (t := 24) (by decide +kernel) hr6 (fun hc => ?_) (fun hc => ?_)
  · replace h := h.1 hc
    refine r_iconst x_430_24 ?_
    exact r_retI x_430_25 rfl (g_Rk rfl) h
  · replace h := h.2 hc
    refine r_aload_n x_430_9 rfl ?_
    obtain ⟨b7, hb8, h⟩ := h
    refine r_getR x_430_10 rfl (ci := 12) (k := 72) (ns := 0) (by decide +kernel) (by decide) rfl (kz := 72) rfl hO1 hb8 ?_
    refine r_sipush x_430_13 (x := 200) rfl ?_
    refine r_iload_n x_430_16 rfl ?_
    refine r_imul x_430_17 ?_
    obtain ⟨h9, h⟩ := h
    refine r_iload_n x_430_18 rfl ?_
    refine r_iadd x_430_19 ?_
    obtain ⟨h10, h⟩ := h
    obtain ⟨n11, hA12, h⟩ := h
    obtain ⟨h13, h⟩ := h
    refine r_iald x_430_20 hA12 h10 h13.1 h13.2 ?_
    refine r_goto x_430_21 (t := 25) (by decide +kernel) ?_
    exact r_retI x_430_25 rfl (hok4.1 _ _) h
theorem m_X12_size {d : Nat} {M : g_M} {Q : Int → g_M → Prop} {a0 : Nat} {v1 : Int} (hv1 : g_InR v1) {v2 : Int} (hv2 : g_InR v2) (h : g_ok M → g_O M a0 12 ∧ g_Call d 429 [.ref a0, g_n v1, g_n v2] M (g_qI fun r5 M2 => g_ext M M2 → g_ok M2 → g_InR r5 → ((r5 = 0 → Q ((-1)) M2) ∧ (¬ r5 = 0 → g_Call d 404 [.ref a0, g_n v1, g_n v2] M2 (g_qI fun r10 M7 => g_ext M2 M7 → g_ok M7 → g_InR r10 → g_Call d 227 [.ref a0, g_n r10] M7 (g_qI fun r15 M12 => g_ext M7 M12 → g_ok M12 → g_InR r15 → Q r15 M12)))))) : g_Call (d + 1) 431 [.ref a0, g_n v1, g_n v2] M (g_qI Q) := by
  refine g_Call.ok fun hok0 => ?_
  replace h := h hok0
  refine r_body rfl (lv := [(0, .ref a0), (1, g_n v1), (2, g_n v2)]) rfl ?_
  refine g_Run.ok fun hok => ?_
  refine r_aload_n x_431_0 rfl ?_
  refine r_iload_n x_431_1 rfl ?_
  refine r_iload_n x_431_2 rfl ?_
  obtain ⟨hO1, h⟩ := h
  refine r_invV x_431_3 (z := 429) (ns := 0) (by decide +kernel) (as := [g_n v1, g_n v2]) (r := []) rfl rfl rfl hO1 rfl rfl ?_
  refine r_callI h fun r5 M2 hx3 hok4 hr6 h => ?_
  replace h := h hx3 hok4 hr6
  replace hO1 := hO1.up hx3
  refine r_if_eq x_431_6 (t := 22) (by decide +kernel) hr6 (fun hc => ?_) (fun hc => ?_)
  · replace h := h.1 hc
    refine r_iconst x_431_22 ?_
    exact r_retI x_431_23 rfl (g_Rk rfl) h
  · replace h := h.2 hc
    refine r_aload_n x_431_9 rfl ?_
    refine r_aload_n x_431_10 rfl ?_
    refine r_iload_n x_431_11 rfl ?_
    refine r_iload_n x_431_12 rfl ?_
    refine r_invV x_431_13 (z := 404) (ns := 0) (by decide +kernel) (as := [g_n v1, g_n v2]) (r := [.ref a0]) rfl rfl rfl hO1 rfl rfl ?_
    refine r_callI h fun r10 M7 hx8 hok9 hr11 h => ?_
    replace h := h hx8 hok9 hr11
    replace hO1 := hO1.up hx8
    refine r_invV x_431_16 (z := 227) (ns := 0) (by decide +kernel) (as := [g_n r10]) (r := []) rfl rfl rfl hO1 rfl rfl ?_
    refine r_callI h fun r15 M12 hx13 hok14 hr16 h => ?_
    replace h := h hx13 hok14 hr16
    replace hO1 := hO1.up hx13
    refine r_goto x_431_19 (t := 23) (by decide +kernel) ?_
    exact r_retI x_431_23 rfl hr16 h
theorem m_X12_byteAt {d : Nat} {M : g_M} {Q : Int → g_M → Prop} {a0 : Nat} {v1 : Int} (hv1 : g_InR v1) {v2 : Int} (hv2 : g_InR v2) {v3 : Int} (hv3 : g_InR v3) (h : g_ok M → g_O M a0 12 ∧ g_Call d 429 [.ref a0, g_n v1, g_n v2] M (g_qI fun r5 M2 => g_ext M M2 → g_ok M2 → g_InR r5 → ((r5 = 0 → Q ((-1)) M2) ∧ (¬ r5 = 0 → ((v3 < 0 → Q ((-1)) M2) ∧ (¬ v3 < 0 → g_Call d 404 [.ref a0, g_n v1, g_n v2] M2 (g_qI fun r10 M7 => g_ext M2 M7 → g_ok M7 → g_InR r10 → g_Call d 227 [.ref a0, g_n r10] M7 (g_qI fun r15 M12 => g_ext M7 M12 → g_ok M12 → g_InR r15 → ((v3 < r15 → g_Call d 404 [.ref a0, g_n v1, g_n v2] M12 (g_qI fun r20 M17 => g_ext M12 M17 → g_ok M17 → g_InR r20 → g_InR (r20 + v3) ∧ g_Call d 226 [.ref a0, g_n (r20 + v3)] M17 (g_qI fun r26 M23 => g_ext M17 M23 → g_ok M23 → g_InR r26 → Q r26 M23))) ∧ (¬ v3 < r15 → Q ((-1)) M12)))))))))) : g_Call (d + 1) 432 [.ref a0, g_n v1, g_n v2, g_n v3] M (g_qI Q) := by
  refine g_Call.ok fun hok0 => ?_
  replace h := h hok0
  refine r_body rfl (lv := [(0, .ref a0), (1, g_n v1), (2, g_n v2), (3, g_n v3)]) rfl ?_
  refine g_Run.ok fun hok => ?_
  refine r_aload_n x_432_0 rfl ?_
  refine r_iload_n x_432_1 rfl ?_
  refine r_iload_n x_432_2 rfl ?_
  obtain ⟨hO1, h⟩ := h
  refine r_invV x_432_3 (z := 429) (ns := 0) (by decide +kernel) (as := [g_n v1, g_n v2]) (r := []) rfl rfl rfl hO1 rfl rfl ?_
  refine r_callI h fun r5 M2 hx3 hok4 hr6 h => ?_
  replace h := h hx3 hok4 hr6
  replace hO1 := hO1.up hx3
  refine r_if_eq x_432_6 (t := 42) (by decide +kernel) hr6 (fun hc => ?_) (fun hc => ?_)
  · replace h := h.1 hc
    refine r_iconst x_432_42 ?_
    exact r_retI x_432_43 rfl (g_Rk rfl) h
  · replace h := h.2 hc
    refine r_iload_n x_432_9 rfl ?_
    refine r_if_lt x_432_10 (t := 42) (by decide +kernel) hv3 (fun hc => ?_) (fun hc => ?_)
    · replace h := h.1 hc
      refine r_iconst x_432_42 ?_
      exact r_retI x_432_43 rfl (g_Rk rfl) h
    · replace h := h.2 hc
      refine r_iload_n x_432_13 rfl ?_
      refine r_aload_n x_432_14 rfl ?_
      refine r_aload_n x_432_15 rfl ?_
      refine r_iload_n x_432_16 rfl ?_
      refine r_iload_n x_432_17 rfl ?_
      refine r_invV x_432_18 (z := 404) (ns := 0) (by decide +kernel) (as := [g_n v1, g_n v2]) (r := [.ref a0, g_n v3]) rfl rfl rfl hO1 rfl rfl ?_
      refine r_callI h fun r10 M7 hx8 hok9 hr11 h => ?_
      replace h := h hx8 hok9 hr11
      replace hO1 := hO1.up hx8
      refine r_invV x_432_21 (z := 227) (ns := 0) (by decide +kernel) (as := [g_n r10]) (r := [g_n v3]) rfl rfl rfl hO1 rfl rfl ?_
      refine r_callI h fun r15 M12 hx13 hok14 hr16 h => ?_
      replace h := h hx13 hok14 hr16
      replace hO1 := hO1.up hx13
      refine r_ic_ge x_432_24 (t := 42) (by decide +kernel) hv3 hr16 (fun hc => ?_) (fun hc => ?_)
      · replace h := h.2 hc
        refine r_iconst x_432_42 ?_
        exact r_retI x_432_43 rfl (g_Rk rfl) h
      · replace h := h.1 hc
        refine r_aload_n x_432_27 rfl ?_
        refine r_aload_n x_432_28 rfl ?_
        refine r_iload_n x_432_29 rfl ?_
        refine r_iload_n x_432_30 rfl ?_
        refine r_invV x_432_31 (z := 404) (ns := 0) (by decide +kernel) (as := [g_n v1, g_n v2]) (r := [.ref a0]) rfl rfl rfl hO1 rfl rfl ?_
        refine r_callI h fun r20 M17 hx18 hok19 hr21 h => ?_
        replace h := h hx18 hok19 hr21
        replace hO1 := hO1.up hx18
        refine r_iload_n x_432_34 rfl ?_
        refine r_iadd x_432_35 ?_
        obtain ⟨h22, h⟩ := h
        refine r_invV x_432_36 (z := 226) (ns := 0) (by decide +kernel) (as := [g_n (r20 + v3)]) (r := []) rfl rfl rfl hO1 rfl rfl ?_
        refine r_callI h fun r26 M23 hx24 hok25 hr27 h => ?_
        replace h := h hx24 hok25 hr27
        replace hO1 := hO1.up hx24
        refine r_goto x_432_39 (t := 43) (by decide +kernel) ?_
        exact r_retI x_432_43 rfl hr27 h
