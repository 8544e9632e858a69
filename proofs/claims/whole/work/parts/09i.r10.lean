theorem x_173_0 : decode (q_code 173) 0 = .ok (.aload_n 0, 1) := by decide +kernel
theorem x_173_1 : decode (q_code 173) 1 = .ok (.iload_n 1, 1) := by decide +kernel
theorem x_173_2 : decode (q_code 173) 2 = .ok (.putfield 44, 3) := by decide +kernel
theorem x_173_5 : decode (q_code 173) 5 = .ok (.aload_n 0, 1) := by decide +kernel
theorem x_173_6 : decode (q_code 173) 6 = .ok (.iload_n 2, 1) := by decide +kernel
theorem x_173_7 : decode (q_code 173) 7 = .ok (.putfield 48, 3) := by decide +kernel
theorem x_173_10 : decode (q_code 173) 10 = .ok (.aload_n 0, 1) := by decide +kernel
theorem x_173_11 : decode (q_code 173) 11 = .ok (.iconst 0, 1) := by decide +kernel
theorem x_173_12 : decode (q_code 173) 12 = .ok (.putfield 51, 3) := by decide +kernel
theorem x_173_15 : decode (q_code 173) 15 = .ok (.aload_n 0, 1) := by decide +kernel
theorem x_173_16 : decode (q_code 173) 16 = .ok (.iconst 0, 1) := by decide +kernel
theorem x_173_17 : decode (q_code 173) 17 = .ok (.putfield 54, 3) := by decide +kernel
theorem x_173_20 : decode (q_code 173) 20 = .ok (.aload_n 0, 1) := by decide +kernel
theorem x_173_21 : decode (q_code 173) 21 = .ok (.iconst 0, 1) := by decide +kernel
theorem x_173_22 : decode (q_code 173) 22 = .ok (.putfield 57, 3) := by decide +kernel
theorem x_173_25 : decode (q_code 173) 25 = .ok (.aload_n 0, 1) := by decide +kernel
theorem x_173_26 : decode (q_code 173) 26 = .ok (.iconst 0, 1) := by decide +kernel
theorem x_173_27 : decode (q_code 173) 27 = .ok (.putfield 60, 3) := by decide +kernel
theorem x_173_30 : decode (q_code 173) 30 = .ok (.aload_n 0, 1) := by decide +kernel
theorem x_173_31 : decode (q_code 173) 31 = .ok (.getfield 15, 3) := by decide +kernel
theorem x_173_34 : decode (q_code 173) 34 = .ok (.arraylength, 1) := by decide +kernel
theorem x_173_35 : decode (q_code 173) 35 = .ok (.iconst 1, 1) := by decide +kernel
theorem x_173_36 : decode (q_code 173) 36 = .ok (.isub, 1) := by decide +kernel
theorem x_173_37 : decode (q_code 173) 37 = .ok (.istore_n 3, 1) := by decide +kernel
theorem x_173_38 : decode (q_code 173) 38 = .ok (.iload_n 3, 1) := by decide +kernel
theorem x_173_39 : decode (q_code 173) 39 = .ok (.ifCond .lt 29, 3) := by decide +kernel
theorem x_173_42 : decode (q_code 173) 42 = .ok (.aload_n 0, 1) := by decide +kernel
theorem x_173_43 : decode (q_code 173) 43 = .ok (.getfield 19, 3) := by decide +kernel
theorem x_173_46 : decode (q_code 173) 46 = .ok (.aload_n 0, 1) := by decide +kernel
theorem x_173_47 : decode (q_code 173) 47 = .ok (.getfield 60, 3) := by decide +kernel
theorem x_173_50 : decode (q_code 173) 50 = .ok (.iload_n 3, 1) := by decide +kernel
theorem x_173_51 : decode (q_code 173) 51 = .ok (.iastore, 1) := by decide +kernel
theorem x_173_52 : decode (q_code 173) 52 = .ok (.aload_n 0, 1) := by decide +kernel
theorem x_173_53 : decode (q_code 173) 53 = .ok (.dup, 1) := by decide +kernel
theorem x_173_54 : decode (q_code 173) 54 = .ok (.getfield 60, 3) := by decide +kernel
theorem x_173_57 : decode (q_code 173) 57 = .ok (.iconst 1, 1) := by decide +kernel
theorem x_173_58 : decode (q_code 173) 58 = .ok (.iadd, 1) := by decide +kernel
theorem x_173_59 : decode (q_code 173) 59 = .ok (.putfield 60, 3) := by decide +kernel
theorem x_173_62 : decode (q_code 173) 62 = .ok (.iinc 3 (-1), 3) := by decide +kernel
theorem x_173_65 : decode (q_code 173) 65 = .ok (.goto (-27), 3) := by decide +kernel
theorem x_173_68 : decode (q_code 173) 68 = .ok (.aload_n 0, 1) := by decide +kernel
theorem x_173_69 : decode (q_code 173) 69 = .ok (.iconst 0, 1) := by decide +kernel
theorem x_173_70 : decode (q_code 173) 70 = .ok (.putfield 63, 3) := by decide +kernel
theorem x_173_73 : decode (q_code 173) 73 = .ok (.aload_n 0, 1) := by decide +kernel
theorem x_173_74 : decode (q_code 173) 74 = .ok (.getfield 28, 3) := by decide +kernel
theorem x_173_77 : decode (q_code 173) 77 = .ok (.arraylength, 1) := by decide +kernel
theorem x_173_78 : decode (q_code 173) 78 = .ok (.iconst 1, 1) := by decide +kernel
theorem x_173_79 : decode (q_code 173) 79 = .ok (.isub, 1) := by decide +kernel
theorem x_173_80 : decode (q_code 173) 80 = .ok (.istore_n 3, 1) := by decide +kernel
theorem x_173_81 : decode (q_code 173) 81 = .ok (.iload_n 3, 1) := by decide +kernel
theorem x_173_82 : decode (q_code 173) 82 = .ok (.ifCond .lt 29, 3) := by decide +kernel
theorem x_173_85 : decode (q_code 173) 85 = .ok (.aload_n 0, 1) := by decide +kernel
theorem x_173_86 : decode (q_code 173) 86 = .ok (.getfield 35, 3) := by decide +kernel
theorem x_173_89 : decode (q_code 173) 89 = .ok (.aload_n 0, 1) := by decide +kernel
theorem x_173_90 : decode (q_code 173) 90 = .ok (.getfield 63, 3) := by decide +kernel
theorem x_173_93 : decode (q_code 173) 93 = .ok (.iload_n 3, 1) := by decide +kernel
theorem x_173_94 : decode (q_code 173) 94 = .ok (.iastore, 1) := by decide +kernel
theorem x_173_95 : decode (q_code 173) 95 = .ok (.aload_n 0, 1) := by decide +kernel
theorem x_173_96 : decode (q_code 173) 96 = .ok (.dup, 1) := by decide +kernel
theorem x_173_97 : decode (q_code 173) 97 = .ok (.getfield 63, 3) := by decide +kernel
theorem x_173_100 : decode (q_code 173) 100 = .ok (.iconst 1, 1) := by decide +kernel
theorem x_173_101 : decode (q_code 173) 101 = .ok (.iadd, 1) := by decide +kernel
theorem x_173_102 : decode (q_code 173) 102 = .ok (.putfield 63, 3) := by decide +kernel
theorem x_173_105 : decode (q_code 173) 105 = .ok (.iinc 3 (-1), 3) := by decide +kernel
theorem x_173_108 : decode (q_code 173) 108 = .ok (.goto (-27), 3) := by decide +kernel
theorem x_173_111 : decode (q_code 173) 111 = .ok (.aload_n 0, 1) := by decide +kernel
theorem x_173_112 : decode (q_code 173) 112 = .ok (.aload_n 0, 1) := by decide +kernel
theorem x_173_113 : decode (q_code 173) 113 = .ok (.iconst 1, 1) := by decide +kernel
theorem x_173_114 : decode (q_code 173) 114 = .ok (.invokevirtual 66, 3) := by decide +kernel
theorem x_173_117 : decode (q_code 173) 117 = .ok (.putfield 70, 3) := by decide +kernel
theorem x_173_120 : decode (q_code 173) 120 = .ok (.aload_n 0, 1) := by decide +kernel
theorem x_173_121 : decode (q_code 173) 121 = .ok (.aload_n 0, 1) := by decide +kernel
theorem x_173_122 : decode (q_code 173) 122 = .ok (.invokevirtual 73, 3) := by decide +kernel
theorem x_173_125 : decode (q_code 173) 125 = .ok (.putfield 77, 3) := by decide +kernel
theorem x_173_128 : decode (q_code 173) 128 = .ok (.return_, 1) := by decide +kernel
theorem x_174_0 : decode (q_code 174) 0 = .ok (.aload_n 0, 1) := by decide +kernel
theorem x_174_1 : decode (q_code 174) 1 = .ok (.getfield 60, 3) := by decide +kernel
theorem x_174_4 : decode (q_code 174) 4 = .ok (.ifCond .ne 107, 3) := by decide +kernel
theorem x_174_7 : decode (q_code 174) 7 = .ok (.aload_n 0, 1) := by decide +kernel
theorem x_174_8 : decode (q_code 174) 8 = .ok (.getfield 15, 3) := by decide +kernel
theorem x_174_11 : decode (q_code 174) 11 = .ok (.arraylength, 1) := by decide +kernel
theorem x_174_12 : decode (q_code 174) 12 = .ok (.istore_n 1, 1) := by decide +kernel
theorem x_174_13 : decode (q_code 174) 13 = .ok (.iload_n 1, 1) := by decide +kernel
theorem x_174_14 : decode (q_code 174) 14 = .ok (.bipush 16, 2) := by decide +kernel
theorem x_174_16 : decode (q_code 174) 16 = .ok (.if_icmp .ge 8, 3) := by decide +kernel
theorem x_174_19 : decode (q_code 174) 19 = .ok (.bipush 16, 2) := by decide +kernel
theorem x_174_21 : decode (q_code 174) 21 = .ok (.goto 6, 3) := by decide +kernel
theorem x_174_24 : decode (q_code 174) 24 = .ok (.iload_n 1, 1) := by decide +kernel
theorem x_174_25 : decode (q_code 174) 25 = .ok (.iconst 2, 1) := by decide +kernel
theorem x_174_26 : decode (q_code 174) 26 = .ok (.idiv, 1) := by decide +kernel
theorem x_174_27 : decode (q_code 174) 27 = .ok (.istore_n 2, 1) := by decide +kernel
theorem x_174_28 : decode (q_code 174) 28 = .ok (.aload_n 0, 1) := by decide +kernel
theorem x_174_29 : decode (q_code 174) 29 = .ok (.aload_n 0, 1) := by decide +kernel
theorem x_174_30 : decode (q_code 174) 30 = .ok (.getfield 15, 3) := by decide +kernel
theorem x_174_33 : decode (q_code 174) 33 = .ok (.iload_n 1, 1) := by decide +kernel
theorem x_174_34 : decode (q_code 174) 34 = .ok (.iload_n 2, 1) := by decide +kernel
theorem x_174_35 : decode (q_code 174) 35 = .ok (.iadd, 1) := by decide +kernel
theorem x_174_36 : decode (q_code 174) 36 = .ok (.invokestatic 80, 3) := by decide +kernel
theorem x_174_39 : decode (q_code 174) 39 = .ok (.putfield 15, 3) := by decide +kernel
theorem x_174_42 : decode (q_code 174) 42 = .ok (.aload_n 0, 1) := by decide +kernel
theorem x_174_43 : decode (q_code 174) 43 = .ok (.aload_n 0, 1) := by decide +kernel
theorem x_174_44 : decode (q_code 174) 44 = .ok (.getfield 11, 3) := by decide +kernel
theorem x_174_47 : decode (q_code 174) 47 = .ok (.iload_n 1, 1) := by decide +kernel
theorem x_174_48 : decode (q_code 174) 48 = .ok (.iload_n 2, 1) := by decide +kernel
theorem x_174_49 : decode (q_code 174) 49 = .ok (.iadd, 1) := by decide +kernel
theorem x_174_50 : decode (q_code 174) 50 = .ok (.sipush 132, 3) := by decide +kernel
theorem x_174_53 : decode (q_code 174) 53 = .ok (.imul, 1) := by decide +kernel
theorem x_174_54 : decode (q_code 174) 54 = .ok (.invokestatic 86, 3) := by decide +kernel
theorem x_174_57 : decode (q_code 174) 57 = .ok (.putfield 11, 3) := by decide +kernel
theorem x_174_60 : decode (q_code 174) 60 = .ok (.aload_n 0, 1) := by decide +kernel
theorem x_174_61 : decode (q_code 174) 61 = .ok (.aload_n 0, 1) := by decide +kernel
theorem x_174_62 : decode (q_code 174) 62 = .ok (.getfield 19, 3) := by decide +kernel
theorem x_174_65 : decode (q_code 174) 65 = .ok (.iload_n 1, 1) := by decide +kernel
theorem x_174_66 : decode (q_code 174) 66 = .ok (.iload_n 2, 1) := by decide +kernel
theorem x_174_67 : decode (q_code 174) 67 = .ok (.iadd, 1) := by decide +kernel
theorem x_174_68 : decode (q_code 174) 68 = .ok (.invokestatic 80, 3) := by decide +kernel
theorem x_174_71 : decode (q_code 174) 71 = .ok (.putfield 19, 3) := by decide +kernel
theorem x_174_74 : decode (q_code 174) 74 = .ok (.iload_n 1, 1) := by decide +kernel
theorem x_174_75 : decode (q_code 174) 75 = .ok (.iload_n 2, 1) := by decide +kernel
theorem x_174_76 : decode (q_code 174) 76 = .ok (.iadd, 1) := by decide +kernel
theorem x_174_77 : decode (q_code 174) 77 = .ok (.iconst 1, 1) := by decide +kernel
theorem x_174_78 : decode (q_code 174) 78 = .ok (.isub, 1) := by decide +kernel
theorem x_174_79 : decode (q_code 174) 79 = .ok (.istore_n 3, 1) := by decide +kernel
theorem x_174_80 : decode (q_code 174) 80 = .ok (.iload_n 3, 1) := by decide +kernel
theorem x_174_81 : decode (q_code 174) 81 = .ok (.iload_n 1, 1) := by decide +kernel
theorem x_174_82 : decode (q_code 174) 82 = .ok (.if_icmp .lt 29, 3) := by decide +kernel
theorem x_174_85 : decode (q_code 174) 85 = .ok (.aload_n 0, 1) := by decide +kernel
theorem x_174_86 : decode (q_code 174) 86 = .ok (.getfield 19, 3) := by decide +kernel
theorem x_174_89 : decode (q_code 174) 89 = .ok (.aload_n 0, 1) := by decide +kernel
theorem x_174_90 : decode (q_code 174) 90 = .ok (.getfield 60, 3) := by decide +kernel
theorem x_174_93 : decode (q_code 174) 93 = .ok (.iload_n 3, 1) := by decide +kernel
theorem x_174_94 : decode (q_code 174) 94 = .ok (.iastore, 1) := by decide +kernel
theorem x_174_95 : decode (q_code 174) 95 = .ok (.aload_n 0, 1) := by decide +kernel
theorem x_174_96 : decode (q_code 174) 96 = .ok (.dup, 1) := by decide +kernel
theorem x_174_97 : decode (q_code 174) 97 = .ok (.getfield 60, 3) := by decide +kernel
theorem x_174_100 : decode (q_code 174) 100 = .ok (.iconst 1, 1) := by decide +kernel
theorem x_174_101 : decode (q_code 174) 101 = .ok (.iadd, 1) := by decide +kernel
theorem x_174_102 : decode (q_code 174) 102 = .ok (.putfield 60, 3) := by decide +kernel
theorem x_174_105 : decode (q_code 174) 105 = .ok (.iinc 3 (-1), 3) := by decide +kernel
theorem x_174_108 : decode (q_code 174) 108 = .ok (.goto (-28), 3) := by decide +kernel
theorem x_174_111 : decode (q_code 174) 111 = .ok (.aload_n 0, 1) := by decide +kernel
theorem x_174_112 : decode (q_code 174) 112 = .ok (.dup, 1) := by decide +kernel
theorem x_174_113 : decode (q_code 174) 113 = .ok (.getfield 60, 3) := by decide +kernel
theorem x_174_116 : decode (q_code 174) 116 = .ok (.iconst 1, 1) := by decide +kernel
theorem x_174_117 : decode (q_code 174) 117 = .ok (.isub, 1) := by decide +kernel
theorem x_174_118 : decode (q_code 174) 118 = .ok (.putfield 60, 3) := by decide +kernel
theorem x_174_121 : decode (q_code 174) 121 = .ok (.aload_n 0, 1) := by decide +kernel
theorem x_174_122 : decode (q_code 174) 122 = .ok (.getfield 19, 3) := by decide +kernel
theorem x_174_125 : decode (q_code 174) 125 = .ok (.aload_n 0, 1) := by decide +kernel
theorem x_174_126 : decode (q_code 174) 126 = .ok (.getfield 60, 3) := by decide +kernel
theorem x_174_129 : decode (q_code 174) 129 = .ok (.iaload, 1) := by decide +kernel
theorem x_174_130 : decode (q_code 174) 130 = .ok (.ireturn, 1) := by decide +kernel
theorem x_175_0 : decode (q_code 175) 0 = .ok (.aload_n 0, 1) := by decide +kernel
theorem x_175_1 : decode (q_code 175) 1 = .ok (.getfield 60, 3) := by decide +kernel
theorem x_175_4 : decode (q_code 175) 4 = .ok (.aload_n 0, 1) := by decide +kernel
theorem x_175_5 : decode (q_code 175) 5 = .ok (.getfield 19, 3) := by decide +kernel
theorem x_175_8 : decode (q_code 175) 8 = .ok (.arraylength, 1) := by decide +kernel
theorem x_175_9 : decode (q_code 175) 9 = .ok (.if_icmp .ge 23, 3) := by decide +kernel
theorem x_175_12 : decode (q_code 175) 12 = .ok (.aload_n 0, 1) := by decide +kernel
theorem x_175_13 : decode (q_code 175) 13 = .ok (.getfield 19, 3) := by decide +kernel
theorem x_175_16 : decode (q_code 175) 16 = .ok (.aload_n 0, 1) := by decide +kernel
theorem x_175_17 : decode (q_code 175) 17 = .ok (.getfield 60, 3) := by decide +kernel
theorem x_175_20 : decode (q_code 175) 20 = .ok (.iload_n 1, 1) := by decide +kernel
theorem x_175_21 : decode (q_code 175) 21 = .ok (.iastore, 1) := by decide +kernel
theorem x_175_22 : decode (q_code 175) 22 = .ok (.aload_n 0, 1) := by decide +kernel
theorem x_175_23 : decode (q_code 175) 23 = .ok (.dup, 1) := by decide +kernel
theorem x_175_24 : decode (q_code 175) 24 = .ok (.getfield 60, 3) := by decide +kernel
theorem x_175_27 : decode (q_code 175) 27 = .ok (.iconst 1, 1) := by decide +kernel
theorem x_175_28 : decode (q_code 175) 28 = .ok (.iadd, 1) := by decide +kernel
theorem x_175_29 : decode (q_code 175) 29 = .ok (.putfield 60, 3) := by decide +kernel
theorem x_175_32 : decode (q_code 175) 32 = .ok (.return_, 1) := by decide +kernel
theorem x_176_0 : decode (q_code 176) 0 = .ok (.aload_n 0, 1) := by decide +kernel
theorem x_176_1 : decode (q_code 176) 1 = .ok (.getfield 63, 3) := by decide +kernel
theorem x_176_4 : decode (q_code 176) 4 = .ok (.ifCond .ne 176, 3) := by decide +kernel
theorem x_176_7 : decode (q_code 176) 7 = .ok (.aload_n 0, 1) := by decide +kernel
theorem x_176_8 : decode (q_code 176) 8 = .ok (.getfield 28, 3) := by decide +kernel
theorem x_176_11 : decode (q_code 176) 11 = .ok (.arraylength, 1) := by decide +kernel
theorem x_176_12 : decode (q_code 176) 12 = .ok (.istore_n 2, 1) := by decide +kernel
theorem x_176_13 : decode (q_code 176) 13 = .ok (.iload_n 2, 1) := by decide +kernel
theorem x_176_14 : decode (q_code 176) 14 = .ok (.bipush 8, 2) := by decide +kernel
theorem x_176_16 : decode (q_code 176) 16 = .ok (.if_icmp .ge 8, 3) := by decide +kernel
theorem x_176_19 : decode (q_code 176) 19 = .ok (.bipush 8, 2) := by decide +kernel
theorem x_176_21 : decode (q_code 176) 21 = .ok (.goto 6, 3) := by decide +kernel
theorem x_176_24 : decode (q_code 176) 24 = .ok (.iload_n 2, 1) := by decide +kernel
theorem x_176_25 : decode (q_code 176) 25 = .ok (.iconst 2, 1) := by decide +kernel
theorem x_176_26 : decode (q_code 176) 26 = .ok (.idiv, 1) := by decide +kernel
theorem x_176_27 : decode (q_code 176) 27 = .ok (.istore_n 3, 1) := by decide +kernel
theorem x_176_28 : decode (q_code 176) 28 = .ok (.aload_n 0, 1) := by decide +kernel
theorem x_176_29 : decode (q_code 176) 29 = .ok (.aload_n 0, 1) := by decide +kernel
theorem x_176_30 : decode (q_code 176) 30 = .ok (.getfield 28, 3) := by decide +kernel
theorem x_176_33 : decode (q_code 176) 33 = .ok (.iload_n 2, 1) := by decide +kernel
theorem x_176_34 : decode (q_code 176) 34 = .ok (.iload_n 3, 1) := by decide +kernel
theorem x_176_35 : decode (q_code 176) 35 = .ok (.iadd, 1) := by decide +kernel
theorem x_176_36 : decode (q_code 176) 36 = .ok (.invokestatic 80, 3) := by decide +kernel
theorem x_176_39 : decode (q_code 176) 39 = .ok (.putfield 28, 3) := by decide +kernel
theorem x_176_42 : decode (q_code 176) 42 = .ok (.aload_n 0, 1) := by decide +kernel
theorem x_176_43 : decode (q_code 176) 43 = .ok (.aload_n 0, 1) := by decide +kernel
theorem x_176_44 : decode (q_code 176) 44 = .ok (.getfield 22, 3) := by decide +kernel
theorem x_176_47 : decode (q_code 176) 47 = .ok (.iload_n 2, 1) := by decide +kernel
theorem x_176_48 : decode (q_code 176) 48 = .ok (.iload_n 3, 1) := by decide +kernel
theorem x_176_49 : decode (q_code 176) 49 = .ok (.iadd, 1) := by decide +kernel
theorem x_176_50 : decode (q_code 176) 50 = .ok (.bipush 9, 2) := by decide +kernel
theorem x_176_52 : decode (q_code 176) 52 = .ok (.imul, 1) := by decide +kernel
theorem x_176_53 : decode (q_code 176) 53 = .ok (.invokestatic 80, 3) := by decide +kernel
theorem x_176_56 : decode (q_code 176) 56 = .ok (.putfield 22, 3) := by decide +kernel
theorem x_176_59 : decode (q_code 176) 59 = .ok (.aload_n 0, 1) := by decide +kernel
theorem x_176_60 : decode (q_code 176) 60 = .ok (.aload_n 0, 1) := by decide +kernel
theorem x_176_61 : decode (q_code 176) 61 = .ok (.getfield 25, 3) := by decide +kernel
theorem x_176_64 : decode (q_code 176) 64 = .ok (.iload_n 2, 1) := by decide +kernel
theorem x_176_65 : decode (q_code 176) 65 = .ok (.iload_n 3, 1) := by decide +kernel
theorem x_176_66 : decode (q_code 176) 66 = .ok (.iadd, 1) := by decide +kernel
theorem x_176_67 : decode (q_code 176) 67 = .ok (.bipush 9, 2) := by decide +kernel
theorem x_176_69 : decode (q_code 176) 69 = .ok (.imul, 1) := by decide +kernel
theorem x_176_70 : decode (q_code 176) 70 = .ok (.invokestatic 80, 3) := by decide +kernel
theorem x_176_73 : decode (q_code 176) 73 = .ok (.putfield 25, 3) := by decide +kernel
theorem x_176_76 : decode (q_code 176) 76 = .ok (.aload_n 0, 1) := by decide +kernel
theorem x_176_77 : decode (q_code 176) 77 = .ok (.aload_n 0, 1) := by decide +kernel
theorem x_176_78 : decode (q_code 176) 78 = .ok (.getfield 35, 3) := by decide +kernel
theorem x_176_81 : decode (q_code 176) 81 = .ok (.iload_n 2, 1) := by decide +kernel
theorem x_176_82 : decode (q_code 176) 82 = .ok (.iload_n 3, 1) := by decide +kernel
theorem x_176_83 : decode (q_code 176) 83 = .ok (.iadd, 1) := by decide +kernel
theorem x_176_84 : decode (q_code 176) 84 = .ok (.invokestatic 80, 3) := by decide +kernel
theorem x_176_87 : decode (q_code 176) 87 = .ok (.putfield 35, 3) := by decide +kernel
theorem x_176_90 : decode (q_code 176) 90 = .ok (.iload_n 2, 1) := by decide +kernel
theorem x_176_91 : decode (q_code 176) 91 = .ok (.iload_n 3, 1) := by decide +kernel
theorem x_176_92 : decode (q_code 176) 92 = .ok (.iadd, 1) := by decide +kernel
theorem x_176_93 : decode (q_code 176) 93 = .ok (.newarray .boolean, 2) := by decide +kernel
theorem x_176_95 : decode (q_code 176) 95 = .ok (.astore 4, 2) := by decide +kernel
theorem x_176_97 : decode (q_code 176) 97 = .ok (.iconst 0, 1) := by decide +kernel
theorem x_176_98 : decode (q_code 176) 98 = .ok (.istore 5, 2) := by decide +kernel
theorem x_176_100 : decode (q_code 176) 100 = .ok (.iload 5, 2) := by decide +kernel
theorem x_176_102 : decode (q_code 176) 102 = .ok (.iload_n 2, 1) := by decide +kernel
theorem x_176_103 : decode (q_code 176) 103 = .ok (.if_icmp .ge 31, 3) := by decide +kernel
theorem x_176_106 : decode (q_code 176) 106 = .ok (.iload 5, 2) := by decide +kernel
theorem x_176_108 : decode (q_code 176) 108 = .ok (.aload_n 0, 1) := by decide +kernel
theorem x_176_109 : decode (q_code 176) 109 = .ok (.getfield 31, 3) := by decide +kernel
theorem x_176_112 : decode (q_code 176) 112 = .ok (.arraylength, 1) := by decide +kernel
theorem x_176_113 : decode (q_code 176) 113 = .ok (.if_icmp .ge 21, 3) := by decide +kernel
theorem x_176_116 : decode (q_code 176) 116 = .ok (.aload 4, 2) := by decide +kernel
theorem x_176_118 : decode (q_code 176) 118 = .ok (.iload 5, 2) := by decide +kernel
theorem x_176_120 : decode (q_code 176) 120 = .ok (.aload_n 0, 1) := by decide +kernel
theorem x_176_121 : decode (q_code 176) 121 = .ok (.getfield 31, 3) := by decide +kernel
theorem x_176_124 : decode (q_code 176) 124 = .ok (.iload 5, 2) := by decide +kernel
theorem x_176_126 : decode (q_code 176) 126 = .ok (.baload, 1) := by decide +kernel
theorem x_176_127 : decode (q_code 176) 127 = .ok (.bastore, 1) := by decide +kernel
theorem x_176_128 : decode (q_code 176) 128 = .ok (.iinc 5 1, 3) := by decide +kernel
theorem x_176_131 : decode (q_code 176) 131 = .ok (.goto (-31), 3) := by decide +kernel
theorem x_176_134 : decode (q_code 176) 134 = .ok (.aload_n 0, 1) := by decide +kernel
theorem x_176_135 : decode (q_code 176) 135 = .ok (.aload 4, 2) := by decide +kernel
theorem x_176_137 : decode (q_code 176) 137 = .ok (.putfield 31, 3) := by decide +kernel
theorem x_176_140 : decode (q_code 176) 140 = .ok (.iload_n 2, 1) := by decide +kernel
theorem x_176_141 : decode (q_code 176) 141 = .ok (.iload_n 3, 1) := by decide +kernel
theorem x_176_142 : decode (q_code 176) 142 = .ok (.iadd, 1) := by decide +kernel
theorem x_176_143 : decode (q_code 176) 143 = .ok (.iconst 1, 1) := by decide +kernel
theorem x_176_144 : decode (q_code 176) 144 = .ok (.isub, 1) := by decide +kernel
theorem x_176_145 : decode (q_code 176) 145 = .ok (.istore 5, 2) := by decide +kernel
theorem x_176_147 : decode (q_code 176) 147 = .ok (.iload 5, 2) := by decide +kernel
theorem x_176_149 : decode (q_code 176) 149 = .ok (.iload_n 2, 1) := by decide +kernel
theorem x_176_150 : decode (q_code 176) 150 = .ok (.if_icmp .lt 30, 3) := by decide +kernel
theorem x_176_153 : decode (q_code 176) 153 = .ok (.aload_n 0, 1) := by decide +kernel
theorem x_176_154 : decode (q_code 176) 154 = .ok (.getfield 35, 3) := by decide +kernel
theorem x_176_157 : decode (q_code 176) 157 = .ok (.aload_n 0, 1) := by decide +kernel
theorem x_176_158 : decode (q_code 176) 158 = .ok (.getfield 63, 3) := by decide +kernel
theorem x_176_161 : decode (q_code 176) 161 = .ok (.iload 5, 2) := by decide +kernel
theorem x_176_163 : decode (q_code 176) 163 = .ok (.iastore, 1) := by decide +kernel
theorem x_176_164 : decode (q_code 176) 164 = .ok (.aload_n 0, 1) := by decide +kernel
theorem x_176_165 : decode (q_code 176) 165 = .ok (.dup, 1) := by decide +kernel
theorem x_176_166 : decode (q_code 176) 166 = .ok (.getfield 63, 3) := by decide +kernel
theorem x_176_169 : decode (q_code 176) 169 = .ok (.iconst 1, 1) := by decide +kernel
theorem x_176_170 : decode (q_code 176) 170 = .ok (.iadd, 1) := by decide +kernel
theorem x_176_171 : decode (q_code 176) 171 = .ok (.putfield 63, 3) := by decide +kernel
theorem x_176_174 : decode (q_code 176) 174 = .ok (.iinc 5 (-1), 3) := by decide +kernel
theorem x_176_177 : decode (q_code 176) 177 = .ok (.goto (-30), 3) := by decide +kernel
theorem x_176_180 : decode (q_code 176) 180 = .ok (.aload_n 0, 1) := by decide +kernel
theorem x_176_181 : decode (q_code 176) 181 = .ok (.dup, 1) := by decide +kernel
theorem x_176_182 : decode (q_code 176) 182 = .ok (.getfield 63, 3) := by decide +kernel
theorem x_176_185 : decode (q_code 176) 185 = .ok (.iconst 1, 1) := by decide +kernel
theorem x_176_186 : decode (q_code 176) 186 = .ok (.isub, 1) := by decide +kernel
theorem x_176_187 : decode (q_code 176) 187 = .ok (.putfield 63, 3) := by decide +kernel
theorem x_176_190 : decode (q_code 176) 190 = .ok (.aload_n 0, 1) := by decide +kernel
theorem x_176_191 : decode (q_code 176) 191 = .ok (.getfield 35, 3) := by decide +kernel
theorem x_176_194 : decode (q_code 176) 194 = .ok (.aload_n 0, 1) := by decide +kernel
theorem x_176_195 : decode (q_code 176) 195 = .ok (.getfield 63, 3) := by decide +kernel
theorem x_176_198 : decode (q_code 176) 198 = .ok (.iaload, 1) := by decide +kernel
theorem x_176_199 : decode (q_code 176) 199 = .ok (.istore_n 2, 1) := by decide +kernel
theorem x_176_200 : decode (q_code 176) 200 = .ok (.aload_n 0, 1) := by decide +kernel
theorem x_176_201 : decode (q_code 176) 201 = .ok (.getfield 28, 3) := by decide +kernel
theorem x_176_204 : decode (q_code 176) 204 = .ok (.iload_n 2, 1) := by decide +kernel
theorem x_176_205 : decode (q_code 176) 205 = .ok (.iconst 0, 1) := by decide +kernel
theorem x_176_206 : decode (q_code 176) 206 = .ok (.iastore, 1) := by decide +kernel
theorem x_176_207 : decode (q_code 176) 207 = .ok (.aload_n 0, 1) := by decide +kernel
theorem x_176_208 : decode (q_code 176) 208 = .ok (.getfield 31, 3) := by decide +kernel
theorem x_176_211 : decode (q_code 176) 211 = .ok (.iload_n 2, 1) := by decide +kernel
theorem x_176_212 : decode (q_code 176) 212 = .ok (.iload_n 1, 1) := by decide +kernel
theorem x_176_213 : decode (q_code 176) 213 = .ok (.bastore, 1) := by decide +kernel
theorem x_176_214 : decode (q_code 176) 214 = .ok (.aload_n 0, 1) := by decide +kernel
theorem x_176_215 : decode (q_code 176) 215 = .ok (.dup, 1) := by decide +kernel
theorem x_176_216 : decode (q_code 176) 216 = .ok (.getfield 57, 3) := by decide +kernel
theorem x_176_219 : decode (q_code 176) 219 = .ok (.iconst 1, 1) := by decide +kernel
theorem x_176_220 : decode (q_code 176) 220 = .ok (.iadd, 1) := by decide +kernel
theorem x_176_221 : decode (q_code 176) 221 = .ok (.putfield 57, 3) := by decide +kernel
theorem x_176_224 : decode (q_code 176) 224 = .ok (.aload_n 0, 1) := by decide +kernel
theorem x_176_225 : decode (q_code 176) 225 = .ok (.dup, 1) := by decide +kernel
theorem x_176_226 : decode (q_code 176) 226 = .ok (.getfield 54, 3) := by decide +kernel
theorem x_176_229 : decode (q_code 176) 229 = .ok (.iload_n 1, 1) := by decide +kernel
theorem x_176_230 : decode (q_code 176) 230 = .ok (.ifCond .eq 7, 3) := by decide +kernel
theorem x_176_233 : decode (q_code 176) 233 = .ok (.iconst 1, 1) := by decide +kernel
theorem x_176_234 : decode (q_code 176) 234 = .ok (.goto 4, 3) := by decide +kernel
theorem x_176_237 : decode (q_code 176) 237 = .ok (.iconst 0, 1) := by decide +kernel
theorem x_176_238 : decode (q_code 176) 238 = .ok (.iadd, 1) := by decide +kernel
theorem x_176_239 : decode (q_code 176) 239 = .ok (.putfield 54, 3) := by decide +kernel
theorem x_176_242 : decode (q_code 176) 242 = .ok (.iload_n 2, 1) := by decide +kernel
theorem x_176_243 : decode (q_code 176) 243 = .ok (.ireturn, 1) := by decide +kernel
theorem x_177_0 : decode (q_code 177) 0 = .ok (.aload_n 0, 1) := by decide +kernel
theorem x_177_1 : decode (q_code 177) 1 = .ok (.dup, 1) := by decide +kernel
theorem x_177_2 : decode (q_code 177) 2 = .ok (.getfield 57, 3) := by decide +kernel
theorem x_177_5 : decode (q_code 177) 5 = .ok (.iconst 1, 1) := by decide +kernel
theorem x_177_6 : decode (q_code 177) 6 = .ok (.isub, 1) := by decide +kernel
theorem x_177_7 : decode (q_code 177) 7 = .ok (.putfield 57, 3) := by decide +kernel
theorem x_177_10 : decode (q_code 177) 10 = .ok (.aload_n 0, 1) := by decide +kernel
theorem x_177_11 : decode (q_code 177) 11 = .ok (.dup, 1) := by decide +kernel
theorem x_177_12 : decode (q_code 177) 12 = .ok (.getfield 54, 3) := by decide +kernel
theorem x_177_15 : decode (q_code 177) 15 = .ok (.aload_n 0, 1) := by decide +kernel
theorem x_177_16 : decode (q_code 177) 16 = .ok (.getfield 31, 3) := by decide +kernel
theorem x_177_19 : decode (q_code 177) 19 = .ok (.iload_n 1, 1) := by decide +kernel
theorem x_177_20 : decode (q_code 177) 20 = .ok (.baload, 1) := by decide +kernel
theorem x_177_21 : decode (q_code 177) 21 = .ok (.ifCond .eq 7, 3) := by decide +kernel
theorem x_177_24 : decode (q_code 177) 24 = .ok (.iconst 1, 1) := by decide +kernel
theorem x_177_25 : decode (q_code 177) 25 = .ok (.goto 4, 3) := by decide +kernel
theorem x_177_28 : decode (q_code 177) 28 = .ok (.iconst 0, 1) := by decide +kernel
theorem x_177_29 : decode (q_code 177) 29 = .ok (.isub, 1) := by decide +kernel
theorem x_177_30 : decode (q_code 177) 30 = .ok (.putfield 54, 3) := by decide +kernel
theorem x_177_33 : decode (q_code 177) 33 = .ok (.aload_n 0, 1) := by decide +kernel
theorem x_177_34 : decode (q_code 177) 34 = .ok (.getfield 63, 3) := by decide +kernel
theorem x_177_37 : decode (q_code 177) 37 = .ok (.aload_n 0, 1) := by decide +kernel
theorem x_177_38 : decode (q_code 177) 38 = .ok (.getfield 35, 3) := by decide +kernel
theorem x_177_41 : decode (q_code 177) 41 = .ok (.arraylength, 1) := by decide +kernel
theorem x_177_42 : decode (q_code 177) 42 = .ok (.if_icmp .ge 23, 3) := by decide +kernel
theorem x_177_45 : decode (q_code 177) 45 = .ok (.aload_n 0, 1) := by decide +kernel
theorem x_177_46 : decode (q_code 177) 46 = .ok (.getfield 35, 3) := by decide +kernel
theorem x_177_49 : decode (q_code 177) 49 = .ok (.aload_n 0, 1) := by decide +kernel
theorem x_177_50 : decode (q_code 177) 50 = .ok (.getfield 63, 3) := by decide +kernel
theorem x_177_53 : decode (q_code 177) 53 = .ok (.iload_n 1, 1) := by decide +kernel
theorem x_177_54 : decode (q_code 177) 54 = .ok (.iastore, 1) := by decide +kernel
theorem x_177_55 : decode (q_code 177) 55 = .ok (.aload_n 0, 1) := by decide +kernel
theorem x_177_56 : decode (q_code 177) 56 = .ok (.dup, 1) := by decide +kernel
theorem x_177_57 : decode (q_code 177) 57 = .ok (.getfield 63, 3) := by decide +kernel
theorem x_177_60 : decode (q_code 177) 60 = .ok (.iconst 1, 1) := by decide +kernel
theorem x_177_61 : decode (q_code 177) 61 = .ok (.iadd, 1) := by decide +kernel
theorem x_177_62 : decode (q_code 177) 62 = .ok (.putfield 63, 3) := by decide +kernel
theorem x_177_65 : decode (q_code 177) 65 = .ok (.return_, 1) := by decide +kernel
theorem x_178_0 : decode (q_code 178) 0 = .ok (.aload_n 0, 1) := by decide +kernel
theorem x_178_1 : decode (q_code 178) 1 = .ok (.getfield 15, 3) := by decide +kernel
theorem x_178_4 : decode (q_code 178) 4 = .ok (.iload_n 1, 1) := by decide +kernel
theorem x_178_5 : decode (q_code 178) 5 = .ok (.iload 5, 2) := by decide +kernel
theorem x_178_7 : decode (q_code 178) 7 = .ok (.iastore, 1) := by decide +kernel
theorem x_178_8 : decode (q_code 178) 8 = .ok (.iconst 0, 1) := by decide +kernel
theorem x_178_9 : decode (q_code 178) 9 = .ok (.istore 6, 2) := by decide +kernel
theorem x_178_11 : decode (q_code 178) 11 = .ok (.iload 6, 2) := by decide +kernel
theorem x_178_13 : decode (q_code 178) 13 = .ok (.iconst 2, 1) := by decide +kernel
theorem x_178_14 : decode (q_code 178) 14 = .ok (.if_icmp .ge 95, 3) := by decide +kernel
theorem x_178_17 : decode (q_code 178) 17 = .ok (.iload 6, 2) := by decide +kernel
theorem x_178_19 : decode (q_code 178) 19 = .ok (.ifCond .ne 7, 3) := by decide +kernel
theorem x_178_22 : decode (q_code 178) 22 = .ok (.iload_n 3, 1) := by decide +kernel
theorem x_178_23 : decode (q_code 178) 23 = .ok (.goto 5, 3) := by decide +kernel
theorem x_178_26 : decode (q_code 178) 26 = .ok (.iload 4, 2) := by decide +kernel
theorem x_178_28 : decode (q_code 178) 28 = .ok (.istore 7, 2) := by decide +kernel
theorem x_178_30 : decode (q_code 178) 30 = .ok (.iload_n 1, 1) := by decide +kernel
theorem x_178_31 : decode (q_code 178) 31 = .ok (.sipush 132, 3) := by decide +kernel
theorem x_178_34 : decode (q_code 178) 34 = .ok (.imul, 1) := by decide +kernel
theorem x_178_35 : decode (q_code 178) 35 = .ok (.iload 6, 2) := by decide +kernel
theorem x_178_37 : decode (q_code 178) 37 = .ok (.bipush 66, 2) := by decide +kernel
theorem x_178_39 : decode (q_code 178) 39 = .ok (.imul, 1) := by decide +kernel
theorem x_178_40 : decode (q_code 178) 40 = .ok (.iadd, 1) := by decide +kernel
theorem x_178_41 : decode (q_code 178) 41 = .ok (.istore 8, 2) := by decide +kernel
theorem x_178_43 : decode (q_code 178) 43 = .ok (.aload_n 2, 1) := by decide +kernel
theorem x_178_44 : decode (q_code 178) 44 = .ok (.iload 7, 2) := by decide +kernel
theorem x_178_46 : decode (q_code 178) 46 = .ok (.invokestatic 89, 3) := by decide +kernel
theorem x_178_49 : decode (q_code 178) 49 = .ok (.istore 9, 2) := by decide +kernel
theorem x_178_51 : decode (q_code 178) 51 = .ok (.aload_n 0, 1) := by decide +kernel
theorem x_178_52 : decode (q_code 178) 52 = .ok (.getfield 11, 3) := by decide +kernel
theorem x_178_55 : decode (q_code 178) 55 = .ok (.iload 8, 2) := by decide +kernel
theorem x_178_57 : decode (q_code 178) 57 = .ok (.aload_n 2, 1) := by decide +kernel
theorem x_178_58 : decode (q_code 178) 58 = .ok (.iload 7, 2) := by decide +kernel
theorem x_178_60 : decode (q_code 178) 60 = .ok (.invokestatic 95, 3) := by decide +kernel
theorem x_178_63 : decode (q_code 178) 63 = .ok (.i2b, 1) := by decide +kernel
theorem x_178_64 : decode (q_code 178) 64 = .ok (.bastore, 1) := by decide +kernel
theorem x_178_65 : decode (q_code 178) 65 = .ok (.aload_n 0, 1) := by decide +kernel
theorem x_178_66 : decode (q_code 178) 66 = .ok (.getfield 11, 3) := by decide +kernel
theorem x_178_69 : decode (q_code 178) 69 = .ok (.iload 8, 2) := by decide +kernel
theorem x_178_71 : decode (q_code 178) 71 = .ok (.iconst 1, 1) := by decide +kernel
theorem x_178_72 : decode (q_code 178) 72 = .ok (.iadd, 1) := by decide +kernel
theorem x_178_73 : decode (q_code 178) 73 = .ok (.iconst 0, 1) := by decide +kernel
theorem x_178_74 : decode (q_code 178) 74 = .ok (.bastore, 1) := by decide +kernel
theorem x_178_75 : decode (q_code 178) 75 = .ok (.aload_n 2, 1) := by decide +kernel
theorem x_178_76 : decode (q_code 178) 76 = .ok (.iload 9, 2) := by decide +kernel
theorem x_178_78 : decode (q_code 178) 78 = .ok (.aload_n 0, 1) := by decide +kernel
theorem x_178_79 : decode (q_code 178) 79 = .ok (.getfield 11, 3) := by decide +kernel
theorem x_178_82 : decode (q_code 178) 82 = .ok (.iload 8, 2) := by decide +kernel
theorem x_178_84 : decode (q_code 178) 84 = .ok (.iconst 2, 1) := by decide +kernel
theorem x_178_85 : decode (q_code 178) 85 = .ok (.iadd, 1) := by decide +kernel
theorem x_178_86 : decode (q_code 178) 86 = .ok (.aload_n 2, 1) := by decide +kernel
theorem x_178_87 : decode (q_code 178) 87 = .ok (.iload 7, 2) := by decide +kernel
theorem x_178_89 : decode (q_code 178) 89 = .ok (.invokestatic 98, 3) := by decide +kernel
theorem x_178_92 : decode (q_code 178) 92 = .ok (.iload 9, 2) := by decide +kernel
theorem x_178_94 : decode (q_code 178) 94 = .ok (.isub, 1) := by decide +kernel
theorem x_178_95 : decode (q_code 178) 95 = .ok (.bipush 64, 2) := by decide +kernel
theorem x_178_97 : decode (q_code 178) 97 = .ok (.invokestatic 101, 3) := by decide +kernel
theorem x_178_100 : decode (q_code 178) 100 = .ok (.invokestatic 107, 3) := by decide +kernel
theorem x_178_103 : decode (q_code 178) 103 = .ok (.iinc 6 1, 3) := by decide +kernel
theorem x_178_106 : decode (q_code 178) 106 = .ok (.goto (-95), 3) := by decide +kernel
theorem x_178_109 : decode (q_code 178) 109 = .ok (.return_, 1) := by decide +kernel
theorem x_179_0 : decode (q_code 179) 0 = .ok (.aload_n 0, 1) := by decide +kernel
theorem x_179_1 : decode (q_code 179) 1 = .ok (.invokevirtual 73, 3) := by decide +kernel
theorem x_179_4 : decode (q_code 179) 4 = .ok (.istore_n 2, 1) := by decide +kernel
theorem x_179_5 : decode (q_code 179) 5 = .ok (.aload_n 0, 1) := by decide +kernel
theorem x_179_6 : decode (q_code 179) 6 = .ok (.getfield 11, 3) := by decide +kernel
theorem x_179_9 : decode (q_code 179) 9 = .ok (.iload_n 1, 1) := by decide +kernel
theorem x_179_10 : decode (q_code 179) 10 = .ok (.sipush 132, 3) := by decide +kernel
theorem x_179_13 : decode (q_code 179) 13 = .ok (.imul, 1) := by decide +kernel
theorem x_179_14 : decode (q_code 179) 14 = .ok (.aload_n 0, 1) := by decide +kernel
theorem x_179_15 : decode (q_code 179) 15 = .ok (.getfield 11, 3) := by decide +kernel
theorem x_179_18 : decode (q_code 179) 18 = .ok (.iload_n 2, 1) := by decide +kernel
theorem x_179_19 : decode (q_code 179) 19 = .ok (.sipush 132, 3) := by decide +kernel
theorem x_179_22 : decode (q_code 179) 22 = .ok (.imul, 1) := by decide +kernel
theorem x_179_23 : decode (q_code 179) 23 = .ok (.sipush 132, 3) := by decide +kernel
theorem x_179_26 : decode (q_code 179) 26 = .ok (.invokestatic 107, 3) := by decide +kernel
theorem x_179_29 : decode (q_code 179) 29 = .ok (.aload_n 0, 1) := by decide +kernel
theorem x_179_30 : decode (q_code 179) 30 = .ok (.getfield 15, 3) := by decide +kernel
theorem x_179_33 : decode (q_code 179) 33 = .ok (.iload_n 2, 1) := by decide +kernel
theorem x_179_34 : decode (q_code 179) 34 = .ok (.aload_n 0, 1) := by decide +kernel
theorem x_179_35 : decode (q_code 179) 35 = .ok (.getfield 15, 3) := by decide +kernel
theorem x_179_38 : decode (q_code 179) 38 = .ok (.iload_n 1, 1) := by decide +kernel
theorem x_179_39 : decode (q_code 179) 39 = .ok (.iaload, 1) := by decide +kernel
theorem x_179_40 : decode (q_code 179) 40 = .ok (.iastore, 1) := by decide +kernel
theorem x_179_41 : decode (q_code 179) 41 = .ok (.iload_n 2, 1) := by decide +kernel
theorem x_179_42 : decode (q_code 179) 42 = .ok (.ireturn, 1) := by decide +kernel
theorem x_180_0 : decode (q_code 180) 0 = .ok (.iload_n 1, 1) := by decide +kernel
theorem x_180_1 : decode (q_code 180) 1 = .ok (.sipush 132, 3) := by decide +kernel
theorem x_180_4 : decode (q_code 180) 4 = .ok (.imul, 1) := by decide +kernel
theorem x_180_5 : decode (q_code 180) 5 = .ok (.istore_n 3, 1) := by decide +kernel
theorem x_180_6 : decode (q_code 180) 6 = .ok (.iload_n 2, 1) := by decide +kernel
theorem x_180_7 : decode (q_code 180) 7 = .ok (.sipush 132, 3) := by decide +kernel
theorem x_180_10 : decode (q_code 180) 10 = .ok (.imul, 1) := by decide +kernel
theorem x_180_11 : decode (q_code 180) 11 = .ok (.istore 4, 2) := by decide +kernel
theorem x_180_13 : decode (q_code 180) 13 = .ok (.aload_n 0, 1) := by decide +kernel
theorem x_180_14 : decode (q_code 180) 14 = .ok (.getfield 11, 3) := by decide +kernel
theorem x_180_17 : decode (q_code 180) 17 = .ok (.iload_n 3, 1) := by decide +kernel
theorem x_180_18 : decode (q_code 180) 18 = .ok (.aload_n 0, 1) := by decide +kernel
theorem x_180_19 : decode (q_code 180) 19 = .ok (.getfield 11, 3) := by decide +kernel
theorem x_180_22 : decode (q_code 180) 22 = .ok (.iload 4, 2) := by decide +kernel
theorem x_180_24 : decode (q_code 180) 24 = .ok (.iconst 0, 1) := by decide +kernel
theorem x_180_25 : decode (q_code 180) 25 = .ok (.invokestatic 113, 3) := by decide +kernel
theorem x_180_28 : decode (q_code 180) 28 = .ok (.aload_n 0, 1) := by decide +kernel
theorem x_180_29 : decode (q_code 180) 29 = .ok (.getfield 44, 3) := by decide +kernel
theorem x_180_32 : decode (q_code 180) 32 = .ok (.imul, 1) := by decide +kernel
theorem x_180_33 : decode (q_code 180) 33 = .ok (.istore 5, 2) := by decide +kernel
theorem x_180_35 : decode (q_code 180) 35 = .ok (.iload 5, 2) := by decide +kernel
theorem x_180_37 : decode (q_code 180) 37 = .ok (.ifCond .ne 31, 3) := by decide +kernel
theorem x_180_40 : decode (q_code 180) 40 = .ok (.aload_n 0, 1) := by decide +kernel
theorem x_180_41 : decode (q_code 180) 41 = .ok (.getfield 11, 3) := by decide +kernel
theorem x_180_44 : decode (q_code 180) 44 = .ok (.iload_n 3, 1) := by decide +kernel
theorem x_180_45 : decode (q_code 180) 45 = .ok (.bipush 66, 2) := by decide +kernel
theorem x_180_47 : decode (q_code 180) 47 = .ok (.iadd, 1) := by decide +kernel
theorem x_180_48 : decode (q_code 180) 48 = .ok (.aload_n 0, 1) := by decide +kernel
theorem x_180_49 : decode (q_code 180) 49 = .ok (.getfield 11, 3) := by decide +kernel
theorem x_180_52 : decode (q_code 180) 52 = .ok (.iload 4, 2) := by decide +kernel
theorem x_180_54 : decode (q_code 180) 54 = .ok (.bipush 66, 2) := by decide +kernel
theorem x_180_56 : decode (q_code 180) 56 = .ok (.iadd, 1) := by decide +kernel
theorem x_180_57 : decode (q_code 180) 57 = .ok (.iconst 0, 1) := by decide +kernel
theorem x_180_58 : decode (q_code 180) 58 = .ok (.invokestatic 113, 3) := by decide +kernel
theorem x_180_61 : decode (q_code 180) 61 = .ok (.aload_n 0, 1) := by decide +kernel
theorem x_180_62 : decode (q_code 180) 62 = .ok (.getfield 48, 3) := by decide +kernel
theorem x_180_65 : decode (q_code 180) 65 = .ok (.imul, 1) := by decide +kernel
theorem x_180_66 : decode (q_code 180) 66 = .ok (.istore 5, 2) := by decide +kernel
theorem x_180_68 : decode (q_code 180) 68 = .ok (.iload 5, 2) := by decide +kernel
theorem x_180_70 : decode (q_code 180) 70 = .ok (.ifCond .ne 21, 3) := by decide +kernel
theorem x_180_73 : decode (q_code 180) 73 = .ok (.aload_n 0, 1) := by decide +kernel
theorem x_180_74 : decode (q_code 180) 74 = .ok (.getfield 15, 3) := by decide +kernel
theorem x_180_77 : decode (q_code 180) 77 = .ok (.iload_n 1, 1) := by decide +kernel
theorem x_180_78 : decode (q_code 180) 78 = .ok (.iaload, 1) := by decide +kernel
theorem x_180_79 : decode (q_code 180) 79 = .ok (.aload_n 0, 1) := by decide +kernel
theorem x_180_80 : decode (q_code 180) 80 = .ok (.getfield 15, 3) := by decide +kernel
theorem x_180_83 : decode (q_code 180) 83 = .ok (.iload_n 2, 1) := by decide +kernel
theorem x_180_84 : decode (q_code 180) 84 = .ok (.iaload, 1) := by decide +kernel
theorem x_180_85 : decode (q_code 180) 85 = .ok (.invokestatic 117, 3) := by decide +kernel
theorem x_180_88 : decode (q_code 180) 88 = .ok (.goto 5, 3) := by decide +kernel
theorem x_180_91 : decode (q_code 180) 91 = .ok (.iload 5, 2) := by decide +kernel
theorem x_180_93 : decode (q_code 180) 93 = .ok (.ireturn, 1) := by decide +kernel
theorem x_181_0 : decode (q_code 181) 0 = .ok (.aload_n 0, 1) := by decide +kernel
theorem x_181_1 : decode (q_code 181) 1 = .ok (.getfield 70, 3) := by decide +kernel
theorem x_181_4 : decode (q_code 181) 4 = .ok (.istore_n 1, 1) := by decide +kernel
theorem x_181_5 : decode (q_code 181) 5 = .ok (.iconst 1, 1) := by decide +kernel
theorem x_181_6 : decode (q_code 181) 6 = .ok (.istore_n 2, 1) := by decide +kernel
theorem x_181_7 : decode (q_code 181) 7 = .ok (.iload_n 2, 1) := by decide +kernel
theorem x_181_8 : decode (q_code 181) 8 = .ok (.bipush 16, 2) := by decide +kernel
theorem x_181_10 : decode (q_code 181) 10 = .ok (.if_icmp .ge 28, 3) := by decide +kernel
theorem x_181_13 : decode (q_code 181) 13 = .ok (.aload_n 0, 1) := by decide +kernel
theorem x_181_14 : decode (q_code 181) 14 = .ok (.getfield 31, 3) := by decide +kernel
theorem x_181_17 : decode (q_code 181) 17 = .ok (.iload_n 1, 1) := by decide +kernel
theorem x_181_18 : decode (q_code 181) 18 = .ok (.baload, 1) := by decide +kernel
theorem x_181_19 : decode (q_code 181) 19 = .ok (.ifCond .ne 19, 3) := by decide +kernel
theorem x_181_22 : decode (q_code 181) 22 = .ok (.aload_n 0, 1) := by decide +kernel
theorem x_181_23 : decode (q_code 181) 23 = .ok (.getfield 22, 3) := by decide +kernel
theorem x_181_26 : decode (q_code 181) 26 = .ok (.iload_n 1, 1) := by decide +kernel
theorem x_181_27 : decode (q_code 181) 27 = .ok (.bipush 9, 2) := by decide +kernel
theorem x_181_29 : decode (q_code 181) 29 = .ok (.imul, 1) := by decide +kernel
theorem x_181_30 : decode (q_code 181) 30 = .ok (.iaload, 1) := by decide +kernel
theorem x_181_31 : decode (q_code 181) 31 = .ok (.istore_n 1, 1) := by decide +kernel
theorem x_181_32 : decode (q_code 181) 32 = .ok (.iinc 2 1, 3) := by decide +kernel
theorem x_181_35 : decode (q_code 181) 35 = .ok (.goto (-28), 3) := by decide +kernel
theorem x_181_38 : decode (q_code 181) 38 = .ok (.iload_n 2, 1) := by decide +kernel
theorem x_181_39 : decode (q_code 181) 39 = .ok (.ireturn, 1) := by decide +kernel
theorem x_182_0 : decode (q_code 182) 0 = .ok (.iconst 0, 1) := by decide +kernel
theorem x_182_1 : decode (q_code 182) 1 = .ok (.istore_n 1, 1) := by decide +kernel
theorem x_182_2 : decode (q_code 182) 2 = .ok (.aload_n 0, 1) := by decide +kernel
theorem x_182_3 : decode (q_code 182) 3 = .ok (.getfield 38, 3) := by decide +kernel
theorem x_182_6 : decode (q_code 182) 6 = .ok (.iconst 0, 1) := by decide +kernel
theorem x_182_7 : decode (q_code 182) 7 = .ok (.aload_n 0, 1) := by decide +kernel
theorem x_182_8 : decode (q_code 182) 8 = .ok (.getfield 70, 3) := by decide +kernel
theorem x_182_11 : decode (q_code 182) 11 = .ok (.iastore, 1) := by decide +kernel
theorem x_182_12 : decode (q_code 182) 12 = .ok (.iload_n 1, 1) := by decide +kernel
theorem x_182_13 : decode (q_code 182) 13 = .ok (.bipush 15, 2) := by decide +kernel
theorem x_182_15 : decode (q_code 182) 15 = .ok (.if_icmp .ge 101, 3) := by decide +kernel
theorem x_182_18 : decode (q_code 182) 18 = .ok (.aload_n 0, 1) := by decide +kernel
theorem x_182_19 : decode (q_code 182) 19 = .ok (.getfield 31, 3) := by decide +kernel
theorem x_182_22 : decode (q_code 182) 22 = .ok (.aload_n 0, 1) := by decide +kernel
theorem x_182_23 : decode (q_code 182) 23 = .ok (.getfield 38, 3) := by decide +kernel
theorem x_182_26 : decode (q_code 182) 26 = .ok (.iload_n 1, 1) := by decide +kernel
theorem x_182_27 : decode (q_code 182) 27 = .ok (.iaload, 1) := by decide +kernel
theorem x_182_28 : decode (q_code 182) 28 = .ok (.baload, 1) := by decide +kernel
theorem x_182_29 : decode (q_code 182) 29 = .ok (.ifCond .ne 87, 3) := by decide +kernel
theorem x_182_32 : decode (q_code 182) 32 = .ok (.aload_n 0, 1) := by decide +kernel
theorem x_182_33 : decode (q_code 182) 33 = .ok (.getfield 38, 3) := by decide +kernel
theorem x_182_36 : decode (q_code 182) 36 = .ok (.iload_n 1, 1) := by decide +kernel
theorem x_182_37 : decode (q_code 182) 37 = .ok (.iaload, 1) := by decide +kernel
theorem x_182_38 : decode (q_code 182) 38 = .ok (.istore_n 2, 1) := by decide +kernel
theorem x_182_39 : decode (q_code 182) 39 = .ok (.iconst 0, 1) := by decide +kernel
theorem x_182_40 : decode (q_code 182) 40 = .ok (.istore_n 3, 1) := by decide +kernel
theorem x_182_41 : decode (q_code 182) 41 = .ok (.iload_n 3, 1) := by decide +kernel
theorem x_182_42 : decode (q_code 182) 42 = .ok (.aload_n 0, 1) := by decide +kernel
theorem x_182_43 : decode (q_code 182) 43 = .ok (.getfield 28, 3) := by decide +kernel
theorem x_182_46 : decode (q_code 182) 46 = .ok (.iload_n 2, 1) := by decide +kernel
theorem x_182_47 : decode (q_code 182) 47 = .ok (.iaload, 1) := by decide +kernel
theorem x_182_48 : decode (q_code 182) 48 = .ok (.iconst 1, 1) := by decide +kernel
theorem x_182_49 : decode (q_code 182) 49 = .ok (.isub, 1) := by decide +kernel
theorem x_182_50 : decode (q_code 182) 50 = .ok (.if_icmp .ge 34, 3) := by decide +kernel
theorem x_182_53 : decode (q_code 182) 53 = .ok (.aload_n 0, 1) := by decide +kernel
theorem x_182_54 : decode (q_code 182) 54 = .ok (.aload_n 0, 1) := by decide +kernel
theorem x_182_55 : decode (q_code 182) 55 = .ok (.getfield 25, 3) := by decide +kernel
theorem x_182_58 : decode (q_code 182) 58 = .ok (.iload_n 2, 1) := by decide +kernel
theorem x_182_59 : decode (q_code 182) 59 = .ok (.bipush 9, 2) := by decide +kernel
theorem x_182_61 : decode (q_code 182) 61 = .ok (.imul, 1) := by decide +kernel
theorem x_182_62 : decode (q_code 182) 62 = .ok (.iload_n 3, 1) := by decide +kernel
theorem x_182_63 : decode (q_code 182) 63 = .ok (.iadd, 1) := by decide +kernel
theorem x_182_64 : decode (q_code 182) 64 = .ok (.iaload, 1) := by decide +kernel
theorem x_182_65 : decode (q_code 182) 65 = .ok (.aload_n 0, 1) := by decide +kernel
theorem x_182_66 : decode (q_code 182) 66 = .ok (.getfield 77, 3) := by decide +kernel
theorem x_182_69 : decode (q_code 182) 69 = .ok (.invokevirtual 121, 3) := by decide +kernel
theorem x_182_72 : decode (q_code 182) 72 = .ok (.ifCond .le 6, 3) := by decide +kernel
theorem x_182_75 : decode (q_code 182) 75 = .ok (.goto 9, 3) := by decide +kernel
theorem x_182_78 : decode (q_code 182) 78 = .ok (.iinc 3 1, 3) := by decide +kernel
theorem x_182_81 : decode (q_code 182) 81 = .ok (.goto (-40), 3) := by decide +kernel
theorem x_182_84 : decode (q_code 182) 84 = .ok (.aload_n 0, 1) := by decide +kernel
theorem x_182_85 : decode (q_code 182) 85 = .ok (.getfield 41, 3) := by decide +kernel
theorem x_182_88 : decode (q_code 182) 88 = .ok (.iload_n 1, 1) := by decide +kernel
theorem x_182_89 : decode (q_code 182) 89 = .ok (.iload_n 3, 1) := by decide +kernel
theorem x_182_90 : decode (q_code 182) 90 = .ok (.iastore, 1) := by decide +kernel
theorem x_182_91 : decode (q_code 182) 91 = .ok (.aload_n 0, 1) := by decide +kernel
theorem x_182_92 : decode (q_code 182) 92 = .ok (.getfield 38, 3) := by decide +kernel
theorem x_182_95 : decode (q_code 182) 95 = .ok (.iload_n 1, 1) := by decide +kernel
theorem x_182_96 : decode (q_code 182) 96 = .ok (.iconst 1, 1) := by decide +kernel
theorem x_182_97 : decode (q_code 182) 97 = .ok (.iadd, 1) := by decide +kernel
theorem x_182_98 : decode (q_code 182) 98 = .ok (.aload_n 0, 1) := by decide +kernel
theorem x_182_99 : decode (q_code 182) 99 = .ok (.getfield 22, 3) := by decide +kernel
theorem x_182_102 : decode (q_code 182) 102 = .ok (.iload_n 2, 1) := by decide +kernel
theorem x_182_103 : decode (q_code 182) 103 = .ok (.bipush 9, 2) := by decide +kernel
theorem x_182_105 : decode (q_code 182) 105 = .ok (.imul, 1) := by decide +kernel
theorem x_182_106 : decode (q_code 182) 106 = .ok (.iload_n 3, 1) := by decide +kernel
theorem x_182_107 : decode (q_code 182) 107 = .ok (.iadd, 1) := by decide +kernel
theorem x_182_108 : decode (q_code 182) 108 = .ok (.iaload, 1) := by decide +kernel
theorem x_182_109 : decode (q_code 182) 109 = .ok (.iastore, 1) := by decide +kernel
theorem x_182_110 : decode (q_code 182) 110 = .ok (.iinc 1 1, 3) := by decide +kernel
theorem x_182_113 : decode (q_code 182) 113 = .ok (.goto (-101), 3) := by decide +kernel
theorem x_182_116 : decode (q_code 182) 116 = .ok (.iload_n 1, 1) := by decide +kernel
theorem x_182_117 : decode (q_code 182) 117 = .ok (.ireturn, 1) := by decide +kernel
theorem x_183_0 : decode (q_code 183) 0 = .ok (.aload_n 0, 1) := by decide +kernel
theorem x_183_1 : decode (q_code 183) 1 = .ok (.aload_n 0, 1) := by decide +kernel
theorem x_183_2 : decode (q_code 183) 2 = .ok (.getfield 77, 3) := by decide +kernel
theorem x_183_5 : decode (q_code 183) 5 = .ok (.aload_n 1, 1) := by decide +kernel
theorem x_183_6 : decode (q_code 183) 6 = .ok (.iload_n 2, 1) := by decide +kernel
theorem x_183_7 : decode (q_code 183) 7 = .ok (.iload_n 3, 1) := by decide +kernel
theorem x_183_8 : decode (q_code 183) 8 = .ok (.iload 4, 2) := by decide +kernel
theorem x_183_10 : decode (q_code 183) 10 = .ok (.invokevirtual 124, 3) := by decide +kernel
theorem x_183_13 : decode (q_code 183) 13 = .ok (.aload_n 0, 1) := by decide +kernel
theorem x_183_14 : decode (q_code 183) 14 = .ok (.invokevirtual 128, 3) := by decide +kernel
theorem x_183_17 : decode (q_code 183) 17 = .ok (.istore 5, 2) := by decide +kernel
theorem x_183_19 : decode (q_code 183) 19 = .ok (.aload_n 0, 1) := by decide +kernel
theorem x_183_20 : decode (q_code 183) 20 = .ok (.getfield 38, 3) := by decide +kernel
theorem x_183_23 : decode (q_code 183) 23 = .ok (.iload 5, 2) := by decide +kernel
theorem x_183_25 : decode (q_code 183) 25 = .ok (.iaload, 1) := by decide +kernel
theorem x_183_26 : decode (q_code 183) 26 = .ok (.istore 6, 2) := by decide +kernel
theorem x_183_28 : decode (q_code 183) 28 = .ok (.iconst 0, 1) := by decide +kernel
theorem x_183_29 : decode (q_code 183) 29 = .ok (.istore 7, 2) := by decide +kernel
theorem x_183_31 : decode (q_code 183) 31 = .ok (.iload 7, 2) := by decide +kernel
theorem x_183_33 : decode (q_code 183) 33 = .ok (.aload_n 0, 1) := by decide +kernel
theorem x_183_34 : decode (q_code 183) 34 = .ok (.getfield 28, 3) := by decide +kernel
theorem x_183_37 : decode (q_code 183) 37 = .ok (.iload 6, 2) := by decide +kernel
theorem x_183_39 : decode (q_code 183) 39 = .ok (.iaload, 1) := by decide +kernel
theorem x_183_40 : decode (q_code 183) 40 = .ok (.if_icmp .ge 36, 3) := by decide +kernel
theorem x_183_43 : decode (q_code 183) 43 = .ok (.aload_n 0, 1) := by decide +kernel
theorem x_183_44 : decode (q_code 183) 44 = .ok (.aload_n 0, 1) := by decide +kernel
theorem x_183_45 : decode (q_code 183) 45 = .ok (.getfield 22, 3) := by decide +kernel
theorem x_183_48 : decode (q_code 183) 48 = .ok (.iload 6, 2) := by decide +kernel
theorem x_183_50 : decode (q_code 183) 50 = .ok (.bipush 9, 2) := by decide +kernel
theorem x_183_52 : decode (q_code 183) 52 = .ok (.imul, 1) := by decide +kernel
theorem x_183_53 : decode (q_code 183) 53 = .ok (.iload 7, 2) := by decide +kernel
theorem x_183_55 : decode (q_code 183) 55 = .ok (.iadd, 1) := by decide +kernel
theorem x_183_56 : decode (q_code 183) 56 = .ok (.iaload, 1) := by decide +kernel
theorem x_183_57 : decode (q_code 183) 57 = .ok (.aload_n 0, 1) := by decide +kernel
theorem x_183_58 : decode (q_code 183) 58 = .ok (.getfield 77, 3) := by decide +kernel
theorem x_183_61 : decode (q_code 183) 61 = .ok (.invokevirtual 121, 3) := by decide +kernel
theorem x_183_64 : decode (q_code 183) 64 = .ok (.ifCond .le 6, 3) := by decide +kernel
theorem x_183_67 : decode (q_code 183) 67 = .ok (.goto 9, 3) := by decide +kernel
theorem x_183_70 : decode (q_code 183) 70 = .ok (.iinc 7 1, 3) := by decide +kernel
theorem x_183_73 : decode (q_code 183) 73 = .ok (.goto (-42), 3) := by decide +kernel
theorem x_183_76 : decode (q_code 183) 76 = .ok (.aload_n 0, 1) := by decide +kernel
theorem x_183_77 : decode (q_code 183) 77 = .ok (.iload 6, 2) := by decide +kernel
theorem x_183_79 : decode (q_code 183) 79 = .ok (.iload 7, 2) := by decide +kernel
theorem x_183_81 : decode (q_code 183) 81 = .ok (.aload_n 0, 1) := by decide +kernel
theorem x_183_82 : decode (q_code 183) 82 = .ok (.getfield 77, 3) := by decide +kernel
theorem x_183_85 : decode (q_code 183) 85 = .ok (.invokevirtual 131, 3) := by decide +kernel
theorem x_183_88 : decode (q_code 183) 88 = .ok (.aload_n 0, 1) := by decide +kernel
theorem x_183_89 : decode (q_code 183) 89 = .ok (.aload_n 0, 1) := by decide +kernel
theorem x_183_90 : decode (q_code 183) 90 = .ok (.invokevirtual 73, 3) := by decide +kernel
theorem x_183_93 : decode (q_code 183) 93 = .ok (.putfield 77, 3) := by decide +kernel
theorem x_183_96 : decode (q_code 183) 96 = .ok (.aload_n 0, 1) := by decide +kernel
theorem x_183_97 : decode (q_code 183) 97 = .ok (.dup, 1) := by decide +kernel
theorem x_183_98 : decode (q_code 183) 98 = .ok (.getfield 51, 3) := by decide +kernel
theorem x_183_101 : decode (q_code 183) 101 = .ok (.iconst 1, 1) := by decide +kernel
theorem x_183_102 : decode (q_code 183) 102 = .ok (.iadd, 1) := by decide +kernel
theorem x_183_103 : decode (q_code 183) 103 = .ok (.putfield 51, 3) := by decide +kernel
theorem x_183_106 : decode (q_code 183) 106 = .ok (.iload 5, 2) := by decide +kernel
theorem x_183_108 : decode (q_code 183) 108 = .ok (.istore 8, 2) := by decide +kernel
theorem x_183_110 : decode (q_code 183) 110 = .ok (.iload 8, 2) := by decide +kernel
theorem x_183_112 : decode (q_code 183) 112 = .ok (.ifCond .lt 32, 3) := by decide +kernel
theorem x_183_115 : decode (q_code 183) 115 = .ok (.aload_n 0, 1) := by decide +kernel
theorem x_183_116 : decode (q_code 183) 116 = .ok (.getfield 28, 3) := by decide +kernel
theorem x_183_119 : decode (q_code 183) 119 = .ok (.aload_n 0, 1) := by decide +kernel
theorem x_183_120 : decode (q_code 183) 120 = .ok (.getfield 38, 3) := by decide +kernel
theorem x_183_123 : decode (q_code 183) 123 = .ok (.iload 8, 2) := by decide +kernel
theorem x_183_125 : decode (q_code 183) 125 = .ok (.iaload, 1) := by decide +kernel
theorem x_183_126 : decode (q_code 183) 126 = .ok (.iaload, 1) := by decide +kernel
theorem x_183_127 : decode (q_code 183) 127 = .ok (.bipush 8, 2) := by decide +kernel
theorem x_183_129 : decode (q_code 183) 129 = .ok (.if_icmp .le 15, 3) := by decide +kernel
theorem x_183_132 : decode (q_code 183) 132 = .ok (.aload_n 0, 1) := by decide +kernel
theorem x_183_133 : decode (q_code 183) 133 = .ok (.iload 8, 2) := by decide +kernel
theorem x_183_135 : decode (q_code 183) 135 = .ok (.invokevirtual 135, 3) := by decide +kernel
theorem x_183_138 : decode (q_code 183) 138 = .ok (.iinc 8 (-1), 3) := by decide +kernel
theorem x_183_141 : decode (q_code 183) 141 = .ok (.goto (-31), 3) := by decide +kernel
theorem x_183_144 : decode (q_code 183) 144 = .ok (.return_, 1) := by decide +kernel
theorem x_184_0 : decode (q_code 184) 0 = .ok (.iload_n 1, 1) := by decide +kernel
theorem x_184_1 : decode (q_code 184) 1 = .ok (.bipush 9, 2) := by decide +kernel
theorem x_184_3 : decode (q_code 184) 3 = .ok (.imul, 1) := by decide +kernel
theorem x_184_4 : decode (q_code 184) 4 = .ok (.iload_n 2, 1) := by decide +kernel
theorem x_184_5 : decode (q_code 184) 5 = .ok (.iadd, 1) := by decide +kernel
theorem x_184_6 : decode (q_code 184) 6 = .ok (.istore 4, 2) := by decide +kernel
theorem x_184_8 : decode (q_code 184) 8 = .ok (.aload_n 0, 1) := by decide +kernel
theorem x_184_9 : decode (q_code 184) 9 = .ok (.getfield 28, 3) := by decide +kernel
theorem x_184_12 : decode (q_code 184) 12 = .ok (.iload_n 1, 1) := by decide +kernel
theorem x_184_13 : decode (q_code 184) 13 = .ok (.iaload, 1) := by decide +kernel
theorem x_184_14 : decode (q_code 184) 14 = .ok (.bipush 9, 2) := by decide +kernel
theorem x_184_16 : decode (q_code 184) 16 = .ok (.if_icmp .ge 46, 3) := by decide +kernel
theorem x_184_19 : decode (q_code 184) 19 = .ok (.aload_n 0, 1) := by decide +kernel
theorem x_184_20 : decode (q_code 184) 20 = .ok (.getfield 22, 3) := by decide +kernel
theorem x_184_23 : decode (q_code 184) 23 = .ok (.iload 4, 2) := by decide +kernel
theorem x_184_25 : decode (q_code 184) 25 = .ok (.aload_n 0, 1) := by decide +kernel
theorem x_184_26 : decode (q_code 184) 26 = .ok (.getfield 22, 3) := by decide +kernel
theorem x_184_29 : decode (q_code 184) 29 = .ok (.iload 4, 2) := by decide +kernel
theorem x_184_31 : decode (q_code 184) 31 = .ok (.iconst 1, 1) := by decide +kernel
theorem x_184_32 : decode (q_code 184) 32 = .ok (.iadd, 1) := by decide +kernel
theorem x_184_33 : decode (q_code 184) 33 = .ok (.aload_n 0, 1) := by decide +kernel
theorem x_184_34 : decode (q_code 184) 34 = .ok (.getfield 28, 3) := by decide +kernel
theorem x_184_37 : decode (q_code 184) 37 = .ok (.iload_n 1, 1) := by decide +kernel
theorem x_184_38 : decode (q_code 184) 38 = .ok (.iaload, 1) := by decide +kernel
theorem x_184_39 : decode (q_code 184) 39 = .ok (.iload_n 2, 1) := by decide +kernel
theorem x_184_40 : decode (q_code 184) 40 = .ok (.isub, 1) := by decide +kernel
theorem x_184_41 : decode (q_code 184) 41 = .ok (.invokestatic 107, 3) := by decide +kernel
theorem x_184_44 : decode (q_code 184) 44 = .ok (.aload_n 0, 1) := by decide +kernel
theorem x_184_45 : decode (q_code 184) 45 = .ok (.getfield 22, 3) := by decide +kernel
theorem x_184_48 : decode (q_code 184) 48 = .ok (.iload 4, 2) := by decide +kernel
theorem x_184_50 : decode (q_code 184) 50 = .ok (.iload_n 3, 1) := by decide +kernel
theorem x_184_51 : decode (q_code 184) 51 = .ok (.iastore, 1) := by decide +kernel
theorem x_184_52 : decode (q_code 184) 52 = .ok (.aload_n 0, 1) := by decide +kernel
theorem x_184_53 : decode (q_code 184) 53 = .ok (.getfield 28, 3) := by decide +kernel
theorem x_184_56 : decode (q_code 184) 56 = .ok (.iload_n 1, 1) := by decide +kernel
theorem x_184_57 : decode (q_code 184) 57 = .ok (.dup2, 1) := by decide +kernel
theorem x_184_58 : decode (q_code 184) 58 = .ok (.iaload, 1) := by decide +kernel
theorem x_184_59 : decode (q_code 184) 59 = .ok (.iconst 1, 1) := by decide +kernel
theorem x_184_60 : decode (q_code 184) 60 = .ok (.iadd, 1) := by decide +kernel
theorem x_184_61 : decode (q_code 184) 61 = .ok (.iastore, 1) := by decide +kernel
theorem x_184_62 : decode (q_code 184) 62 = .ok (.return_, 1) := by decide +kernel
theorem x_185_0 : decode (q_code 185) 0 = .ok (.iload_n 1, 1) := by decide +kernel
theorem x_185_1 : decode (q_code 185) 1 = .ok (.bipush 9, 2) := by decide +kernel
theorem x_185_3 : decode (q_code 185) 3 = .ok (.imul, 1) := by decide +kernel
theorem x_185_4 : decode (q_code 185) 4 = .ok (.iload_n 2, 1) := by decide +kernel
theorem x_185_5 : decode (q_code 185) 5 = .ok (.iadd, 1) := by decide +kernel
theorem x_185_6 : decode (q_code 185) 6 = .ok (.istore_n 3, 1) := by decide +kernel
theorem x_185_7 : decode (q_code 185) 7 = .ok (.iload_n 2, 1) := by decide +kernel
theorem x_185_8 : decode (q_code 185) 8 = .ok (.aload_n 0, 1) := by decide +kernel
theorem x_185_9 : decode (q_code 185) 9 = .ok (.getfield 28, 3) := by decide +kernel
theorem x_185_12 : decode (q_code 185) 12 = .ok (.iload_n 1, 1) := by decide +kernel
theorem x_185_13 : decode (q_code 185) 13 = .ok (.iaload, 1) := by decide +kernel
theorem x_185_14 : decode (q_code 185) 14 = .ok (.if_icmp .ge 38, 3) := by decide +kernel
theorem x_185_17 : decode (q_code 185) 17 = .ok (.aload_n 0, 1) := by decide +kernel
theorem x_185_18 : decode (q_code 185) 18 = .ok (.getfield 22, 3) := by decide +kernel
theorem x_185_21 : decode (q_code 185) 21 = .ok (.iload_n 3, 1) := by decide +kernel
theorem x_185_22 : decode (q_code 185) 22 = .ok (.iconst 1, 1) := by decide +kernel
theorem x_185_23 : decode (q_code 185) 23 = .ok (.iadd, 1) := by decide +kernel
theorem x_185_24 : decode (q_code 185) 24 = .ok (.aload_n 0, 1) := by decide +kernel
theorem x_185_25 : decode (q_code 185) 25 = .ok (.getfield 22, 3) := by decide +kernel
theorem x_185_28 : decode (q_code 185) 28 = .ok (.iload_n 3, 1) := by decide +kernel
theorem x_185_29 : decode (q_code 185) 29 = .ok (.aload_n 0, 1) := by decide +kernel
theorem x_185_30 : decode (q_code 185) 30 = .ok (.getfield 28, 3) := by decide +kernel
theorem x_185_33 : decode (q_code 185) 33 = .ok (.iload_n 1, 1) := by decide +kernel
theorem x_185_34 : decode (q_code 185) 34 = .ok (.iaload, 1) := by decide +kernel
theorem x_185_35 : decode (q_code 185) 35 = .ok (.iload_n 2, 1) := by decide +kernel
theorem x_185_36 : decode (q_code 185) 36 = .ok (.isub, 1) := by decide +kernel
theorem x_185_37 : decode (q_code 185) 37 = .ok (.iconst 1, 1) := by decide +kernel
theorem x_185_38 : decode (q_code 185) 38 = .ok (.isub, 1) := by decide +kernel
theorem x_185_39 : decode (q_code 185) 39 = .ok (.invokestatic 107, 3) := by decide +kernel
theorem x_185_42 : decode (q_code 185) 42 = .ok (.aload_n 0, 1) := by decide +kernel
theorem x_185_43 : decode (q_code 185) 43 = .ok (.getfield 28, 3) := by decide +kernel
theorem x_185_46 : decode (q_code 185) 46 = .ok (.iload_n 1, 1) := by decide +kernel
theorem x_185_47 : decode (q_code 185) 47 = .ok (.dup2, 1) := by decide +kernel
theorem x_185_48 : decode (q_code 185) 48 = .ok (.iaload, 1) := by decide +kernel
theorem x_185_49 : decode (q_code 185) 49 = .ok (.iconst 1, 1) := by decide +kernel
theorem x_185_50 : decode (q_code 185) 50 = .ok (.isub, 1) := by decide +kernel
theorem x_185_51 : decode (q_code 185) 51 = .ok (.iastore, 1) := by decide +kernel
theorem x_185_52 : decode (q_code 185) 52 = .ok (.return_, 1) := by decide +kernel
theorem x_186_0 : decode (q_code 186) 0 = .ok (.aload_n 0, 1) := by decide +kernel
theorem x_186_1 : decode (q_code 186) 1 = .ok (.getfield 38, 3) := by decide +kernel
theorem x_186_4 : decode (q_code 186) 4 = .ok (.iload_n 1, 1) := by decide +kernel
theorem x_186_5 : decode (q_code 186) 5 = .ok (.iaload, 1) := by decide +kernel
theorem x_186_6 : decode (q_code 186) 6 = .ok (.istore_n 2, 1) := by decide +kernel
theorem x_186_7 : decode (q_code 186) 7 = .ok (.aload_n 0, 1) := by decide +kernel
theorem x_186_8 : decode (q_code 186) 8 = .ok (.aload_n 0, 1) := by decide +kernel
theorem x_186_9 : decode (q_code 186) 9 = .ok (.getfield 31, 3) := by decide +kernel
theorem x_186_12 : decode (q_code 186) 12 = .ok (.iload_n 2, 1) := by decide +kernel
theorem x_186_13 : decode (q_code 186) 13 = .ok (.baload, 1) := by decide +kernel
theorem x_186_14 : decode (q_code 186) 14 = .ok (.invokevirtual 66, 3) := by decide +kernel
theorem x_186_17 : decode (q_code 186) 17 = .ok (.istore_n 3, 1) := by decide +kernel
theorem x_186_18 : decode (q_code 186) 18 = .ok (.iload_n 2, 1) := by decide +kernel
theorem x_186_19 : decode (q_code 186) 19 = .ok (.bipush 9, 2) := by decide +kernel
theorem x_186_21 : decode (q_code 186) 21 = .ok (.imul, 1) := by decide +kernel
theorem x_186_22 : decode (q_code 186) 22 = .ok (.istore 4, 2) := by decide +kernel
theorem x_186_24 : decode (q_code 186) 24 = .ok (.aload_n 0, 1) := by decide +kernel
theorem x_186_25 : decode (q_code 186) 25 = .ok (.getfield 28, 3) := by decide +kernel
theorem x_186_28 : decode (q_code 186) 28 = .ok (.iload_n 2, 1) := by decide +kernel
theorem x_186_29 : decode (q_code 186) 29 = .ok (.iaload, 1) := by decide +kernel
theorem x_186_30 : decode (q_code 186) 30 = .ok (.iconst 4, 1) := by decide +kernel
theorem x_186_31 : decode (q_code 186) 31 = .ok (.isub, 1) := by decide +kernel
theorem x_186_32 : decode (q_code 186) 32 = .ok (.istore 5, 2) := by decide +kernel
theorem x_186_34 : decode (q_code 186) 34 = .ok (.aload_n 0, 1) := by decide +kernel
theorem x_186_35 : decode (q_code 186) 35 = .ok (.getfield 22, 3) := by decide +kernel
theorem x_186_38 : decode (q_code 186) 38 = .ok (.iload 4, 2) := by decide +kernel
theorem x_186_40 : decode (q_code 186) 40 = .ok (.iconst 4, 1) := by decide +kernel
theorem x_186_41 : decode (q_code 186) 41 = .ok (.iadd, 1) := by decide +kernel
theorem x_186_42 : decode (q_code 186) 42 = .ok (.aload_n 0, 1) := by decide +kernel
theorem x_186_43 : decode (q_code 186) 43 = .ok (.getfield 22, 3) := by decide +kernel
theorem x_186_46 : decode (q_code 186) 46 = .ok (.iload_n 3, 1) := by decide +kernel
theorem x_186_47 : decode (q_code 186) 47 = .ok (.bipush 9, 2) := by decide +kernel
theorem x_186_49 : decode (q_code 186) 49 = .ok (.imul, 1) := by decide +kernel
theorem x_186_50 : decode (q_code 186) 50 = .ok (.iload 5, 2) := by decide +kernel
theorem x_186_52 : decode (q_code 186) 52 = .ok (.invokestatic 107, 3) := by decide +kernel
theorem x_186_55 : decode (q_code 186) 55 = .ok (.aload_n 0, 1) := by decide +kernel
theorem x_186_56 : decode (q_code 186) 56 = .ok (.getfield 28, 3) := by decide +kernel
theorem x_186_59 : decode (q_code 186) 59 = .ok (.iload_n 3, 1) := by decide +kernel
theorem x_186_60 : decode (q_code 186) 60 = .ok (.iload 5, 2) := by decide +kernel
theorem x_186_62 : decode (q_code 186) 62 = .ok (.iastore, 1) := by decide +kernel
theorem x_186_63 : decode (q_code 186) 63 = .ok (.aload_n 0, 1) := by decide +kernel
theorem x_186_64 : decode (q_code 186) 64 = .ok (.getfield 28, 3) := by decide +kernel
theorem x_186_67 : decode (q_code 186) 67 = .ok (.iload_n 2, 1) := by decide +kernel
theorem x_186_68 : decode (q_code 186) 68 = .ok (.iconst 4, 1) := by decide +kernel
theorem x_186_69 : decode (q_code 186) 69 = .ok (.iastore, 1) := by decide +kernel
theorem x_186_70 : decode (q_code 186) 70 = .ok (.aload_n 0, 1) := by decide +kernel
theorem x_186_71 : decode (q_code 186) 71 = .ok (.getfield 31, 3) := by decide +kernel
theorem x_186_74 : decode (q_code 186) 74 = .ok (.iload_n 2, 1) := by decide +kernel
theorem x_186_75 : decode (q_code 186) 75 = .ok (.baload, 1) := by decide +kernel
theorem x_186_76 : decode (q_code 186) 76 = .ok (.ifCond .eq 21, 3) := by decide +kernel
theorem x_186_79 : decode (q_code 186) 79 = .ok (.aload_n 0, 1) := by decide +kernel
theorem x_186_80 : decode (q_code 186) 80 = .ok (.aload_n 0, 1) := by decide +kernel
theorem x_186_81 : decode (q_code 186) 81 = .ok (.getfield 22, 3) := by decide +kernel
theorem x_186_84 : decode (q_code 186) 84 = .ok (.iload_n 3, 1) := by decide +kernel
theorem x_186_85 : decode (q_code 186) 85 = .ok (.bipush 9, 2) := by decide +kernel
theorem x_186_87 : decode (q_code 186) 87 = .ok (.imul, 1) := by decide +kernel
theorem x_186_88 : decode (q_code 186) 88 = .ok (.iaload, 1) := by decide +kernel
theorem x_186_89 : decode (q_code 186) 89 = .ok (.invokevirtual 139, 3) := by decide +kernel
theorem x_186_92 : decode (q_code 186) 92 = .ok (.istore 6, 2) := by decide +kernel
theorem x_186_94 : decode (q_code 186) 94 = .ok (.goto 39, 3) := by decide +kernel
theorem x_186_97 : decode (q_code 186) 97 = .ok (.aload_n 0, 1) := by decide +kernel
theorem x_186_98 : decode (q_code 186) 98 = .ok (.getfield 25, 3) := by decide +kernel
theorem x_186_101 : decode (q_code 186) 101 = .ok (.iload 4, 2) := by decide +kernel
theorem x_186_103 : decode (q_code 186) 103 = .ok (.iconst 4, 1) := by decide +kernel
theorem x_186_104 : decode (q_code 186) 104 = .ok (.iadd, 1) := by decide +kernel
theorem x_186_105 : decode (q_code 186) 105 = .ok (.iconst 1, 1) := by decide +kernel
theorem x_186_106 : decode (q_code 186) 106 = .ok (.isub, 1) := by decide +kernel
theorem x_186_107 : decode (q_code 186) 107 = .ok (.iaload, 1) := by decide +kernel
theorem x_186_108 : decode (q_code 186) 108 = .ok (.istore 6, 2) := by decide +kernel
theorem x_186_110 : decode (q_code 186) 110 = .ok (.aload_n 0, 1) := by decide +kernel
theorem x_186_111 : decode (q_code 186) 111 = .ok (.getfield 25, 3) := by decide +kernel
theorem x_186_114 : decode (q_code 186) 114 = .ok (.iload 4, 2) := by decide +kernel
theorem x_186_116 : decode (q_code 186) 116 = .ok (.iconst 4, 1) := by decide +kernel
theorem x_186_117 : decode (q_code 186) 117 = .ok (.iadd, 1) := by decide +kernel
theorem x_186_118 : decode (q_code 186) 118 = .ok (.aload_n 0, 1) := by decide +kernel
theorem x_186_119 : decode (q_code 186) 119 = .ok (.getfield 25, 3) := by decide +kernel
theorem x_186_122 : decode (q_code 186) 122 = .ok (.iload_n 3, 1) := by decide +kernel
theorem x_186_123 : decode (q_code 186) 123 = .ok (.bipush 9, 2) := by decide +kernel
theorem x_186_125 : decode (q_code 186) 125 = .ok (.imul, 1) := by decide +kernel
theorem x_186_126 : decode (q_code 186) 126 = .ok (.iload 5, 2) := by decide +kernel
theorem x_186_128 : decode (q_code 186) 128 = .ok (.iconst 1, 1) := by decide +kernel
theorem x_186_129 : decode (q_code 186) 129 = .ok (.isub, 1) := by decide +kernel
theorem x_186_130 : decode (q_code 186) 130 = .ok (.invokestatic 107, 3) := by decide +kernel
theorem x_186_133 : decode (q_code 186) 133 = .ok (.iload_n 1, 1) := by decide +kernel
theorem x_186_134 : decode (q_code 186) 134 = .ok (.ifCond .ne 47, 3) := by decide +kernel
theorem x_186_137 : decode (q_code 186) 137 = .ok (.aload_n 0, 1) := by decide +kernel
theorem x_186_138 : decode (q_code 186) 138 = .ok (.aload_n 0, 1) := by decide +kernel
theorem x_186_139 : decode (q_code 186) 139 = .ok (.iconst 0, 1) := by decide +kernel
theorem x_186_140 : decode (q_code 186) 140 = .ok (.invokevirtual 66, 3) := by decide +kernel
theorem x_186_143 : decode (q_code 186) 143 = .ok (.putfield 70, 3) := by decide +kernel
theorem x_186_146 : decode (q_code 186) 146 = .ok (.aload_n 0, 1) := by decide +kernel
theorem x_186_147 : decode (q_code 186) 147 = .ok (.aload_n 0, 1) := by decide +kernel
theorem x_186_148 : decode (q_code 186) 148 = .ok (.getfield 70, 3) := by decide +kernel
theorem x_186_151 : decode (q_code 186) 151 = .ok (.iconst 0, 1) := by decide +kernel
theorem x_186_152 : decode (q_code 186) 152 = .ok (.iload_n 2, 1) := by decide +kernel
theorem x_186_153 : decode (q_code 186) 153 = .ok (.invokevirtual 131, 3) := by decide +kernel
theorem x_186_156 : decode (q_code 186) 156 = .ok (.aload_n 0, 1) := by decide +kernel
theorem x_186_157 : decode (q_code 186) 157 = .ok (.aload_n 0, 1) := by decide +kernel
theorem x_186_158 : decode (q_code 186) 158 = .ok (.getfield 70, 3) := by decide +kernel
theorem x_186_161 : decode (q_code 186) 161 = .ok (.iconst 1, 1) := by decide +kernel
theorem x_186_162 : decode (q_code 186) 162 = .ok (.iload_n 3, 1) := by decide +kernel
theorem x_186_163 : decode (q_code 186) 163 = .ok (.invokevirtual 131, 3) := by decide +kernel
theorem x_186_166 : decode (q_code 186) 166 = .ok (.aload_n 0, 1) := by decide +kernel
theorem x_186_167 : decode (q_code 186) 167 = .ok (.getfield 25, 3) := by decide +kernel
theorem x_186_170 : decode (q_code 186) 170 = .ok (.aload_n 0, 1) := by decide +kernel
theorem x_186_171 : decode (q_code 186) 171 = .ok (.getfield 70, 3) := by decide +kernel
theorem x_186_174 : decode (q_code 186) 174 = .ok (.bipush 9, 2) := by decide +kernel
theorem x_186_176 : decode (q_code 186) 176 = .ok (.imul, 1) := by decide +kernel
theorem x_186_177 : decode (q_code 186) 177 = .ok (.iload 6, 2) := by decide +kernel
theorem x_186_179 : decode (q_code 186) 179 = .ok (.iastore, 1) := by decide +kernel
theorem x_186_180 : decode (q_code 186) 180 = .ok (.return_, 1) := by decide +kernel
theorem x_186_181 : decode (q_code 186) 181 = .ok (.aload_n 0, 1) := by decide +kernel
theorem x_186_182 : decode (q_code 186) 182 = .ok (.getfield 38, 3) := by decide +kernel
theorem x_186_185 : decode (q_code 186) 185 = .ok (.iload_n 1, 1) := by decide +kernel
theorem x_186_186 : decode (q_code 186) 186 = .ok (.iconst 1, 1) := by decide +kernel
theorem x_186_187 : decode (q_code 186) 187 = .ok (.isub, 1) := by decide +kernel
theorem x_186_188 : decode (q_code 186) 188 = .ok (.iaload, 1) := by decide +kernel
theorem x_186_189 : decode (q_code 186) 189 = .ok (.istore 7, 2) := by decide +kernel
theorem x_186_191 : decode (q_code 186) 191 = .ok (.aload_n 0, 1) := by decide +kernel
theorem x_186_192 : decode (q_code 186) 192 = .ok (.getfield 41, 3) := by decide +kernel
theorem x_186_195 : decode (q_code 186) 195 = .ok (.iload_n 1, 1) := by decide +kernel
theorem x_186_196 : decode (q_code 186) 196 = .ok (.iconst 1, 1) := by decide +kernel
theorem x_186_197 : decode (q_code 186) 197 = .ok (.isub, 1) := by decide +kernel
theorem x_186_198 : decode (q_code 186) 198 = .ok (.iaload, 1) := by decide +kernel
theorem x_186_199 : decode (q_code 186) 199 = .ok (.istore 8, 2) := by decide +kernel
theorem x_186_201 : decode (q_code 186) 201 = .ok (.iload 7, 2) := by decide +kernel
theorem x_186_203 : decode (q_code 186) 203 = .ok (.bipush 9, 2) := by decide +kernel
theorem x_186_205 : decode (q_code 186) 205 = .ok (.imul, 1) := by decide +kernel
theorem x_186_206 : decode (q_code 186) 206 = .ok (.iload 8, 2) := by decide +kernel
theorem x_186_208 : decode (q_code 186) 208 = .ok (.iadd, 1) := by decide +kernel
theorem x_186_209 : decode (q_code 186) 209 = .ok (.istore 9, 2) := by decide +kernel
theorem x_186_211 : decode (q_code 186) 211 = .ok (.aload_n 0, 1) := by decide +kernel
theorem x_186_212 : decode (q_code 186) 212 = .ok (.getfield 25, 3) := by decide +kernel
theorem x_186_215 : decode (q_code 186) 215 = .ok (.iload 9, 2) := by decide +kernel
theorem x_186_217 : decode (q_code 186) 217 = .ok (.aload_n 0, 1) := by decide +kernel
theorem x_186_218 : decode (q_code 186) 218 = .ok (.getfield 25, 3) := by decide +kernel
theorem x_186_221 : decode (q_code 186) 221 = .ok (.iload 9, 2) := by decide +kernel
theorem x_186_223 : decode (q_code 186) 223 = .ok (.iconst 1, 1) := by decide +kernel
theorem x_186_224 : decode (q_code 186) 224 = .ok (.iadd, 1) := by decide +kernel
theorem x_186_225 : decode (q_code 186) 225 = .ok (.aload_n 0, 1) := by decide +kernel
theorem x_186_226 : decode (q_code 186) 226 = .ok (.getfield 28, 3) := by decide +kernel
theorem x_186_229 : decode (q_code 186) 229 = .ok (.iload 7, 2) := by decide +kernel
theorem x_186_231 : decode (q_code 186) 231 = .ok (.iaload, 1) := by decide +kernel
theorem x_186_232 : decode (q_code 186) 232 = .ok (.iconst 1, 1) := by decide +kernel
theorem x_186_233 : decode (q_code 186) 233 = .ok (.isub, 1) := by decide +kernel
theorem x_186_234 : decode (q_code 186) 234 = .ok (.iload 8, 2) := by decide +kernel
theorem x_186_236 : decode (q_code 186) 236 = .ok (.isub, 1) := by decide +kernel
theorem x_186_237 : decode (q_code 186) 237 = .ok (.invokestatic 107, 3) := by decide +kernel
theorem x_186_240 : decode (q_code 186) 240 = .ok (.aload_n 0, 1) := by decide +kernel
theorem x_186_241 : decode (q_code 186) 241 = .ok (.getfield 25, 3) := by decide +kernel
theorem x_186_244 : decode (q_code 186) 244 = .ok (.iload 9, 2) := by decide +kernel
theorem x_186_246 : decode (q_code 186) 246 = .ok (.iload 6, 2) := by decide +kernel
theorem x_186_248 : decode (q_code 186) 248 = .ok (.iastore, 1) := by decide +kernel
theorem x_186_249 : decode (q_code 186) 249 = .ok (.aload_n 0, 1) := by decide +kernel
theorem x_186_250 : decode (q_code 186) 250 = .ok (.iload 7, 2) := by decide +kernel
theorem x_186_252 : decode (q_code 186) 252 = .ok (.iload 8, 2) := by decide +kernel
theorem x_186_254 : decode (q_code 186) 254 = .ok (.iconst 1, 1) := by decide +kernel
theorem x_186_255 : decode (q_code 186) 255 = .ok (.iadd, 1) := by decide +kernel
theorem x_186_256 : decode (q_code 186) 256 = .ok (.iload_n 3, 1) := by decide +kernel
theorem x_186_257 : decode (q_code 186) 257 = .ok (.invokevirtual 131, 3) := by decide +kernel
theorem x_186_260 : decode (q_code 186) 260 = .ok (.return_, 1) := by decide +kernel
theorem x_187_0 : decode (q_code 187) 0 = .ok (.aload_n 0, 1) := by decide +kernel
theorem x_187_1 : decode (q_code 187) 1 = .ok (.aload_n 0, 1) := by decide +kernel
theorem x_187_2 : decode (q_code 187) 2 = .ok (.getfield 77, 3) := by decide +kernel
theorem x_187_5 : decode (q_code 187) 5 = .ok (.aload_n 1, 1) := by decide +kernel
theorem x_187_6 : decode (q_code 187) 6 = .ok (.iload_n 2, 1) := by decide +kernel
theorem x_187_7 : decode (q_code 187) 7 = .ok (.iload_n 3, 1) := by decide +kernel
theorem x_187_8 : decode (q_code 187) 8 = .ok (.iload 4, 2) := by decide +kernel
theorem x_187_10 : decode (q_code 187) 10 = .ok (.invokevirtual 124, 3) := by decide +kernel
theorem x_187_13 : decode (q_code 187) 13 = .ok (.aload_n 0, 1) := by decide +kernel
theorem x_187_14 : decode (q_code 187) 14 = .ok (.invokevirtual 128, 3) := by decide +kernel
theorem x_187_17 : decode (q_code 187) 17 = .ok (.istore 5, 2) := by decide +kernel
theorem x_187_19 : decode (q_code 187) 19 = .ok (.aload_n 0, 1) := by decide +kernel
theorem x_187_20 : decode (q_code 187) 20 = .ok (.getfield 38, 3) := by decide +kernel
theorem x_187_23 : decode (q_code 187) 23 = .ok (.iload 5, 2) := by decide +kernel
theorem x_187_25 : decode (q_code 187) 25 = .ok (.iaload, 1) := by decide +kernel
theorem x_187_26 : decode (q_code 187) 26 = .ok (.istore 6, 2) := by decide +kernel
theorem x_187_28 : decode (q_code 187) 28 = .ok (.iconst 0, 1) := by decide +kernel
theorem x_187_29 : decode (q_code 187) 29 = .ok (.istore 7, 2) := by decide +kernel
theorem x_187_31 : decode (q_code 187) 31 = .ok (.iload 7, 2) := by decide +kernel
theorem x_187_33 : decode (q_code 187) 33 = .ok (.aload_n 0, 1) := by decide +kernel
theorem x_187_34 : decode (q_code 187) 34 = .ok (.getfield 28, 3) := by decide +kernel
theorem x_187_37 : decode (q_code 187) 37 = .ok (.iload 6, 2) := by decide +kernel
theorem x_187_39 : decode (q_code 187) 39 = .ok (.iaload, 1) := by decide +kernel
theorem x_187_40 : decode (q_code 187) 40 = .ok (.if_icmp .ge 64, 3) := by decide +kernel
theorem x_187_43 : decode (q_code 187) 43 = .ok (.aload_n 0, 1) := by decide +kernel
theorem x_187_44 : decode (q_code 187) 44 = .ok (.getfield 22, 3) := by decide +kernel
theorem x_187_47 : decode (q_code 187) 47 = .ok (.iload 6, 2) := by decide +kernel
theorem x_187_49 : decode (q_code 187) 49 = .ok (.bipush 9, 2) := by decide +kernel
theorem x_187_51 : decode (q_code 187) 51 = .ok (.imul, 1) := by decide +kernel
theorem x_187_52 : decode (q_code 187) 52 = .ok (.iload 7, 2) := by decide +kernel
theorem x_187_54 : decode (q_code 187) 54 = .ok (.iadd, 1) := by decide +kernel
theorem x_187_55 : decode (q_code 187) 55 = .ok (.iaload, 1) := by decide +kernel
theorem x_187_56 : decode (q_code 187) 56 = .ok (.istore 8, 2) := by decide +kernel
theorem x_187_58 : decode (q_code 187) 58 = .ok (.aload_n 0, 1) := by decide +kernel
theorem x_187_59 : decode (q_code 187) 59 = .ok (.iload 8, 2) := by decide +kernel
theorem x_187_61 : decode (q_code 187) 61 = .ok (.aload_n 0, 1) := by decide +kernel
theorem x_187_62 : decode (q_code 187) 62 = .ok (.getfield 77, 3) := by decide +kernel
theorem x_187_65 : decode (q_code 187) 65 = .ok (.invokevirtual 121, 3) := by decide +kernel
theorem x_187_68 : decode (q_code 187) 68 = .ok (.ifCond .ne 30, 3) := by decide +kernel
theorem x_187_71 : decode (q_code 187) 71 = .ok (.aload_n 0, 1) := by decide +kernel
theorem x_187_72 : decode (q_code 187) 72 = .ok (.iload 6, 2) := by decide +kernel
theorem x_187_74 : decode (q_code 187) 74 = .ok (.iload 7, 2) := by decide +kernel
theorem x_187_76 : decode (q_code 187) 76 = .ok (.invokevirtual 143, 3) := by decide +kernel
theorem x_187_79 : decode (q_code 187) 79 = .ok (.aload_n 0, 1) := by decide +kernel
theorem x_187_80 : decode (q_code 187) 80 = .ok (.iload 8, 2) := by decide +kernel
theorem x_187_82 : decode (q_code 187) 82 = .ok (.invokevirtual 147, 3) := by decide +kernel
theorem x_187_85 : decode (q_code 187) 85 = .ok (.aload_n 0, 1) := by decide +kernel
theorem x_187_86 : decode (q_code 187) 86 = .ok (.dup, 1) := by decide +kernel
theorem x_187_87 : decode (q_code 187) 87 = .ok (.getfield 51, 3) := by decide +kernel
theorem x_187_90 : decode (q_code 187) 90 = .ok (.iconst 1, 1) := by decide +kernel
theorem x_187_91 : decode (q_code 187) 91 = .ok (.isub, 1) := by decide +kernel
theorem x_187_92 : decode (q_code 187) 92 = .ok (.putfield 51, 3) := by decide +kernel
theorem x_187_95 : decode (q_code 187) 95 = .ok (.goto 9, 3) := by decide +kernel
theorem x_187_98 : decode (q_code 187) 98 = .ok (.iinc 7 1, 3) := by decide +kernel
theorem x_187_101 : decode (q_code 187) 101 = .ok (.goto (-70), 3) := by decide +kernel
theorem x_187_104 : decode (q_code 187) 104 = .ok (.iload 5, 2) := by decide +kernel
theorem x_187_106 : decode (q_code 187) 106 = .ok (.istore 7, 2) := by decide +kernel
theorem x_187_108 : decode (q_code 187) 108 = .ok (.iload 7, 2) := by decide +kernel
theorem x_187_110 : decode (q_code 187) 110 = .ok (.ifCond .le 31, 3) := by decide +kernel
theorem x_187_113 : decode (q_code 187) 113 = .ok (.aload_n 0, 1) := by decide +kernel
theorem x_187_114 : decode (q_code 187) 114 = .ok (.getfield 28, 3) := by decide +kernel
theorem x_187_117 : decode (q_code 187) 117 = .ok (.aload_n 0, 1) := by decide +kernel
theorem x_187_118 : decode (q_code 187) 118 = .ok (.getfield 38, 3) := by decide +kernel
theorem x_187_121 : decode (q_code 187) 121 = .ok (.iload 7, 2) := by decide +kernel
theorem x_187_123 : decode (q_code 187) 123 = .ok (.iaload, 1) := by decide +kernel
theorem x_187_124 : decode (q_code 187) 124 = .ok (.iaload, 1) := by decide +kernel
theorem x_187_125 : decode (q_code 187) 125 = .ok (.iconst 4, 1) := by decide +kernel
theorem x_187_126 : decode (q_code 187) 126 = .ok (.if_icmp .ge 15, 3) := by decide +kernel
theorem x_187_129 : decode (q_code 187) 129 = .ok (.aload_n 0, 1) := by decide +kernel
theorem x_187_130 : decode (q_code 187) 130 = .ok (.iload 7, 2) := by decide +kernel
theorem x_187_132 : decode (q_code 187) 132 = .ok (.invokevirtual 150, 3) := by decide +kernel
theorem x_187_135 : decode (q_code 187) 135 = .ok (.iinc 7 (-1), 3) := by decide +kernel
theorem x_187_138 : decode (q_code 187) 138 = .ok (.goto (-30), 3) := by decide +kernel
theorem x_187_141 : decode (q_code 187) 141 = .ok (.aload_n 0, 1) := by decide +kernel
theorem x_187_142 : decode (q_code 187) 142 = .ok (.getfield 31, 3) := by decide +kernel
theorem x_187_145 : decode (q_code 187) 145 = .ok (.aload_n 0, 1) := by decide +kernel
theorem x_187_146 : decode (q_code 187) 146 = .ok (.getfield 70, 3) := by decide +kernel
theorem x_187_149 : decode (q_code 187) 149 = .ok (.baload, 1) := by decide +kernel
theorem x_187_150 : decode (q_code 187) 150 = .ok (.ifCond .ne 42, 3) := by decide +kernel
theorem x_187_153 : decode (q_code 187) 153 = .ok (.aload_n 0, 1) := by decide +kernel
theorem x_187_154 : decode (q_code 187) 154 = .ok (.getfield 28, 3) := by decide +kernel
theorem x_187_157 : decode (q_code 187) 157 = .ok (.aload_n 0, 1) := by decide +kernel
theorem x_187_158 : decode (q_code 187) 158 = .ok (.getfield 70, 3) := by decide +kernel
theorem x_187_161 : decode (q_code 187) 161 = .ok (.iaload, 1) := by decide +kernel
theorem x_187_162 : decode (q_code 187) 162 = .ok (.iconst 1, 1) := by decide +kernel
theorem x_187_163 : decode (q_code 187) 163 = .ok (.if_icmp .ne 29, 3) := by decide +kernel
theorem x_187_166 : decode (q_code 187) 166 = .ok (.aload_n 0, 1) := by decide +kernel
theorem x_187_167 : decode (q_code 187) 167 = .ok (.getfield 70, 3) := by decide +kernel
theorem x_187_170 : decode (q_code 187) 170 = .ok (.istore 7, 2) := by decide +kernel
theorem x_187_172 : decode (q_code 187) 172 = .ok (.aload_n 0, 1) := by decide +kernel
theorem x_187_173 : decode (q_code 187) 173 = .ok (.aload_n 0, 1) := by decide +kernel
theorem x_187_174 : decode (q_code 187) 174 = .ok (.getfield 22, 3) := by decide +kernel
theorem x_187_177 : decode (q_code 187) 177 = .ok (.iload 7, 2) := by decide +kernel
theorem x_187_179 : decode (q_code 187) 179 = .ok (.bipush 9, 2) := by decide +kernel
theorem x_187_181 : decode (q_code 187) 181 = .ok (.imul, 1) := by decide +kernel
theorem x_187_182 : decode (q_code 187) 182 = .ok (.iaload, 1) := by decide +kernel
theorem x_187_183 : decode (q_code 187) 183 = .ok (.putfield 70, 3) := by decide +kernel
theorem x_187_186 : decode (q_code 187) 186 = .ok (.aload_n 0, 1) := by decide +kernel
theorem x_187_187 : decode (q_code 187) 187 = .ok (.iload 7, 2) := by decide +kernel
theorem x_187_189 : decode (q_code 187) 189 = .ok (.invokevirtual 153, 3) := by decide +kernel
theorem x_187_192 : decode (q_code 187) 192 = .ok (.return_, 1) := by decide +kernel
theorem x_188_0 : decode (q_code 188) 0 = .ok (.aload_n 0, 1) := by decide +kernel
theorem x_188_1 : decode (q_code 188) 1 = .ok (.getfield 38, 3) := by decide +kernel
theorem x_188_4 : decode (q_code 188) 4 = .ok (.iload_n 1, 1) := by decide +kernel
theorem x_188_5 : decode (q_code 188) 5 = .ok (.iconst 1, 1) := by decide +kernel
theorem x_188_6 : decode (q_code 188) 6 = .ok (.isub, 1) := by decide +kernel
theorem x_188_7 : decode (q_code 188) 7 = .ok (.iaload, 1) := by decide +kernel
theorem x_188_8 : decode (q_code 188) 8 = .ok (.istore_n 2, 1) := by decide +kernel
theorem x_188_9 : decode (q_code 188) 9 = .ok (.aload_n 0, 1) := by decide +kernel
theorem x_188_10 : decode (q_code 188) 10 = .ok (.getfield 41, 3) := by decide +kernel
theorem x_188_13 : decode (q_code 188) 13 = .ok (.iload_n 1, 1) := by decide +kernel
theorem x_188_14 : decode (q_code 188) 14 = .ok (.iconst 1, 1) := by decide +kernel
theorem x_188_15 : decode (q_code 188) 15 = .ok (.isub, 1) := by decide +kernel
theorem x_188_16 : decode (q_code 188) 16 = .ok (.iaload, 1) := by decide +kernel
theorem x_188_17 : decode (q_code 188) 17 = .ok (.istore_n 3, 1) := by decide +kernel
theorem x_188_18 : decode (q_code 188) 18 = .ok (.iload_n 2, 1) := by decide +kernel
theorem x_188_19 : decode (q_code 188) 19 = .ok (.bipush 9, 2) := by decide +kernel
theorem x_188_21 : decode (q_code 188) 21 = .ok (.imul, 1) := by decide +kernel
theorem x_188_22 : decode (q_code 188) 22 = .ok (.iload_n 3, 1) := by decide +kernel
theorem x_188_23 : decode (q_code 188) 23 = .ok (.iadd, 1) := by decide +kernel
theorem x_188_24 : decode (q_code 188) 24 = .ok (.istore 4, 2) := by decide +kernel
theorem x_188_26 : decode (q_code 188) 26 = .ok (.iload_n 3, 1) := by decide +kernel
theorem x_188_27 : decode (q_code 188) 27 = .ok (.ifCond .le 7, 3) := by decide +kernel
theorem x_188_30 : decode (q_code 188) 30 = .ok (.iconst 1, 1) := by decide +kernel
theorem x_188_31 : decode (q_code 188) 31 = .ok (.goto 4, 3) := by decide +kernel
theorem x_188_34 : decode (q_code 188) 34 = .ok (.iconst 0, 1) := by decide +kernel
theorem x_188_35 : decode (q_code 188) 35 = .ok (.istore 5, 2) := by decide +kernel
theorem x_188_37 : decode (q_code 188) 37 = .ok (.iload_n 3, 1) := by decide +kernel
theorem x_188_38 : decode (q_code 188) 38 = .ok (.iconst 1, 1) := by decide +kernel
theorem x_188_39 : decode (q_code 188) 39 = .ok (.iadd, 1) := by decide +kernel
theorem x_188_40 : decode (q_code 188) 40 = .ok (.aload_n 0, 1) := by decide +kernel
theorem x_188_41 : decode (q_code 188) 41 = .ok (.getfield 28, 3) := by decide +kernel
theorem x_188_44 : decode (q_code 188) 44 = .ok (.iload_n 2, 1) := by decide +kernel
theorem x_188_45 : decode (q_code 188) 45 = .ok (.iaload, 1) := by decide +kernel
theorem x_188_46 : decode (q_code 188) 46 = .ok (.if_icmp .ge 7, 3) := by decide +kernel
theorem x_188_49 : decode (q_code 188) 49 = .ok (.iconst 1, 1) := by decide +kernel
theorem x_188_50 : decode (q_code 188) 50 = .ok (.goto 4, 3) := by decide +kernel
theorem x_188_53 : decode (q_code 188) 53 = .ok (.iconst 0, 1) := by decide +kernel
theorem x_188_54 : decode (q_code 188) 54 = .ok (.istore 6, 2) := by decide +kernel
theorem x_188_56 : decode (q_code 188) 56 = .ok (.iload 5, 2) := by decide +kernel
theorem x_188_58 : decode (q_code 188) 58 = .ok (.ifCond .eq 48, 3) := by decide +kernel
theorem x_188_61 : decode (q_code 188) 61 = .ok (.aload_n 0, 1) := by decide +kernel
theorem x_188_62 : decode (q_code 188) 62 = .ok (.getfield 28, 3) := by decide +kernel
theorem x_188_65 : decode (q_code 188) 65 = .ok (.aload_n 0, 1) := by decide +kernel
theorem x_188_66 : decode (q_code 188) 66 = .ok (.getfield 22, 3) := by decide +kernel
theorem x_188_69 : decode (q_code 188) 69 = .ok (.iload 4, 2) := by decide +kernel
theorem x_188_71 : decode (q_code 188) 71 = .ok (.iconst 1, 1) := by decide +kernel
theorem x_188_72 : decode (q_code 188) 72 = .ok (.isub, 1) := by decide +kernel
theorem x_188_73 : decode (q_code 188) 73 = .ok (.iaload, 1) := by decide +kernel
theorem x_188_74 : decode (q_code 188) 74 = .ok (.iaload, 1) := by decide +kernel
theorem x_188_75 : decode (q_code 188) 75 = .ok (.iconst 4, 1) := by decide +kernel
theorem x_188_76 : decode (q_code 188) 76 = .ok (.if_icmp .le 30, 3) := by decide +kernel
theorem x_188_79 : decode (q_code 188) 79 = .ok (.aload_n 0, 1) := by decide +kernel
theorem x_188_80 : decode (q_code 188) 80 = .ok (.aload_n 0, 1) := by decide +kernel
theorem x_188_81 : decode (q_code 188) 81 = .ok (.getfield 22, 3) := by decide +kernel
theorem x_188_84 : decode (q_code 188) 84 = .ok (.iload 4, 2) := by decide +kernel
theorem x_188_86 : decode (q_code 188) 86 = .ok (.iconst 1, 1) := by decide +kernel
theorem x_188_87 : decode (q_code 188) 87 = .ok (.isub, 1) := by decide +kernel
theorem x_188_88 : decode (q_code 188) 88 = .ok (.iaload, 1) := by decide +kernel
theorem x_188_89 : decode (q_code 188) 89 = .ok (.aload_n 0, 1) := by decide +kernel
theorem x_188_90 : decode (q_code 188) 90 = .ok (.getfield 22, 3) := by decide +kernel
theorem x_188_93 : decode (q_code 188) 93 = .ok (.iload 4, 2) := by decide +kernel
theorem x_188_95 : decode (q_code 188) 95 = .ok (.iaload, 1) := by decide +kernel
theorem x_188_96 : decode (q_code 188) 96 = .ok (.iload 4, 2) := by decide +kernel
theorem x_188_98 : decode (q_code 188) 98 = .ok (.iconst 1, 1) := by decide +kernel
theorem x_188_99 : decode (q_code 188) 99 = .ok (.isub, 1) := by decide +kernel
theorem x_188_100 : decode (q_code 188) 100 = .ok (.invokevirtual 156, 3) := by decide +kernel
theorem x_188_103 : decode (q_code 188) 103 = .ok (.goto 78, 3) := by decide +kernel
theorem x_188_106 : decode (q_code 188) 106 = .ok (.iload 6, 2) := by decide +kernel
theorem x_188_108 : decode (q_code 188) 108 = .ok (.ifCond .eq 46, 3) := by decide +kernel
theorem x_188_111 : decode (q_code 188) 111 = .ok (.aload_n 0, 1) := by decide +kernel
theorem x_188_112 : decode (q_code 188) 112 = .ok (.getfield 28, 3) := by decide +kernel
theorem x_188_115 : decode (q_code 188) 115 = .ok (.aload_n 0, 1) := by decide +kernel
theorem x_188_116 : decode (q_code 188) 116 = .ok (.getfield 22, 3) := by decide +kernel
theorem x_188_119 : decode (q_code 188) 119 = .ok (.iload 4, 2) := by decide +kernel
theorem x_188_121 : decode (q_code 188) 121 = .ok (.iconst 1, 1) := by decide +kernel
theorem x_188_122 : decode (q_code 188) 122 = .ok (.iadd, 1) := by decide +kernel
theorem x_188_123 : decode (q_code 188) 123 = .ok (.iaload, 1) := by decide +kernel
theorem x_188_124 : decode (q_code 188) 124 = .ok (.iaload, 1) := by decide +kernel
theorem x_188_125 : decode (q_code 188) 125 = .ok (.iconst 4, 1) := by decide +kernel
theorem x_188_126 : decode (q_code 188) 126 = .ok (.if_icmp .le 28, 3) := by decide +kernel
theorem x_188_129 : decode (q_code 188) 129 = .ok (.aload_n 0, 1) := by decide +kernel
theorem x_188_130 : decode (q_code 188) 130 = .ok (.aload_n 0, 1) := by decide +kernel
theorem x_188_131 : decode (q_code 188) 131 = .ok (.getfield 22, 3) := by decide +kernel
theorem x_188_134 : decode (q_code 188) 134 = .ok (.iload 4, 2) := by decide +kernel
theorem x_188_136 : decode (q_code 188) 136 = .ok (.iaload, 1) := by decide +kernel
theorem x_188_137 : decode (q_code 188) 137 = .ok (.aload_n 0, 1) := by decide +kernel
theorem x_188_138 : decode (q_code 188) 138 = .ok (.getfield 22, 3) := by decide +kernel
theorem x_188_141 : decode (q_code 188) 141 = .ok (.iload 4, 2) := by decide +kernel
theorem x_188_143 : decode (q_code 188) 143 = .ok (.iconst 1, 1) := by decide +kernel
theorem x_188_144 : decode (q_code 188) 144 = .ok (.iadd, 1) := by decide +kernel
theorem x_188_145 : decode (q_code 188) 145 = .ok (.iaload, 1) := by decide +kernel
theorem x_188_146 : decode (q_code 188) 146 = .ok (.iload 4, 2) := by decide +kernel
theorem x_188_148 : decode (q_code 188) 148 = .ok (.invokevirtual 159, 3) := by decide +kernel
theorem x_188_151 : decode (q_code 188) 151 = .ok (.goto 30, 3) := by decide +kernel
theorem x_188_154 : decode (q_code 188) 154 = .ok (.iload 5, 2) := by decide +kernel
theorem x_188_156 : decode (q_code 188) 156 = .ok (.ifCond .eq 14, 3) := by decide +kernel
theorem x_188_159 : decode (q_code 188) 159 = .ok (.aload_n 0, 1) := by decide +kernel
theorem x_188_160 : decode (q_code 188) 160 = .ok (.iload_n 2, 1) := by decide +kernel
theorem x_188_161 : decode (q_code 188) 161 = .ok (.iload_n 3, 1) := by decide +kernel
theorem x_188_162 : decode (q_code 188) 162 = .ok (.iconst 1, 1) := by decide +kernel
theorem x_188_163 : decode (q_code 188) 163 = .ok (.isub, 1) := by decide +kernel
theorem x_188_164 : decode (q_code 188) 164 = .ok (.invokevirtual 162, 3) := by decide +kernel
theorem x_188_167 : decode (q_code 188) 167 = .ok (.goto 14, 3) := by decide +kernel
theorem x_188_170 : decode (q_code 188) 170 = .ok (.iload 6, 2) := by decide +kernel
theorem x_188_172 : decode (q_code 188) 172 = .ok (.ifCond .eq 9, 3) := by decide +kernel
theorem x_188_175 : decode (q_code 188) 175 = .ok (.aload_n 0, 1) := by decide +kernel
theorem x_188_176 : decode (q_code 188) 176 = .ok (.iload_n 2, 1) := by decide +kernel
theorem x_188_177 : decode (q_code 188) 177 = .ok (.iload_n 3, 1) := by decide +kernel
theorem x_188_178 : decode (q_code 188) 178 = .ok (.invokevirtual 162, 3) := by decide +kernel
theorem x_188_181 : decode (q_code 188) 181 = .ok (.return_, 1) := by decide +kernel
theorem x_189_0 : decode (q_code 189) 0 = .ok (.aload_n 0, 1) := by decide +kernel
theorem x_189_1 : decode (q_code 189) 1 = .ok (.getfield 28, 3) := by decide +kernel
theorem x_189_4 : decode (q_code 189) 4 = .ok (.iload_n 1, 1) := by decide +kernel
theorem x_189_5 : decode (q_code 189) 5 = .ok (.iaload, 1) := by decide +kernel
theorem x_189_6 : decode (q_code 189) 6 = .ok (.iconst 1, 1) := by decide +kernel
theorem x_189_7 : decode (q_code 189) 7 = .ok (.isub, 1) := by decide +kernel
theorem x_189_8 : decode (q_code 189) 8 = .ok (.istore 4, 2) := by decide +kernel
theorem x_189_10 : decode (q_code 189) 10 = .ok (.aload_n 0, 1) := by decide +kernel
theorem x_189_11 : decode (q_code 189) 11 = .ok (.getfield 22, 3) := by decide +kernel
theorem x_189_14 : decode (q_code 189) 14 = .ok (.iload_n 1, 1) := by decide +kernel
theorem x_189_15 : decode (q_code 189) 15 = .ok (.bipush 9, 2) := by decide +kernel
theorem x_189_17 : decode (q_code 189) 17 = .ok (.imul, 1) := by decide +kernel
theorem x_189_18 : decode (q_code 189) 18 = .ok (.iload 4, 2) := by decide +kernel
theorem x_189_20 : decode (q_code 189) 20 = .ok (.iadd, 1) := by decide +kernel
theorem x_189_21 : decode (q_code 189) 21 = .ok (.iaload, 1) := by decide +kernel
theorem x_189_22 : decode (q_code 189) 22 = .ok (.istore 5, 2) := by decide +kernel
theorem x_189_24 : decode (q_code 189) 24 = .ok (.aload_n 0, 1) := by decide +kernel
theorem x_189_25 : decode (q_code 189) 25 = .ok (.iload_n 1, 1) := by decide +kernel
theorem x_189_26 : decode (q_code 189) 26 = .ok (.iload 4, 2) := by decide +kernel
theorem x_189_28 : decode (q_code 189) 28 = .ok (.invokevirtual 143, 3) := by decide +kernel
theorem x_189_31 : decode (q_code 189) 31 = .ok (.aload_n 0, 1) := by decide +kernel
theorem x_189_32 : decode (q_code 189) 32 = .ok (.iload_n 2, 1) := by decide +kernel
theorem x_189_33 : decode (q_code 189) 33 = .ok (.iconst 0, 1) := by decide +kernel
theorem x_189_34 : decode (q_code 189) 34 = .ok (.iload 5, 2) := by decide +kernel
theorem x_189_36 : decode (q_code 189) 36 = .ok (.invokevirtual 131, 3) := by decide +kernel
theorem x_189_39 : decode (q_code 189) 39 = .ok (.aload_n 0, 1) := by decide +kernel
theorem x_189_40 : decode (q_code 189) 40 = .ok (.getfield 31, 3) := by decide +kernel
theorem x_189_43 : decode (q_code 189) 43 = .ok (.iload_n 2, 1) := by decide +kernel
theorem x_189_44 : decode (q_code 189) 44 = .ok (.baload, 1) := by decide +kernel
theorem x_189_45 : decode (q_code 189) 45 = .ok (.ifCond .eq 26, 3) := by decide +kernel
theorem x_189_48 : decode (q_code 189) 48 = .ok (.aload_n 0, 1) := by decide +kernel
theorem x_189_49 : decode (q_code 189) 49 = .ok (.aload_n 0, 1) := by decide +kernel
theorem x_189_50 : decode (q_code 189) 50 = .ok (.getfield 25, 3) := by decide +kernel
theorem x_189_53 : decode (q_code 189) 53 = .ok (.iload_n 3, 1) := by decide +kernel
theorem x_189_54 : decode (q_code 189) 54 = .ok (.iaload, 1) := by decide +kernel
theorem x_189_55 : decode (q_code 189) 55 = .ok (.invokevirtual 147, 3) := by decide +kernel
theorem x_189_58 : decode (q_code 189) 58 = .ok (.aload_n 0, 1) := by decide +kernel
theorem x_189_59 : decode (q_code 189) 59 = .ok (.getfield 25, 3) := by decide +kernel
theorem x_189_62 : decode (q_code 189) 62 = .ok (.iload_n 3, 1) := by decide +kernel
theorem x_189_63 : decode (q_code 189) 63 = .ok (.aload_n 0, 1) := by decide +kernel
theorem x_189_64 : decode (q_code 189) 64 = .ok (.iload 5, 2) := by decide +kernel
theorem x_189_66 : decode (q_code 189) 66 = .ok (.invokevirtual 139, 3) := by decide +kernel
theorem x_189_69 : decode (q_code 189) 69 = .ok (.iastore, 1) := by decide +kernel
theorem x_189_70 : decode (q_code 189) 70 = .ok (.return_, 1) := by decide +kernel
theorem x_189_71 : decode (q_code 189) 71 = .ok (.aload_n 0, 1) := by decide +kernel
theorem x_189_72 : decode (q_code 189) 72 = .ok (.getfield 25, 3) := by decide +kernel
theorem x_189_75 : decode (q_code 189) 75 = .ok (.iload_n 2, 1) := by decide +kernel
theorem x_189_76 : decode (q_code 189) 76 = .ok (.bipush 9, 2) := by decide +kernel
theorem x_189_78 : decode (q_code 189) 78 = .ok (.imul, 1) := by decide +kernel
theorem x_189_79 : decode (q_code 189) 79 = .ok (.aload_n 0, 1) := by decide +kernel
theorem x_189_80 : decode (q_code 189) 80 = .ok (.getfield 25, 3) := by decide +kernel
theorem x_189_83 : decode (q_code 189) 83 = .ok (.iload_n 2, 1) := by decide +kernel
theorem x_189_84 : decode (q_code 189) 84 = .ok (.bipush 9, 2) := by decide +kernel
theorem x_189_86 : decode (q_code 189) 86 = .ok (.imul, 1) := by decide +kernel
theorem x_189_87 : decode (q_code 189) 87 = .ok (.iconst 1, 1) := by decide +kernel
theorem x_189_88 : decode (q_code 189) 88 = .ok (.iadd, 1) := by decide +kernel
theorem x_189_89 : decode (q_code 189) 89 = .ok (.aload_n 0, 1) := by decide +kernel
theorem x_189_90 : decode (q_code 189) 90 = .ok (.getfield 28, 3) := by decide +kernel
theorem x_189_93 : decode (q_code 189) 93 = .ok (.iload_n 2, 1) := by decide +kernel
theorem x_189_94 : decode (q_code 189) 94 = .ok (.iaload, 1) := by decide +kernel
theorem x_189_95 : decode (q_code 189) 95 = .ok (.iconst 2, 1) := by decide +kernel
theorem x_189_96 : decode (q_code 189) 96 = .ok (.isub, 1) := by decide +kernel
theorem x_189_97 : decode (q_code 189) 97 = .ok (.invokestatic 107, 3) := by decide +kernel
theorem x_189_100 : decode (q_code 189) 100 = .ok (.aload_n 0, 1) := by decide +kernel
theorem x_189_101 : decode (q_code 189) 101 = .ok (.getfield 25, 3) := by decide +kernel
theorem x_189_104 : decode (q_code 189) 104 = .ok (.iload_n 2, 1) := by decide +kernel
theorem x_189_105 : decode (q_code 189) 105 = .ok (.bipush 9, 2) := by decide +kernel
theorem x_189_107 : decode (q_code 189) 107 = .ok (.imul, 1) := by decide +kernel
theorem x_189_108 : decode (q_code 189) 108 = .ok (.aload_n 0, 1) := by decide +kernel
theorem x_189_109 : decode (q_code 189) 109 = .ok (.getfield 25, 3) := by decide +kernel
theorem x_189_112 : decode (q_code 189) 112 = .ok (.iload_n 3, 1) := by decide +kernel
theorem x_189_113 : decode (q_code 189) 113 = .ok (.iaload, 1) := by decide +kernel
theorem x_189_114 : decode (q_code 189) 114 = .ok (.iastore, 1) := by decide +kernel
theorem x_189_115 : decode (q_code 189) 115 = .ok (.aload_n 0, 1) := by decide +kernel
theorem x_189_116 : decode (q_code 189) 116 = .ok (.getfield 25, 3) := by decide +kernel
theorem x_189_119 : decode (q_code 189) 119 = .ok (.iload_n 3, 1) := by decide +kernel
theorem x_189_120 : decode (q_code 189) 120 = .ok (.aload_n 0, 1) := by decide +kernel
theorem x_189_121 : decode (q_code 189) 121 = .ok (.getfield 25, 3) := by decide +kernel
theorem x_189_124 : decode (q_code 189) 124 = .ok (.iload_n 1, 1) := by decide +kernel
theorem x_189_125 : decode (q_code 189) 125 = .ok (.bipush 9, 2) := by decide +kernel
theorem x_189_127 : decode (q_code 189) 127 = .ok (.imul, 1) := by decide +kernel
theorem x_189_128 : decode (q_code 189) 128 = .ok (.iload 4, 2) := by decide +kernel
theorem x_189_130 : decode (q_code 189) 130 = .ok (.iadd, 1) := by decide +kernel
theorem x_189_131 : decode (q_code 189) 131 = .ok (.iconst 1, 1) := by decide +kernel
theorem x_189_132 : decode (q_code 189) 132 = .ok (.isub, 1) := by decide +kernel
theorem x_189_133 : decode (q_code 189) 133 = .ok (.iaload, 1) := by decide +kernel
theorem x_189_134 : decode (q_code 189) 134 = .ok (.iastore, 1) := by decide +kernel
theorem x_189_135 : decode (q_code 189) 135 = .ok (.return_, 1) := by decide +kernel
theorem x_190_0 : decode (q_code 190) 0 = .ok (.aload_n 0, 1) := by decide +kernel
theorem x_190_1 : decode (q_code 190) 1 = .ok (.getfield 22, 3) := by decide +kernel
theorem x_190_4 : decode (q_code 190) 4 = .ok (.iload_n 2, 1) := by decide +kernel
theorem x_190_5 : decode (q_code 190) 5 = .ok (.bipush 9, 2) := by decide +kernel
theorem x_190_7 : decode (q_code 190) 7 = .ok (.imul, 1) := by decide +kernel
theorem x_190_8 : decode (q_code 190) 8 = .ok (.iaload, 1) := by decide +kernel
theorem x_190_9 : decode (q_code 190) 9 = .ok (.istore 4, 2) := by decide +kernel
theorem x_190_11 : decode (q_code 190) 11 = .ok (.aload_n 0, 1) := by decide +kernel
theorem x_190_12 : decode (q_code 190) 12 = .ok (.iload_n 2, 1) := by decide +kernel
theorem x_190_13 : decode (q_code 190) 13 = .ok (.iconst 0, 1) := by decide +kernel
theorem x_190_14 : decode (q_code 190) 14 = .ok (.invokevirtual 143, 3) := by decide +kernel
theorem x_190_17 : decode (q_code 190) 17 = .ok (.aload_n 0, 1) := by decide +kernel
theorem x_190_18 : decode (q_code 190) 18 = .ok (.iload_n 1, 1) := by decide +kernel
theorem x_190_19 : decode (q_code 190) 19 = .ok (.aload_n 0, 1) := by decide +kernel
theorem x_190_20 : decode (q_code 190) 20 = .ok (.getfield 28, 3) := by decide +kernel
theorem x_190_23 : decode (q_code 190) 23 = .ok (.iload_n 1, 1) := by decide +kernel
theorem x_190_24 : decode (q_code 190) 24 = .ok (.iaload, 1) := by decide +kernel
theorem x_190_25 : decode (q_code 190) 25 = .ok (.iload 4, 2) := by decide +kernel
theorem x_190_27 : decode (q_code 190) 27 = .ok (.invokevirtual 131, 3) := by decide +kernel
theorem x_190_30 : decode (q_code 190) 30 = .ok (.aload_n 0, 1) := by decide +kernel
theorem x_190_31 : decode (q_code 190) 31 = .ok (.getfield 31, 3) := by decide +kernel
theorem x_190_34 : decode (q_code 190) 34 = .ok (.iload_n 1, 1) := by decide +kernel
theorem x_190_35 : decode (q_code 190) 35 = .ok (.baload, 1) := by decide +kernel
theorem x_190_36 : decode (q_code 190) 36 = .ok (.ifCond .eq 33, 3) := by decide +kernel
theorem x_190_39 : decode (q_code 190) 39 = .ok (.aload_n 0, 1) := by decide +kernel
theorem x_190_40 : decode (q_code 190) 40 = .ok (.aload_n 0, 1) := by decide +kernel
theorem x_190_41 : decode (q_code 190) 41 = .ok (.getfield 25, 3) := by decide +kernel
theorem x_190_44 : decode (q_code 190) 44 = .ok (.iload_n 3, 1) := by decide +kernel
theorem x_190_45 : decode (q_code 190) 45 = .ok (.iaload, 1) := by decide +kernel
theorem x_190_46 : decode (q_code 190) 46 = .ok (.invokevirtual 147, 3) := by decide +kernel
theorem x_190_49 : decode (q_code 190) 49 = .ok (.aload_n 0, 1) := by decide +kernel
theorem x_190_50 : decode (q_code 190) 50 = .ok (.getfield 25, 3) := by decide +kernel
theorem x_190_53 : decode (q_code 190) 53 = .ok (.iload_n 3, 1) := by decide +kernel
theorem x_190_54 : decode (q_code 190) 54 = .ok (.aload_n 0, 1) := by decide +kernel
theorem x_190_55 : decode (q_code 190) 55 = .ok (.aload_n 0, 1) := by decide +kernel
theorem x_190_56 : decode (q_code 190) 56 = .ok (.getfield 22, 3) := by decide +kernel
theorem x_190_59 : decode (q_code 190) 59 = .ok (.iload_n 2, 1) := by decide +kernel
theorem x_190_60 : decode (q_code 190) 60 = .ok (.bipush 9, 2) := by decide +kernel
theorem x_190_62 : decode (q_code 190) 62 = .ok (.imul, 1) := by decide +kernel
theorem x_190_63 : decode (q_code 190) 63 = .ok (.iaload, 1) := by decide +kernel
theorem x_190_64 : decode (q_code 190) 64 = .ok (.invokevirtual 139, 3) := by decide +kernel
theorem x_190_67 : decode (q_code 190) 67 = .ok (.iastore, 1) := by decide +kernel
theorem x_190_68 : decode (q_code 190) 68 = .ok (.return_, 1) := by decide +kernel
theorem x_190_69 : decode (q_code 190) 69 = .ok (.aload_n 0, 1) := by decide +kernel
theorem x_190_70 : decode (q_code 190) 70 = .ok (.getfield 25, 3) := by decide +kernel
theorem x_190_73 : decode (q_code 190) 73 = .ok (.iload_n 1, 1) := by decide +kernel
theorem x_190_74 : decode (q_code 190) 74 = .ok (.bipush 9, 2) := by decide +kernel
theorem x_190_76 : decode (q_code 190) 76 = .ok (.imul, 1) := by decide +kernel
theorem x_190_77 : decode (q_code 190) 77 = .ok (.aload_n 0, 1) := by decide +kernel
theorem x_190_78 : decode (q_code 190) 78 = .ok (.getfield 28, 3) := by decide +kernel
theorem x_190_81 : decode (q_code 190) 81 = .ok (.iload_n 1, 1) := by decide +kernel
theorem x_190_82 : decode (q_code 190) 82 = .ok (.iaload, 1) := by decide +kernel
theorem x_190_83 : decode (q_code 190) 83 = .ok (.iadd, 1) := by decide +kernel
theorem x_190_84 : decode (q_code 190) 84 = .ok (.iconst 2, 1) := by decide +kernel
theorem x_190_85 : decode (q_code 190) 85 = .ok (.isub, 1) := by decide +kernel
theorem x_190_86 : decode (q_code 190) 86 = .ok (.aload_n 0, 1) := by decide +kernel
theorem x_190_87 : decode (q_code 190) 87 = .ok (.getfield 25, 3) := by decide +kernel
theorem x_190_90 : decode (q_code 190) 90 = .ok (.iload_n 3, 1) := by decide +kernel
theorem x_190_91 : decode (q_code 190) 91 = .ok (.iaload, 1) := by decide +kernel
theorem x_190_92 : decode (q_code 190) 92 = .ok (.iastore, 1) := by decide +kernel
theorem x_190_93 : decode (q_code 190) 93 = .ok (.aload_n 0, 1) := by decide +kernel
theorem x_190_94 : decode (q_code 190) 94 = .ok (.getfield 25, 3) := by decide +kernel
theorem x_190_97 : decode (q_code 190) 97 = .ok (.iload_n 3, 1) := by decide +kernel
theorem x_190_98 : decode (q_code 190) 98 = .ok (.aload_n 0, 1) := by decide +kernel
theorem x_190_99 : decode (q_code 190) 99 = .ok (.getfield 25, 3) := by decide +kernel
theorem x_190_102 : decode (q_code 190) 102 = .ok (.iload_n 2, 1) := by decide +kernel
theorem x_190_103 : decode (q_code 190) 103 = .ok (.bipush 9, 2) := by decide +kernel
theorem x_190_105 : decode (q_code 190) 105 = .ok (.imul, 1) := by decide +kernel
theorem x_190_106 : decode (q_code 190) 106 = .ok (.iaload, 1) := by decide +kernel
theorem x_190_107 : decode (q_code 190) 107 = .ok (.iastore, 1) := by decide +kernel
theorem x_190_108 : decode (q_code 190) 108 = .ok (.aload_n 0, 1) := by decide +kernel
theorem x_190_109 : decode (q_code 190) 109 = .ok (.getfield 25, 3) := by decide +kernel
theorem x_190_112 : decode (q_code 190) 112 = .ok (.iload_n 2, 1) := by decide +kernel
theorem x_190_113 : decode (q_code 190) 113 = .ok (.bipush 9, 2) := by decide +kernel
theorem x_190_115 : decode (q_code 190) 115 = .ok (.imul, 1) := by decide +kernel
theorem x_190_116 : decode (q_code 190) 116 = .ok (.iconst 1, 1) := by decide +kernel
theorem x_190_117 : decode (q_code 190) 117 = .ok (.iadd, 1) := by decide +kernel
theorem x_190_118 : decode (q_code 190) 118 = .ok (.aload_n 0, 1) := by decide +kernel
theorem x_190_119 : decode (q_code 190) 119 = .ok (.getfield 25, 3) := by decide +kernel
theorem x_190_122 : decode (q_code 190) 122 = .ok (.iload_n 2, 1) := by decide +kernel
theorem x_190_123 : decode (q_code 190) 123 = .ok (.bipush 9, 2) := by decide +kernel
theorem x_190_125 : decode (q_code 190) 125 = .ok (.imul, 1) := by decide +kernel
theorem x_190_126 : decode (q_code 190) 126 = .ok (.aload_n 0, 1) := by decide +kernel
theorem x_190_127 : decode (q_code 190) 127 = .ok (.getfield 28, 3) := by decide +kernel
theorem x_190_130 : decode (q_code 190) 130 = .ok (.iload_n 2, 1) := by decide +kernel
theorem x_190_131 : decode (q_code 190) 131 = .ok (.iaload, 1) := by decide +kernel
theorem x_190_132 : decode (q_code 190) 132 = .ok (.iconst 1, 1) := by decide +kernel
theorem x_190_133 : decode (q_code 190) 133 = .ok (.isub, 1) := by decide +kernel
theorem x_190_134 : decode (q_code 190) 134 = .ok (.invokestatic 107, 3) := by decide +kernel
theorem x_190_137 : decode (q_code 190) 137 = .ok (.return_, 1) := by decide +kernel
theorem x_191_0 : decode (q_code 191) 0 = .ok (.iload_n 1, 1) := by decide +kernel
theorem x_191_1 : decode (q_code 191) 1 = .ok (.bipush 9, 2) := by decide +kernel
theorem x_191_3 : decode (q_code 191) 3 = .ok (.imul, 1) := by decide +kernel
theorem x_191_4 : decode (q_code 191) 4 = .ok (.iload_n 2, 1) := by decide +kernel
theorem x_191_5 : decode (q_code 191) 5 = .ok (.iadd, 1) := by decide +kernel
theorem x_191_6 : decode (q_code 191) 6 = .ok (.istore_n 3, 1) := by decide +kernel
theorem x_191_7 : decode (q_code 191) 7 = .ok (.aload_n 0, 1) := by decide +kernel
theorem x_191_8 : decode (q_code 191) 8 = .ok (.getfield 22, 3) := by decide +kernel
theorem x_191_11 : decode (q_code 191) 11 = .ok (.iload_n 3, 1) := by decide +kernel
theorem x_191_12 : decode (q_code 191) 12 = .ok (.iaload, 1) := by decide +kernel
theorem x_191_13 : decode (q_code 191) 13 = .ok (.istore 4, 2) := by decide +kernel
theorem x_191_15 : decode (q_code 191) 15 = .ok (.aload_n 0, 1) := by decide +kernel
theorem x_191_16 : decode (q_code 191) 16 = .ok (.getfield 22, 3) := by decide +kernel
theorem x_191_19 : decode (q_code 191) 19 = .ok (.iload_n 3, 1) := by decide +kernel
theorem x_191_20 : decode (q_code 191) 20 = .ok (.iconst 1, 1) := by decide +kernel
theorem x_191_21 : decode (q_code 191) 21 = .ok (.iadd, 1) := by decide +kernel
theorem x_191_22 : decode (q_code 191) 22 = .ok (.iaload, 1) := by decide +kernel
theorem x_191_23 : decode (q_code 191) 23 = .ok (.istore 5, 2) := by decide +kernel
theorem x_191_25 : decode (q_code 191) 25 = .ok (.aload_n 0, 1) := by decide +kernel
theorem x_191_26 : decode (q_code 191) 26 = .ok (.getfield 28, 3) := by decide +kernel
theorem x_191_29 : decode (q_code 191) 29 = .ok (.iload 4, 2) := by decide +kernel
theorem x_191_31 : decode (q_code 191) 31 = .ok (.iaload, 1) := by decide +kernel
theorem x_191_32 : decode (q_code 191) 32 = .ok (.istore 6, 2) := by decide +kernel
theorem x_191_34 : decode (q_code 191) 34 = .ok (.aload_n 0, 1) := by decide +kernel
theorem x_191_35 : decode (q_code 191) 35 = .ok (.getfield 22, 3) := by decide +kernel
theorem x_191_38 : decode (q_code 191) 38 = .ok (.iload 5, 2) := by decide +kernel
theorem x_191_40 : decode (q_code 191) 40 = .ok (.bipush 9, 2) := by decide +kernel
theorem x_191_42 : decode (q_code 191) 42 = .ok (.imul, 1) := by decide +kernel
theorem x_191_43 : decode (q_code 191) 43 = .ok (.aload_n 0, 1) := by decide +kernel
theorem x_191_44 : decode (q_code 191) 44 = .ok (.getfield 22, 3) := by decide +kernel
theorem x_191_47 : decode (q_code 191) 47 = .ok (.iload 4, 2) := by decide +kernel
theorem x_191_49 : decode (q_code 191) 49 = .ok (.bipush 9, 2) := by decide +kernel
theorem x_191_51 : decode (q_code 191) 51 = .ok (.imul, 1) := by decide +kernel
theorem x_191_52 : decode (q_code 191) 52 = .ok (.iload 6, 2) := by decide +kernel
theorem x_191_54 : decode (q_code 191) 54 = .ok (.iadd, 1) := by decide +kernel
theorem x_191_55 : decode (q_code 191) 55 = .ok (.aload_n 0, 1) := by decide +kernel
theorem x_191_56 : decode (q_code 191) 56 = .ok (.getfield 28, 3) := by decide +kernel
theorem x_191_59 : decode (q_code 191) 59 = .ok (.iload 5, 2) := by decide +kernel
theorem x_191_61 : decode (q_code 191) 61 = .ok (.iaload, 1) := by decide +kernel
theorem x_191_62 : decode (q_code 191) 62 = .ok (.invokestatic 107, 3) := by decide +kernel
theorem x_191_65 : decode (q_code 191) 65 = .ok (.aload_n 0, 1) := by decide +kernel
theorem x_191_66 : decode (q_code 191) 66 = .ok (.getfield 31, 3) := by decide +kernel
theorem x_191_69 : decode (q_code 191) 69 = .ok (.iload 4, 2) := by decide +kernel
theorem x_191_71 : decode (q_code 191) 71 = .ok (.baload, 1) := by decide +kernel
theorem x_191_72 : decode (q_code 191) 72 = .ok (.ifCond .eq 16, 3) := by decide +kernel
theorem x_191_75 : decode (q_code 191) 75 = .ok (.aload_n 0, 1) := by decide +kernel
theorem x_191_76 : decode (q_code 191) 76 = .ok (.aload_n 0, 1) := by decide +kernel
theorem x_191_77 : decode (q_code 191) 77 = .ok (.getfield 25, 3) := by decide +kernel
theorem x_191_80 : decode (q_code 191) 80 = .ok (.iload_n 3, 1) := by decide +kernel
theorem x_191_81 : decode (q_code 191) 81 = .ok (.iaload, 1) := by decide +kernel
theorem x_191_82 : decode (q_code 191) 82 = .ok (.invokevirtual 147, 3) := by decide +kernel
theorem x_191_85 : decode (q_code 191) 85 = .ok (.goto 57, 3) := by decide +kernel
theorem x_191_88 : decode (q_code 191) 88 = .ok (.aload_n 0, 1) := by decide +kernel
theorem x_191_89 : decode (q_code 191) 89 = .ok (.getfield 25, 3) := by decide +kernel
theorem x_191_92 : decode (q_code 191) 92 = .ok (.iload 4, 2) := by decide +kernel
theorem x_191_94 : decode (q_code 191) 94 = .ok (.bipush 9, 2) := by decide +kernel
theorem x_191_96 : decode (q_code 191) 96 = .ok (.imul, 1) := by decide +kernel
theorem x_191_97 : decode (q_code 191) 97 = .ok (.iload 6, 2) := by decide +kernel
theorem x_191_99 : decode (q_code 191) 99 = .ok (.iadd, 1) := by decide +kernel
theorem x_191_100 : decode (q_code 191) 100 = .ok (.iconst 1, 1) := by decide +kernel
theorem x_191_101 : decode (q_code 191) 101 = .ok (.isub, 1) := by decide +kernel
theorem x_191_102 : decode (q_code 191) 102 = .ok (.aload_n 0, 1) := by decide +kernel
theorem x_191_103 : decode (q_code 191) 103 = .ok (.getfield 25, 3) := by decide +kernel
theorem x_191_106 : decode (q_code 191) 106 = .ok (.iload_n 3, 1) := by decide +kernel
theorem x_191_107 : decode (q_code 191) 107 = .ok (.iaload, 1) := by decide +kernel
theorem x_191_108 : decode (q_code 191) 108 = .ok (.iastore, 1) := by decide +kernel
theorem x_191_109 : decode (q_code 191) 109 = .ok (.aload_n 0, 1) := by decide +kernel
theorem x_191_110 : decode (q_code 191) 110 = .ok (.getfield 25, 3) := by decide +kernel
theorem x_191_113 : decode (q_code 191) 113 = .ok (.iload 5, 2) := by decide +kernel
theorem x_191_115 : decode (q_code 191) 115 = .ok (.bipush 9, 2) := by decide +kernel
theorem x_191_117 : decode (q_code 191) 117 = .ok (.imul, 1) := by decide +kernel
theorem x_191_118 : decode (q_code 191) 118 = .ok (.aload_n 0, 1) := by decide +kernel
theorem x_191_119 : decode (q_code 191) 119 = .ok (.getfield 25, 3) := by decide +kernel
theorem x_191_122 : decode (q_code 191) 122 = .ok (.iload 4, 2) := by decide +kernel
theorem x_191_124 : decode (q_code 191) 124 = .ok (.bipush 9, 2) := by decide +kernel
theorem x_191_126 : decode (q_code 191) 126 = .ok (.imul, 1) := by decide +kernel
theorem x_191_127 : decode (q_code 191) 127 = .ok (.iload 6, 2) := by decide +kernel
theorem x_191_129 : decode (q_code 191) 129 = .ok (.iadd, 1) := by decide +kernel
theorem x_191_130 : decode (q_code 191) 130 = .ok (.aload_n 0, 1) := by decide +kernel
theorem x_191_131 : decode (q_code 191) 131 = .ok (.getfield 28, 3) := by decide +kernel
theorem x_191_134 : decode (q_code 191) 134 = .ok (.iload 5, 2) := by decide +kernel
theorem x_191_136 : decode (q_code 191) 136 = .ok (.iaload, 1) := by decide +kernel
theorem x_191_137 : decode (q_code 191) 137 = .ok (.iconst 1, 1) := by decide +kernel
theorem x_191_138 : decode (q_code 191) 138 = .ok (.isub, 1) := by decide +kernel
theorem x_191_139 : decode (q_code 191) 139 = .ok (.invokestatic 107, 3) := by decide +kernel
theorem x_191_142 : decode (q_code 191) 142 = .ok (.aload_n 0, 1) := by decide +kernel
theorem x_191_143 : decode (q_code 191) 143 = .ok (.getfield 28, 3) := by decide +kernel
theorem x_191_146 : decode (q_code 191) 146 = .ok (.iload 4, 2) := by decide +kernel
theorem x_191_148 : decode (q_code 191) 148 = .ok (.iload 6, 2) := by decide +kernel
theorem x_191_150 : decode (q_code 191) 150 = .ok (.aload_n 0, 1) := by decide +kernel
theorem x_191_151 : decode (q_code 191) 151 = .ok (.getfield 28, 3) := by decide +kernel
theorem x_191_154 : decode (q_code 191) 154 = .ok (.iload 5, 2) := by decide +kernel
theorem x_191_156 : decode (q_code 191) 156 = .ok (.iaload, 1) := by decide +kernel
theorem x_191_157 : decode (q_code 191) 157 = .ok (.iadd, 1) := by decide +kernel
theorem x_191_158 : decode (q_code 191) 158 = .ok (.iastore, 1) := by decide +kernel
theorem x_191_159 : decode (q_code 191) 159 = .ok (.aload_n 0, 1) := by decide +kernel
theorem x_191_160 : decode (q_code 191) 160 = .ok (.getfield 25, 3) := by decide +kernel
theorem x_191_163 : decode (q_code 191) 163 = .ok (.iload_n 3, 1) := by decide +kernel
theorem x_191_164 : decode (q_code 191) 164 = .ok (.iconst 1, 1) := by decide +kernel
theorem x_191_165 : decode (q_code 191) 165 = .ok (.iadd, 1) := by decide +kernel
theorem x_191_166 : decode (q_code 191) 166 = .ok (.aload_n 0, 1) := by decide +kernel
theorem x_191_167 : decode (q_code 191) 167 = .ok (.getfield 25, 3) := by decide +kernel
theorem x_191_170 : decode (q_code 191) 170 = .ok (.iload_n 3, 1) := by decide +kernel
theorem x_191_171 : decode (q_code 191) 171 = .ok (.aload_n 0, 1) := by decide +kernel
theorem x_191_172 : decode (q_code 191) 172 = .ok (.getfield 28, 3) := by decide +kernel
theorem x_191_175 : decode (q_code 191) 175 = .ok (.iload_n 1, 1) := by decide +kernel
theorem x_191_176 : decode (q_code 191) 176 = .ok (.iaload, 1) := by decide +kernel
theorem x_191_177 : decode (q_code 191) 177 = .ok (.iconst 2, 1) := by decide +kernel
theorem x_191_178 : decode (q_code 191) 178 = .ok (.isub, 1) := by decide +kernel
theorem x_191_179 : decode (q_code 191) 179 = .ok (.iload_n 2, 1) := by decide +kernel
theorem x_191_180 : decode (q_code 191) 180 = .ok (.isub, 1) := by decide +kernel
theorem x_191_181 : decode (q_code 191) 181 = .ok (.invokestatic 107, 3) := by decide +kernel
theorem x_191_184 : decode (q_code 191) 184 = .ok (.aload_n 0, 1) := by decide +kernel
theorem x_191_185 : decode (q_code 191) 185 = .ok (.iload_n 1, 1) := by decide +kernel
theorem x_191_186 : decode (q_code 191) 186 = .ok (.iload_n 2, 1) := by decide +kernel
theorem x_191_187 : decode (q_code 191) 187 = .ok (.iconst 1, 1) := by decide +kernel
theorem x_191_188 : decode (q_code 191) 188 = .ok (.iadd, 1) := by decide +kernel
theorem x_191_189 : decode (q_code 191) 189 = .ok (.invokevirtual 143, 3) := by decide +kernel
theorem x_191_192 : decode (q_code 191) 192 = .ok (.aload_n 0, 1) := by decide +kernel
theorem x_191_193 : decode (q_code 191) 193 = .ok (.iload 5, 2) := by decide +kernel
theorem x_191_195 : decode (q_code 191) 195 = .ok (.invokevirtual 153, 3) := by decide +kernel
theorem x_191_198 : decode (q_code 191) 198 = .ok (.return_, 1) := by decide +kernel
theorem m_X10_clear {d : Nat} {M : g_M} {Q : g_M → Prop} {a0 : Nat} {v1 : Int} (hv1 : g_InR v1) {v2 : Int} (hv2 : g_InR v2) (h : g_ok M → g_O M a0 10 ∧ (∀ M2, M2 = g_wi M a0 12 v1 → g_ok M2 → (∀ M6, M6 = g_wi M2 a0 13 v2 → g_ok M6 → (∀ M10, M10 = g_wi M6 a0 15 0 → g_ok M10 → (∀ M14, M14 = g_wi M10 a0 16 0 → g_ok M14 → (∀ M18, M18 = g_wi M14 a0 17 0 → g_ok M18 → (∀ M22, M22 = g_wi M18 a0 3 0 → g_ok M22 → ∃ b26, g_r M22 a0 1 = some b26 ∧ ∃ n28, g_A M22 b26 1 n28 ∧ g_InR n28 ∧ g_InR (n28 - 1) ∧ g_Run d 173 38 [(0, .ref a0), (1, g_n v1), (2, g_n v2), (3, g_n (n28 - 1))] [] M22 (g_qV Q)))))))) : g_Call (d + 1) 173 [.ref a0, g_n v1, g_n v2] M (g_qV Q) := by
  refine g_Call.ok fun hok0 => ?_
  replace h := h hok0
  refine r_body rfl (lv := [(0, .ref a0), (1, g_n v1), (2, g_n v2)]) rfl ?_
  refine g_Run.ok fun hok => ?_
  refine r_aload_n x_173_0 rfl ?_
  refine r_iload_n x_173_1 rfl ?_
  obtain ⟨hO1, h⟩ := h
  refine r_putI x_173_2 (ci := 10) (k := 12) (ns := 0) (by decide +kernel) (by decide) (g_f0 (by decide +kernel)) rfl hv1 trivial (kz := 12) rfl hO1 ?_
  obtain ⟨M2, hM3⟩ : ∃ Mz, Mz = g_wi M a0 12 v1 := ⟨_, rfl⟩
  rw [← hM3]
  refine g_Run.ok fun hok4 => ?_
  replace h := h M2 hM3 hok4
  have hx5 := g_extW hM3
  replace hO1 := hO1.up hx5
  refine r_aload_n x_173_5 rfl ?_
  refine r_iload_n x_173_6 rfl ?_
  refine r_putI x_173_7 (ci := 10) (k := 13) (ns := 0) (by decide +kernel) (by decide) (g_f0 (by decide +kernel)) rfl hv2 trivial (kz := 13) rfl hO1 ?_
  obtain ⟨M6, hM7⟩ : ∃ Mz, Mz = g_wi M2 a0 13 v2 := ⟨_, rfl⟩
  rw [← hM7]
  refine g_Run.ok fun hok8 => ?_
  replace h := h M6 hM7 hok8
  have hx9 := g_extW hM7
  replace hO1 := hO1.up hx9
  refine r_aload_n x_173_10 rfl ?_
  refine r_iconst x_173_11 ?_
  refine r_putI x_173_12 (ci := 10) (k := 15) (ns := 0) (by decide +kernel) (by decide) (g_f0 (by decide +kernel)) rfl (g_Rk rfl) trivial (kz := 15) rfl hO1 ?_
  obtain ⟨M10, hM11⟩ : ∃ Mz, Mz = g_wi M6 a0 15 0 := ⟨_, rfl⟩
  rw [← hM11]
  refine g_Run.ok fun hok12 => ?_
  replace h := h M10 hM11 hok12
  have hx13 := g_extW hM11
  replace hO1 := hO1.up hx13
  refine r_aload_n x_173_15 rfl ?_
  refine r_iconst x_173_16 ?_
  refine r_putI x_173_17 (ci := 10) (k := 16) (ns := 0) (by decide +kernel) (by decide) (g_f0 (by decide +kernel)) rfl (g_Rk rfl) trivial (kz := 16) rfl hO1 ?_
  obtain ⟨M14, hM15⟩ : ∃ Mz, Mz = g_wi M10 a0 16 0 := ⟨_, rfl⟩
  rw [← hM15]
  refine g_Run.ok fun hok16 => ?_
  replace h := h M14 hM15 hok16
  have hx17 := g_extW hM15
  replace hO1 := hO1.up hx17
  refine r_aload_n x_173_20 rfl ?_
  refine r_iconst x_173_21 ?_
  refine r_putI x_173_22 (ci := 10) (k := 17) (ns := 0) (by decide +kernel) (by decide) (g_f0 (by decide +kernel)) rfl (g_Rk rfl) trivial (kz := 17) rfl hO1 ?_
  obtain ⟨M18, hM19⟩ : ∃ Mz, Mz = g_wi M14 a0 17 0 := ⟨_, rfl⟩
  rw [← hM19]
  refine g_Run.ok fun hok20 => ?_
  replace h := h M18 hM19 hok20
  have hx21 := g_extW hM19
  replace hO1 := hO1.up hx21
  refine r_aload_n x_173_25 rfl ?_
  refine r_iconst x_173_26 ?_
  refine r_putI x_173_27 (ci := 10) (k := 3) (ns := 0) (by decide +kernel) (by decide) (g_f0 (by decide +kernel)) rfl (g_Rk rfl) trivial (kz := 3) rfl hO1 ?_
  obtain ⟨M22, hM23⟩ : ∃ Mz, Mz = g_wi M18 a0 3 0 := ⟨_, rfl⟩
  rw [← hM23]
  refine g_Run.ok fun hok24 => ?_
  replace h := h M22 hM23 hok24
  have hx25 := g_extW hM23
  replace hO1 := hO1.up hx25
  refine r_aload_n x_173_30 rfl ?_
  obtain ⟨b26, hb27, h⟩ := h
  refine r_getR x_173_31 rfl (ci := 10) (k := 1) (ns := 0) (by decide +kernel) (by decide) rfl (kz := 1) rfl hO1 hb27 ?_
  obtain ⟨n28, hA29, h⟩ := h
  refine r_alen x_173_34 hA29 ?_
  obtain ⟨h30, h⟩ := h
  refine r_iconst x_173_35 ?_
  refine r_isub x_173_36 ?_
  obtain ⟨h31, h⟩ := h
  refine r_istore_n x_173_37 (by decide +kernel) rfl (lv1 := [(0, .ref a0), (1, g_n v1), (2, g_n v2), (3, g_n (n28 - 1))]) rfl ?_
  exact h
theorem s_X10_clear_38 {d : Nat} {M : g_M} {Q : g_M → Prop} {a0 : Nat} {v1 : Int} (hv1 : g_InR v1) {v2 : Int} (hv2 : g_InR v2) {v3 : Int} (hv3 : g_InR v3) (h : g_ok M → ((v3 < 0 → g_O M a0 10 ∧ (∀ M2, M2 = g_wi M a0 9 0 → g_ok M2 → ∃ b6, g_r M2 a0 6 = some b6 ∧ ∃ n8, g_A M2 b6 1 n8 ∧ g_InR n8 ∧ g_InR (n8 - 1) ∧ g_Run d 173 81 [(0, .ref a0), (1, g_n v1), (2, g_n v2), (3, g_n (n8 - 1))] [] M2 (g_qV Q))) ∧ (¬ v3 < 0 → g_O M a0 10 ∧ ∃ b13, g_r M a0 2 = some b13 ∧ ∃ n15, g_A M b13 1 n15 ∧ ((0 : Int) ≤ g_i M a0 3 ∧ (g_i M a0 3 : Int) < n15) ∧ (∀ M18, M18 = g_wi M b13 (g_i M a0 3) v3 → g_ok M18 → g_InR ((g_i M18 a0 3) + 1) ∧ (∀ M23, M23 = g_wi M18 a0 3 ((g_i M18 a0 3) + 1) → g_ok M23 → g_InR (v3 + (-1)) ∧ g_Run d 173 38 [(0, .ref a0), (1, g_n v1), (2, g_n v2), (3, g_n (v3 + (-1)))] [] M23 (g_qV Q)))))) : g_Run d 173 38 [(0, .ref a0), (1, g_n v1), (2, g_n v2), (3, g_n v3)] [] M (g_qV Q) := by
  refine g_Run.ok fun hok => ?_
  replace h := h hok
  refine r_iload_n x_173_38 rfl ?_
  refine r_if_lt x_173_39 (t := 68) (by decide +kernel) hv3 (fun hc => ?_) (fun hc => ?_)
  · replace h := h.1 hc
    refine r_aload_n x_173_68 rfl ?_
    refine r_iconst x_173_69 ?_
    obtain ⟨hO1, h⟩ := h
    refine r_putI x_173_70 (ci := 10) (k := 9) (ns := 0) (by decide +kernel) (by decide) (g_f0 (by decide +kernel)) rfl (g_Rk rfl) trivial (kz := 9) rfl hO1 ?_
    obtain ⟨M2, hM3⟩ : ∃ Mz, Mz = g_wi M a0 9 0 := ⟨_, rfl⟩
    rw [← hM3]
    refine g_Run.ok fun hok4 => ?_
    replace h := h M2 hM3 hok4
    have hx5 := g_extW hM3
    replace hO1 := hO1.up hx5
    refine r_aload_n x_173_73 rfl ?_
    obtain ⟨b6, hb7, h⟩ := h
    refine r_getR x_173_74 rfl (ci := 10) (k := 6) (ns := 0) (by decide +kernel) (by decide) rfl (kz := 6) rfl hO1 hb7 ?_
    obtain ⟨n8, hA9, h⟩ := h
    refine r_alen x_173_77 hA9 ?_
    obtain ⟨h10, h⟩ := h
    refine r_iconst x_173_78 ?_
    refine r_isub x_173_79 ?_
    obtain ⟨h11, h⟩ := h
    refine r_istore_n x_173_80 (by decide +kernel) rfl (lv1 := [(0, .ref a0), (1, g_n v1), (2, g_n v2), (3, g_n (n8 - 1))]) rfl ?_
    exact h
  · replace h := h.2 hc
    refine r_aload_n x_173_42 rfl ?_
    obtain ⟨hO12, h⟩ := h
    obtain ⟨b13, hb14, h⟩ := h
    refine r_getR x_173_43 rfl (ci := 10) (k := 2) (ns := 0) (by decide +kernel) (by decide) rfl (kz := 2) rfl hO12 hb14 ?_
    refine r_aload_n x_173_46 rfl ?_
    refine r_getI x_173_47 rfl (ci := 10) (k := 3) (ns := 0) (by decide +kernel) (by decide) rfl (kz := 3) rfl hO12 ?_
    refine r_iload_n x_173_50 rfl ?_
    obtain ⟨n15, hA16, h⟩ := h
    obtain ⟨h17, h⟩ := h
    refine r_iast x_173_51 hA16 (hok.1 _ _) h17.1 h17.2 hv3 ?_
    obtain ⟨M18, hM19⟩ : ∃ Mz, Mz = g_wi M b13 (g_i M a0 3) v3 := ⟨_, rfl⟩
    rw [← hM19]
    refine g_Run.ok fun hok20 => ?_
    replace h := h M18 hM19 hok20
    have hx21 := g_extW hM19
    replace hO12 := hO12.up hx21
    replace hA16 := hA16.up hx21
    refine r_aload_n x_173_52 rfl ?_
    refine r_dup x_173_53 rfl ?_
    refine r_getI x_173_54 rfl (ci := 10) (k := 3) (ns := 0) (by decide +kernel) (by decide) rfl (kz := 3) rfl hO12 ?_
    refine r_iconst x_173_57 ?_
    refine r_iadd x_173_58 ?_
    obtain ⟨h22, h⟩ := h
    refine r_putI x_173_59 (ci := 10) (k := 3) (ns := 0) (by decide +kernel) (by decide) (g_f0 (by decide +kernel)) rfl h22 trivial (kz := 3) rfl hO12 ?_
    obtain ⟨M23, hM24⟩ : ∃ Mz, Mz = g_wi M18 a0 3 ((g_i M18 a0 3) + 1) := ⟨_, rfl⟩
    rw [← hM24]
    refine g_Run.ok fun hok25 => ?_
    replace h := h M23 hM24 hok25
    have hx26 := g_extW hM24
    replace hO12 := hO12.up hx26
    replace hA16 := hA16.up hx26
    obtain ⟨h27, h⟩ := h
    refine r_iinc x_173_62 (by decide +kernel) rfl rfl (lv1 := [(0, .ref a0), (1, g_n v1), (2, g_n v2), (3, g_n (v3 + (-1)))]) rfl ?_
    refine r_goto x_173_65 (t := 38) (by decide +kernel) ?_
    exact h
theorem s_X10_clear_81 {d : Nat} {M : g_M} {Q : g_M → Prop} {a0 : Nat} {v1 : Int} (hv1 : g_InR v1) {v2 : Int} (hv2 : g_InR v2) {v3 : Int} (hv3 : g_InR v3) (h : g_ok M → ((v3 < 0 → g_O M a0 10 ∧ g_Call d 176 [.ref a0, g_n 1] M (g_qI fun r5 M2 => g_ext M M2 → g_ok M2 → g_InR r5 → (∀ M7, M7 = g_wi M2 a0 14 r5 → g_ok M7 → g_Call d 174 [.ref a0] M7 (g_qI fun r14 M11 => g_ext M7 M11 → g_ok M11 → g_InR r14 → (∀ M16, M16 = g_wi M11 a0 18 r14 → g_ok M16 → Q M16))))) ∧ (¬ v3 < 0 → g_O M a0 10 ∧ ∃ b21, g_r M a0 8 = some b21 ∧ ∃ n23, g_A M b21 1 n23 ∧ ((0 : Int) ≤ g_i M a0 9 ∧ (g_i M a0 9 : Int) < n23) ∧ (∀ M26, M26 = g_wi M b21 (g_i M a0 9) v3 → g_ok M26 → g_InR ((g_i M26 a0 9) + 1) ∧ (∀ M31, M31 = g_wi M26 a0 9 ((g_i M26 a0 9) + 1) → g_ok M31 → g_InR (v3 + (-1)) ∧ g_Run d 173 81 [(0, .ref a0), (1, g_n v1), (2, g_n v2), (3, g_n (v3 + (-1)))] [] M31 (g_qV Q)))))) : g_Run d 173 81 [(0, .ref a0), (1, g_n v1), (2, g_n v2), (3, g_n v3)] [] M (g_qV Q) := by
  refine g_Run.ok fun hok => ?_
  replace h := h hok
  refine r_iload_n x_173_81 rfl ?_
  refine r_if_lt x_173_82 (t := 111) (by decide +kernel) hv3 (fun hc => ?_) (fun hc => ?_)
  · replace h := h.1 hc
    refine r_aload_n x_173_111 rfl ?_
    refine r_aload_n x_173_112 rfl ?_
    refine r_iconst x_173_113 ?_
    obtain ⟨hO1, h⟩ := h
    refine r_invV x_173_114 (z := 176) (ns := 0) (by decide +kernel) (as := [g_n 1]) (r := [.ref a0]) rfl rfl rfl hO1 rfl rfl ?_
    refine r_callI h fun r5 M2 hx3 hok4 hr6 h => ?_
    replace h := h hx3 hok4 hr6
    replace hO1 := hO1.up hx3
    refine r_putI x_173_117 (ci := 10) (k := 14) (ns := 0) (by decide +kernel) (by decide) (g_f0 (by decide +kernel)) rfl hr6 trivial (kz := 14) rfl hO1 ?_
    obtain ⟨M7, hM8⟩ : ∃ Mz, Mz = g_wi M2 a0 14 r5 := ⟨_, rfl⟩
    rw [← hM8]
    refine g_Run.ok fun hok9 => ?_
    replace h := h M7 hM8 hok9
    have hx10 := g_extW hM8
    replace hO1 := hO1.up hx10
    refine r_aload_n x_173_120 rfl ?_
    refine r_aload_n x_173_121 rfl ?_
    refine r_invV x_173_122 (z := 174) (ns := 0) (by decide +kernel) (as := []) (r := [.ref a0]) rfl rfl rfl hO1 rfl rfl ?_
    refine r_callI h fun r14 M11 hx12 hok13 hr15 h => ?_
    replace h := h hx12 hok13 hr15
    replace hO1 := hO1.up hx12
    refine r_putI x_173_125 (ci := 10) (k := 18) (ns := 0) (by decide +kernel) (by decide) (g_f0 (by decide +kernel)) rfl hr15 trivial (kz := 18) rfl hO1 ?_
    obtain ⟨M16, hM17⟩ : ∃ Mz, Mz = g_wi M11 a0 18 r14 := ⟨_, rfl⟩
    rw [← hM17]
    refine g_Run.ok fun hok18 => ?_
    replace h := h M16 hM17 hok18
    have hx19 := g_extW hM17
    replace hO1 := hO1.up hx19
    exact r_retV x_173_128 rfl h
  · replace h := h.2 hc
    refine r_aload_n x_173_85 rfl ?_
    obtain ⟨hO20, h⟩ := h
    obtain ⟨b21, hb22, h⟩ := h
    refine r_getR x_173_86 rfl (ci := 10) (k := 8) (ns := 0) (by decide +kernel) (by decide) rfl (kz := 8) rfl hO20 hb22 ?_
    refine r_aload_n x_173_89 rfl ?_
    refine r_getI x_173_90 rfl (ci := 10) (k := 9) (ns := 0) (by decide +kernel) (by decide) rfl (kz := 9) rfl hO20 ?_
    refine r_iload_n x_173_93 rfl ?_
    obtain ⟨n23, hA24, h⟩ := h
    obtain ⟨h25, h⟩ := h
    refine r_iast x_173_94 hA24 (hok.1 _ _) h25.1 h25.2 hv3 ?_
    obtain ⟨M26, hM27⟩ : ∃ Mz, Mz = g_wi M b21 (g_i M a0 9) v3 := ⟨_, rfl⟩
    rw [← hM27]
    refine g_Run.ok fun hok28 => ?_
    replace h := h M26 hM27 hok28
    have hx29 := g_extW hM27
    replace hO20 := hO20.up hx29
    replace hA24 := hA24.up hx29
    refine r_aload_n x_173_95 rfl ?_
    refine r_dup x_173_96 rfl ?_
    refine r_getI x_173_97 rfl (ci := 10) (k := 9) (ns := 0) (by decide +kernel) (by decide) rfl (kz := 9) rfl hO20 ?_
    refine r_iconst x_173_100 ?_
    refine r_iadd x_173_101 ?_
    obtain ⟨h30, h⟩ := h
    refine r_putI x_173_102 (ci := 10) (k := 9) (ns := 0) (by decide +kernel) (by decide) (g_f0 (by decide +kernel)) rfl h30 trivial (kz := 9) rfl hO20 ?_
    obtain ⟨M31, hM32⟩ : ∃ Mz, Mz = g_wi M26 a0 9 ((g_i M26 a0 9) + 1) := ⟨_, rfl⟩
    rw [← hM32]
    refine g_Run.ok fun hok33 => ?_
    replace h := h M31 hM32 hok33
    have hx34 := g_extW hM32
    replace hO20 := hO20.up hx34
    replace hA24 := hA24.up hx34
    obtain ⟨h35, h⟩ := h
    refine r_iinc x_173_105 (by decide +kernel) rfl rfl (lv1 := [(0, .ref a0), (1, g_n v1), (2, g_n v2), (3, g_n (v3 + (-1)))]) rfl ?_
    refine r_goto x_173_108 (t := 81) (by decide +kernel) ?_
    exact h
theorem m_X10_newSlot {d : Nat} {M : g_M} {Q : Int → g_M → Prop} {a0 : Nat} (h : g_ok M → g_O M a0 10 ∧ ((g_i M a0 3 = 0 → ∃ b2, g_r M a0 1 = some b2 ∧ ∃ n4, g_A M b2 1 n4 ∧ g_InR n4 ∧ ((n4 < 16 → g_Run d 174 27 [(0, .ref a0), (1, g_n n4)] [g_n 16] M (g_qI Q)) ∧ (¬ n4 < 16 → g_Run d 174 27 [(0, .ref a0), (1, g_n n4)] [g_n (n4.tdiv 2)] M (g_qI Q)))) ∧ (¬ g_i M a0 3 = 0 → g_Run d 174 111 [(0, .ref a0)] [] M (g_qI Q)))) : g_Call (d + 1) 174 [.ref a0] M (g_qI Q) := by
  refine g_Call.ok fun hok0 => ?_
  replace h := h hok0
  refine r_body rfl (lv := [(0, .ref a0)]) rfl ?_
  refine g_Run.ok fun hok => ?_
  refine r_aload_n x_174_0 rfl ?_
  obtain ⟨hO1, h⟩ := h
  refine r_getI x_174_1 rfl (ci := 10) (k := 3) (ns := 0) (by decide +kernel) (by decide) rfl (kz := 3) rfl hO1 ?_
  refine r_if_ne x_174_4 (t := 111) (by decide +kernel) (hok.1 _ _) (fun hc => ?_) (fun hc => ?_)
  · replace h := h.2 hc
    exact h
  · replace h := h.1 hc
    refine r_aload_n x_174_7 rfl ?_
    obtain ⟨b2, hb3, h⟩ := h
    refine r_getR x_174_8 rfl (ci := 10) (k := 1) (ns := 0) (by decide +kernel) (by decide) rfl (kz := 1) rfl hO1 hb3 ?_
    obtain ⟨n4, hA5, h⟩ := h
    refine r_alen x_174_11 hA5 ?_
    obtain ⟨h6, h⟩ := h
    refine r_istore_n x_174_12 (by decide +kernel) rfl (lv1 := [(0, .ref a0), (1, g_n n4)]) rfl ?_
    refine r_iload_n x_174_13 rfl ?_
    refine r_bipush x_174_14 (x := 16) rfl ?_
    refine r_ic_ge x_174_16 (t := 24) (by decide +kernel) h6 (g_Rk rfl) (fun hc => ?_) (fun hc => ?_)
    · replace h := h.2 hc
      refine r_iload_n x_174_24 rfl ?_
      refine r_iconst x_174_25 ?_
      refine r_idiv x_174_26 h6 (g_Rk rfl) (by decide) ?_
      exact h
    · replace h := h.1 hc
      refine r_bipush x_174_19 (x := 16) rfl ?_
      refine r_goto x_174_21 (t := 27) (by decide +kernel) ?_
      exact h
theorem s_X10_newSlot_27 {d : Nat} {M : g_M} {Q : Int → g_M → Prop} {a0 : Nat} {v1 : Int} (hv1 : g_InR v1) {w0 : Int} (hw0 : g_InR w0) (h : g_ok M → g_O M a0 10 ∧ ∃ b2, g_r M a0 1 = some b2 ∧ g_InR (v1 + w0) ∧ g_Call d 439 [.ref b2, g_n (v1 + w0)] M (g_qR fun o8 M5 => g_ext M M5 → g_ok M5 → ∃ b9, o8 = some b9 ∧ (∀ M11, M11 = g_wr M5 a0 1 (some b9) → g_ok M11 → ∃ b15, g_r M11 a0 0 = some b15 ∧ g_InR (v1 + w0) ∧ g_InR ((v1 + w0) * 132) ∧ g_Call d 438 [.ref b15, g_n ((v1 + w0) * 132)] M11 (g_qR fun o22 M19 => g_ext M11 M19 → g_ok M19 → ∃ b23, o22 = some b23 ∧ (∀ M25, M25 = g_wr M19 a0 0 (some b23) → g_ok M25 → ∃ b29, g_r M25 a0 2 = some b29 ∧ g_InR (v1 + w0) ∧ g_Call d 439 [.ref b29, g_n (v1 + w0)] M25 (g_qR fun o35 M32 => g_ext M25 M32 → g_ok M32 → ∃ b36, o35 = some b36 ∧ (∀ M38, M38 = g_wr M32 a0 2 (some b36) → g_ok M38 → g_InR (v1 + w0) ∧ g_InR ((v1 + w0) - 1) ∧ g_Run d 174 80 [(0, .ref a0), (1, g_n v1), (2, g_n w0), (3, g_n ((v1 + w0) - 1))] [] M38 (g_qI Q)))))))) : g_Run d 174 27 [(0, .ref a0), (1, g_n v1)] [g_n w0] M (g_qI Q) := by
  refine g_Run.ok fun hok => ?_
  replace h := h hok
  refine r_istore_n x_174_27 (by decide +kernel) rfl (lv1 := [(0, .ref a0), (1, g_n v1), (2, g_n w0)]) rfl ?_
  refine r_aload_n x_174_28 rfl ?_
  refine r_aload_n x_174_29 rfl ?_
  obtain ⟨hO1, h⟩ := h
  obtain ⟨b2, hb3, h⟩ := h
  refine r_getR x_174_30 rfl (ci := 10) (k := 1) (ns := 0) (by decide +kernel) (by decide) rfl (kz := 1) rfl hO1 hb3 ?_
  refine r_iload_n x_174_33 rfl ?_
  refine r_iload_n x_174_34 rfl ?_
  refine r_iadd x_174_35 ?_
  obtain ⟨h4, h⟩ := h
  refine r_invS x_174_36 (z := 439) (ns := 0) (by decide +kernel) (as := [.ref b2, g_n (v1 + w0)]) (r := [.ref a0]) rfl rfl rfl ?_
  refine r_callR h fun o8 M5 hx6 hok7 h => ?_
  replace h := h hx6 hok7
  obtain ⟨b9, hb10, h⟩ := h
  subst hb10
  replace hO1 := hO1.up hx6
  refine r_putR x_174_39 (o := (some b9)) (ci := 10) (k := 1) (ns := 0) (by decide +kernel) (by decide) (g_fR (by decide +kernel) rfl) rfl (kz := 1) rfl hO1 ?_
  obtain ⟨M11, hM12⟩ : ∃ Mz, Mz = g_wr M5 a0 1 (some b9) := ⟨_, rfl⟩
  rw [← hM12]
  refine g_Run.ok fun hok13 => ?_
  replace h := h M11 hM12 hok13
  have hx14 := g_extR hM12
  replace hO1 := hO1.up hx14
  refine r_aload_n x_174_42 rfl ?_
  refine r_aload_n x_174_43 rfl ?_
  obtain ⟨b15, hb16, h⟩ := h
  refine r_getR x_174_44 rfl (ci := 10) (k := 0) (ns := 0) (by decide +kernel) (by decide) rfl (kz := 0) rfl hO1 hb16 ?_
  refine r_iload_n x_174_47 rfl ?_
  refine r_iload_n x_174_48 rfl ?_
  refine r_iadd x_174_49 ?_
  obtain ⟨h17, h⟩ := h
  refine r_sipush x_174_50 (x := 132) rfl ?_
  refine r_imul x_174_53 ?_
  obtain ⟨h18, h⟩ := h
  refine r_invS x_174_54 (z := 438) (ns := 0) (by decide +kernel) (as := [.ref b15, g_n ((v1 + w0) * 132)]) (r := [.ref a0]) rfl rfl rfl ?_
  refine r_callR h fun o22 M19 hx20 hok21 h => ?_
  replace h := h hx20 hok21
  obtain ⟨b23, hb24, h⟩ := h
  subst hb24
  replace hO1 := hO1.up hx20
  refine r_putR x_174_57 (o := (some b23)) (ci := 10) (k := 0) (ns := 0) (by decide +kernel) (by decide) (g_fR (by decide +kernel) rfl) rfl (kz := 0) rfl hO1 ?_
  obtain ⟨M25, hM26⟩ : ∃ Mz, Mz = g_wr M19 a0 0 (some b23) := ⟨_, rfl⟩
  rw [← hM26]
  refine g_Run.ok fun hok27 => ?_
  replace h := h M25 hM26 hok27
  have hx28 := g_extR hM26
  replace hO1 := hO1.up hx28
  refine r_aload_n x_174_60 rfl ?_
  refine r_aload_n x_174_61 rfl ?_
  obtain ⟨b29, hb30, h⟩ := h
  refine r_getR x_174_62 rfl (ci := 10) (k := 2) (ns := 0) (by decide +kernel) (by decide) rfl (kz := 2) rfl hO1 hb30 ?_
  refine r_iload_n x_174_65 rfl ?_
  refine r_iload_n x_174_66 rfl ?_
  refine r_iadd x_174_67 ?_
  obtain ⟨h31, h⟩ := h
  refine r_invS x_174_68 (z := 439) (ns := 0) (by decide +kernel) (as := [.ref b29, g_n (v1 + w0)]) (r := [.ref a0]) rfl rfl rfl ?_
  refine r_callR h fun o35 M32 hx33 hok34 h => ?_
  replace h := h hx33 hok34
  obtain ⟨b36, hb37, h⟩ := h
  subst hb37
  replace hO1 := hO1.up hx33
  refine r_putR x_174_71 (o := (some b36)) (ci := 10) (k := 2) (ns := 0) (by decide +kernel) (by decide) (g_fR (by decide +kernel) rfl) rfl (kz := 2) rfl hO1 ?_
  obtain ⟨M38, hM39⟩ : ∃ Mz, Mz = g_wr M32 a0 2 (some b36) := ⟨_, rfl⟩
  rw [← hM39]
  refine g_Run.ok fun hok40 => ?_
  replace h := h M38 hM39 hok40
  have hx41 := g_extR hM39
  replace hO1 := hO1.up hx41
  refine r_iload_n x_174_74 rfl ?_
  refine r_iload_n x_174_75 rfl ?_
  refine r_iadd x_174_76 ?_
  obtain ⟨h42, h⟩ := h
  refine r_iconst x_174_77 ?_
  refine r_isub x_174_78 ?_
  obtain ⟨h43, h⟩ := h
  refine r_istore_n x_174_79 (by decide +kernel) rfl (lv1 := [(0, .ref a0), (1, g_n v1), (2, g_n w0), (3, g_n ((v1 + w0) - 1))]) rfl ?_
  exact h
theorem s_X10_newSlot_80 {d : Nat} {M : g_M} {Q : Int → g_M → Prop} {a0 : Nat} {v1 : Int} (hv1 : g_InR v1) {v2 : Int} (hv2 : g_InR v2) {v3 : Int} (hv3 : g_InR v3) (h : g_ok M → ((v3 < v1 → g_Run d 174 111 [(0, .ref a0)] [] M (g_qI Q)) ∧ (¬ v3 < v1 → g_O M a0 10 ∧ ∃ b2, g_r M a0 2 = some b2 ∧ ∃ n4, g_A M b2 1 n4 ∧ ((0 : Int) ≤ g_i M a0 3 ∧ (g_i M a0 3 : Int) < n4) ∧ (∀ M7, M7 = g_wi M b2 (g_i M a0 3) v3 → g_ok M7 → g_InR ((g_i M7 a0 3) + 1) ∧ (∀ M12, M12 = g_wi M7 a0 3 ((g_i M7 a0 3) + 1) → g_ok M12 → g_InR (v3 + (-1)) ∧ g_Run d 174 80 [(0, .ref a0), (1, g_n v1), (2, g_n v2), (3, g_n (v3 + (-1)))] [] M12 (g_qI Q)))))) : g_Run d 174 80 [(0, .ref a0), (1, g_n v1), (2, g_n v2), (3, g_n v3)] [] M (g_qI Q) := by
  refine g_Run.ok fun hok => ?_
  replace h := h hok
  refine r_iload_n x_174_80 rfl ?_
  refine r_iload_n x_174_81 rfl ?_
  refine r_ic_lt x_174_82 (t := 111) (by decide +kernel) hv3 hv1 (fun hc => ?_) (fun hc => ?_)
  · replace h := h.1 hc
    refine g_drop [0] (lv1 := [(0, .ref a0)]) rfl ?_
    exact h
  · replace h := h.2 hc
    refine r_aload_n x_174_85 rfl ?_
    obtain ⟨hO1, h⟩ := h
    obtain ⟨b2, hb3, h⟩ := h
    refine r_getR x_174_86 rfl (ci := 10) (k := 2) (ns := 0) (by decide +kernel) (by decide) rfl (kz := 2) rfl hO1 hb3 ?_
    refine r_aload_n x_174_89 rfl ?_
    refine r_getI x_174_90 rfl (ci := 10) (k := 3) (ns := 0) (by decide +kernel) (by decide) rfl (kz := 3) rfl hO1 ?_
    refine r_iload_n x_174_93 rfl ?_
    obtain ⟨n4, hA5, h⟩ := h
    obtain ⟨h6, h⟩ := h
    refine r_iast x_174_94 hA5 (hok.1 _ _) h6.1 h6.2 hv3 ?_
    obtain ⟨M7, hM8⟩ : ∃ Mz, Mz = g_wi M b2 (g_i M a0 3) v3 := ⟨_, rfl⟩
    rw [← hM8]
    refine g_Run.ok fun hok9 => ?_
    replace h := h M7 hM8 hok9
    have hx10 := g_extW hM8
    replace hO1 := hO1.up hx10
    replace hA5 := hA5.up hx10
    refine r_aload_n x_174_95 rfl ?_
    refine r_dup x_174_96 rfl ?_
    refine r_getI x_174_97 rfl (ci := 10) (k := 3) (ns := 0) (by decide +kernel) (by decide) rfl (kz := 3) rfl hO1 ?_
    refine r_iconst x_174_100 ?_
    refine r_iadd x_174_101 ?_
    obtain ⟨h11, h⟩ := h
    refine r_putI x_174_102 (ci := 10) (k := 3) (ns := 0) (by decide +kernel) (by decide) (g_f0 (by decide +kernel)) rfl h11 trivial (kz := 3) rfl hO1 ?_
    obtain ⟨M12, hM13⟩ : ∃ Mz, Mz = g_wi M7 a0 3 ((g_i M7 a0 3) + 1) := ⟨_, rfl⟩
    rw [← hM13]
    refine g_Run.ok fun hok14 => ?_
    replace h := h M12 hM13 hok14
    have hx15 := g_extW hM13
    replace hO1 := hO1.up hx15
    replace hA5 := hA5.up hx15
    obtain ⟨h16, h⟩ := h
    refine r_iinc x_174_105 (by decide +kernel) rfl rfl (lv1 := [(0, .ref a0), (1, g_n v1), (2, g_n v2), (3, g_n (v3 + (-1)))]) rfl ?_
    refine r_goto x_174_108 (t := 80) (by decide +kernel) ?_
    exact h
theorem s_X10_newSlot_111 {d : Nat} {M : g_M} {Q : Int → g_M → Prop} {a0 : Nat} (h : g_ok M → g_O M a0 10 ∧ g_InR ((g_i M a0 3) - 1) ∧ (∀ M3, M3 = g_wi M a0 3 ((g_i M a0 3) - 1) → g_ok M3 → ∃ b7, g_r M3 a0 2 = some b7 ∧ ∃ n9, g_A M3 b7 1 n9 ∧ ((0 : Int) ≤ g_i M3 a0 3 ∧ (g_i M3 a0 3 : Int) < n9) ∧ Q (g_i M3 b7 (g_i M3 a0 3)) M3)) : g_Run d 174 111 [(0, .ref a0)] [] M (g_qI Q) := by
  refine g_Run.ok fun hok => ?_
  replace h := h hok
  refine r_aload_n x_174_111 rfl ?_
  refine r_dup x_174_112 rfl ?_
  obtain ⟨hO1, h⟩ := h
  refine r_getI x_174_113 rfl (ci := 10) (k := 3) (ns := 0) (by decide +kernel) (by decide) rfl (kz := 3) rfl hO1 ?_
  refine r_iconst x_174_116 ?_
  refine r_isub x_174_117 ?_
  obtain ⟨h2, h⟩ := h
  refine r_putI x_174_118 (ci := 10) (k := 3) (ns := 0) (by decide +kernel) (by decide) (g_f0 (by decide +kernel)) rfl h2 trivial (kz := 3) rfl hO1 ?_
  obtain ⟨M3, hM4⟩ : ∃ Mz, Mz = g_wi M a0 3 ((g_i M a0 3) - 1) := ⟨_, rfl⟩
  rw [← hM4]
  refine g_Run.ok fun hok5 => ?_
  replace h := h M3 hM4 hok5
  have hx6 := g_extW hM4
  replace hO1 := hO1.up hx6
  refine r_aload_n x_174_121 rfl ?_
  obtain ⟨b7, hb8, h⟩ := h
  refine r_getR x_174_122 rfl (ci := 10) (k := 2) (ns := 0) (by decide +kernel) (by decide) rfl (kz := 2) rfl hO1 hb8 ?_
  refine r_aload_n x_174_125 rfl ?_
  refine r_getI x_174_126 rfl (ci := 10) (k := 3) (ns := 0) (by decide +kernel) (by decide) rfl (kz := 3) rfl hO1 ?_
  obtain ⟨n9, hA10, h⟩ := h
  obtain ⟨h11, h⟩ := h
  refine r_iald x_174_129 hA10 (hok5.1 _ _) h11.1 h11.2 ?_
  exact r_retI x_174_130 rfl (hok5.1 _ _) h
theorem m_X10_freeSlot {d : Nat} {M : g_M} {Q : g_M → Prop} {a0 : Nat} {v1 : Int} (hv1 : g_InR v1) (h : g_ok M → g_O M a0 10 ∧ ∃ b2, g_r M a0 2 = some b2 ∧ ∃ n4, g_A M b2 1 n4 ∧ g_InR n4 ∧ ((g_i M a0 3 < n4 → ∃ b7, g_r M a0 2 = some b7 ∧ ∃ n9, g_A M b7 1 n9 ∧ ((0 : Int) ≤ g_i M a0 3 ∧ (g_i M a0 3 : Int) < n9) ∧ (∀ M12, M12 = g_wi M b7 (g_i M a0 3) v1 → g_ok M12 → g_InR ((g_i M12 a0 3) + 1) ∧ (∀ M17, M17 = g_wi M12 a0 3 ((g_i M12 a0 3) + 1) → g_ok M17 → Q M17))) ∧ (¬ g_i M a0 3 < n4 → Q M))) : g_Call (d + 1) 175 [.ref a0, g_n v1] M (g_qV Q) := by
  refine g_Call.ok fun hok0 => ?_
  replace h := h hok0
  refine r_body rfl (lv := [(0, .ref a0), (1, g_n v1)]) rfl ?_
  refine g_Run.ok fun hok => ?_
  refine r_aload_n x_175_0 rfl ?_
  obtain ⟨hO1, h⟩ := h
  refine r_getI x_175_1 rfl (ci := 10) (k := 3) (ns := 0) (by decide +kernel) (by decide) rfl (kz := 3) rfl hO1 ?_
  refine r_aload_n x_175_4 rfl ?_
  obtain ⟨b2, hb3, h⟩ := h
  refine r_getR x_175_5 rfl (ci := 10) (k := 2) (ns := 0) (by decide +kernel) (by decide) rfl (kz := 2) rfl hO1 hb3 ?_
  obtain ⟨n4, hA5, h⟩ := h
  refine r_alen x_175_8 hA5 ?_
  obtain ⟨h6, h⟩ := h
  refine r_ic_ge x_175_9 (t := 32) (by decide +kernel) (hok.1 _ _) h6 (fun hc => ?_) (fun hc => ?_)
  · replace h := h.2 hc
    exact r_retV x_175_32 rfl h
  · replace h := h.1 hc
    refine r_aload_n x_175_12 rfl ?_
    obtain ⟨b7, hb8, h⟩ := h
    refine r_getR x_175_13 rfl (ci := 10) (k := 2) (ns := 0) (by decide +kernel) (by decide) rfl (kz := 2) rfl hO1 hb8 ?_
    refine r_aload_n x_175_16 rfl ?_
    refine r_getI x_175_17 rfl (ci := 10) (k := 3) (ns := 0) (by decide +kernel) (by decide) rfl (kz := 3) rfl hO1 ?_
    refine r_iload_n x_175_20 rfl ?_
    obtain ⟨n9, hA10, h⟩ := h
    obtain ⟨h11, h⟩ := h
    refine r_iast x_175_21 hA10 (hok.1 _ _) h11.1 h11.2 hv1 ?_
    obtain ⟨M12, hM13⟩ : ∃ Mz, Mz = g_wi M b7 (g_i M a0 3) v1 := ⟨_, rfl⟩
    rw [← hM13]
    refine g_Run.ok fun hok14 => ?_
    replace h := h M12 hM13 hok14
    have hx15 := g_extW hM13
    replace hO1 := hO1.up hx15
    replace hA5 := hA5.up hx15
    replace hA10 := hA10.up hx15
    refine r_aload_n x_175_22 rfl ?_
    refine r_dup x_175_23 rfl ?_
    refine r_getI x_175_24 rfl (ci := 10) (k := 3) (ns := 0) (by decide +kernel) (by decide) rfl (kz := 3) rfl hO1 ?_
    refine r_iconst x_175_27 ?_
    refine r_iadd x_175_28 ?_
    obtain ⟨h16, h⟩ := h
    refine r_putI x_175_29 (ci := 10) (k := 3) (ns := 0) (by decide +kernel) (by decide) (g_f0 (by decide +kernel)) rfl h16 trivial (kz := 3) rfl hO1 ?_
    obtain ⟨M17, hM18⟩ : ∃ Mz, Mz = g_wi M12 a0 3 ((g_i M12 a0 3) + 1) := ⟨_, rfl⟩
    rw [← hM18]
    refine g_Run.ok fun hok19 => ?_
    replace h := h M17 hM18 hok19
    have hx20 := g_extW hM18
    replace hO1 := hO1.up hx20
    replace hA5 := hA5.up hx20
    replace hA10 := hA10.up hx20
    exact r_retV x_175_32 rfl h
theorem m_X10_newNode {d : Nat} {M : g_M} {Q : Int → g_M → Prop} {a0 : Nat} {v1 : Int} (hv1 : g_InR v1) (h : g_ok M → g_O M a0 10 ∧ ((g_i M a0 9 = 0 → ∃ b2, g_r M a0 6 = some b2 ∧ ∃ n4, g_A M b2 1 n4 ∧ g_InR n4 ∧ ((n4 < 8 → g_Run d 176 27 [(0, .ref a0), (1, g_n v1), (2, g_n n4)] [g_n 8] M (g_qI Q)) ∧ (¬ n4 < 8 → g_Run d 176 27 [(0, .ref a0), (1, g_n v1), (2, g_n n4)] [g_n (n4.tdiv 2)] M (g_qI Q)))) ∧ (¬ g_i M a0 9 = 0 → g_Run d 176 180 [(0, .ref a0), (1, g_n v1)] [] M (g_qI Q)))) : g_Call (d + 1) 176 [.ref a0, g_n v1] M (g_qI Q) := by
  refine g_Call.ok fun hok0 => ?_
  replace h := h hok0
  refine r_body rfl (lv := [(0, .ref a0), (1, g_n v1)]) rfl ?_
  refine g_Run.ok fun hok => ?_
  refine r_aload_n x_176_0 rfl ?_
  obtain ⟨hO1, h⟩ := h
  refine r_getI x_176_1 rfl (ci := 10) (k := 9) (ns := 0) (by decide +kernel) (by decide) rfl (kz := 9) rfl hO1 ?_
  refine r_if_ne x_176_4 (t := 180) (by decide +kernel) (hok.1 _ _) (fun hc => ?_) (fun hc => ?_)
  · replace h := h.2 hc
    exact h
  · replace h := h.1 hc
    refine r_aload_n x_176_7 rfl ?_
    obtain ⟨b2, hb3, h⟩ := h
    refine r_getR x_176_8 rfl (ci := 10) (k := 6) (ns := 0) (by decide +kernel) (by decide) rfl (kz := 6) rfl hO1 hb3 ?_
    obtain ⟨n4, hA5, h⟩ := h
    refine r_alen x_176_11 hA5 ?_
    obtain ⟨h6, h⟩ := h
    refine r_istore_n x_176_12 (by decide +kernel) rfl (lv1 := [(0, .ref a0), (1, g_n v1), (2, g_n n4)]) rfl ?_
    refine r_iload_n x_176_13 rfl ?_
    refine r_bipush x_176_14 (x := 8) rfl ?_
    refine r_ic_ge x_176_16 (t := 24) (by decide +kernel) h6 (g_Rk rfl) (fun hc => ?_) (fun hc => ?_)
    · replace h := h.2 hc
      refine r_iload_n x_176_24 rfl ?_
      refine r_iconst x_176_25 ?_
      refine r_idiv x_176_26 h6 (g_Rk rfl) (by decide) ?_
      exact h
    · replace h := h.1 hc
      refine r_bipush x_176_19 (x := 8) rfl ?_
      refine r_goto x_176_21 (t := 27) (by decide +kernel) ?_
      exact h
theorem s_X10_newNode_27 {d : Nat} {M : g_M} {Q : Int → g_M → Prop} {a0 : Nat} {v1 : Int} (hv1 : g_InR v1) {v2 : Int} (hv2 : g_InR v2) {w0 : Int} (hw0 : g_InR w0) (h : g_ok M → g_O M a0 10 ∧ ∃ b2, g_r M a0 6 = some b2 ∧ g_InR (v2 + w0) ∧ g_Call d 439 [.ref b2, g_n (v2 + w0)] M (g_qR fun o8 M5 => g_ext M M5 → g_ok M5 → ∃ b9, o8 = some b9 ∧ (∀ M11, M11 = g_wr M5 a0 6 (some b9) → g_ok M11 → ∃ b15, g_r M11 a0 4 = some b15 ∧ g_InR (v2 + w0) ∧ g_InR ((v2 + w0) * 9) ∧ g_Call d 439 [.ref b15, g_n ((v2 + w0) * 9)] M11 (g_qR fun o22 M19 => g_ext M11 M19 → g_ok M19 → ∃ b23, o22 = some b23 ∧ (∀ M25, M25 = g_wr M19 a0 4 (some b23) → g_ok M25 → ∃ b29, g_r M25 a0 5 = some b29 ∧ g_InR (v2 + w0) ∧ g_InR ((v2 + w0) * 9) ∧ g_Call d 439 [.ref b29, g_n ((v2 + w0) * 9)] M25 (g_qR fun o36 M33 => g_ext M25 M33 → g_ok M33 → ∃ b37, o36 = some b37 ∧ (∀ M39, M39 = g_wr M33 a0 5 (some b37) → g_ok M39 → ∃ b43, g_r M39 a0 8 = some b43 ∧ g_InR (v2 + w0) ∧ g_Call d 439 [.ref b43, g_n (v2 + w0)] M39 (g_qR fun o49 M46 => g_ext M39 M46 → g_ok M46 → ∃ b50, o49 = some b50 ∧ (∀ M52, M52 = g_wr M46 a0 8 (some b50) → g_ok M52 → g_InR (v2 + w0) ∧ ((0 : Int) ≤ v2 + w0 ∧ (v2 + w0 : Int) ≤ 134217728) ∧ (∀ M58, M58 = g_nw M52 2 (v2 + w0).toNat → g_ok M58 → g_Run d 176 100 [(0, .ref a0), (1, g_n v1), (2, g_n v2), (3, g_n w0), (4, .ref (2 * (M52).1.length)), (5, g_n 0)] [] M58 (g_qI Q))))))))))) : g_Run d 176 27 [(0, .ref a0), (1, g_n v1), (2, g_n v2)] [g_n w0] M (g_qI Q) := by
  refine g_Run.ok fun hok => ?_
  replace h := h hok
  refine r_istore_n x_176_27 (by decide +kernel) rfl (lv1 := [(0, .ref a0), (1, g_n v1), (2, g_n v2), (3, g_n w0)]) rfl ?_
  refine r_aload_n x_176_28 rfl ?_
  refine r_aload_n x_176_29 rfl ?_
  obtain ⟨hO1, h⟩ := h
  obtain ⟨b2, hb3, h⟩ := h
  refine r_getR x_176_30 rfl (ci := 10) (k := 6) (ns := 0) (by decide +kernel) (by decide) rfl (kz := 6) rfl hO1 hb3 ?_
  refine r_iload_n x_176_33 rfl ?_
  refine r_iload_n x_176_34 rfl ?_
  refine r_iadd x_176_35 ?_
  obtain ⟨h4, h⟩ := h
  refine r_invS x_176_36 (z := 439) (ns := 0) (by decide +kernel) (as := [.ref b2, g_n (v2 + w0)]) (r := [.ref a0]) rfl rfl rfl ?_
  refine r_callR h fun o8 M5 hx6 hok7 h => ?_
  replace h := h hx6 hok7
  obtain ⟨b9, hb10, h⟩ := h
  subst hb10
  replace hO1 := hO1.up hx6
  refine r_putR x_176_39 (o := (some b9)) (ci := 10) (k := 6) (ns := 0) (by decide +kernel) (by decide) (g_fR (by decide +kernel) rfl) rfl (kz := 6) rfl hO1 ?_
  obtain ⟨M11, hM12⟩ : ∃ Mz, Mz = g_wr M5 a0 6 (some b9) := ⟨_, rfl⟩
  rw [← hM12]
  refine g_Run.ok fun hok13 => ?_
  replace h := h M11 hM12 hok13
  have hx14 := g_extR hM12
  replace hO1 := hO1.up hx14
  refine r_aload_n x_176_42 rfl ?_
  refine r_aload_n x_176_43 rfl ?_
  obtain ⟨b15, hb16, h⟩ := h
  refine r_getR x_176_44 rfl (ci := 10) (k := 4) (ns := 0) (by decide +kernel) (by decide) rfl (kz := 4) rfl hO1 hb16 ?_
  refine r_iload_n x_176_47 rfl ?_
  refine r_iload_n x_176_48 rfl ?_
  refine r_iadd x_176_49 ?_
  obtain ⟨h17, h⟩ := h
  refine r_bipush x_176_50 (x := 9) rfl ?_
  refine r_imul x_176_52 ?_
  obtain ⟨h18, h⟩ := h
  refine r_invS x_176_53 (z := 439) (ns := 0) (by decide +kernel) (as := [.ref b15, g_n ((v2 + w0) * 9)]) (r := [.ref a0]) rfl rfl rfl ?_
  refine r_callR h fun o22 M19 hx20 hok21 h => ?_
  replace h := h hx20 hok21
  obtain ⟨b23, hb24, h⟩ := h
  subst hb24
  replace hO1 := hO1.up hx20
  refine r_putR x_176_56 (o := (some b23)) (ci := 10) (k := 4) (ns := 0) (by decide +kernel) (by decide) (g_fR (by decide +kernel) rfl) rfl (kz := 4) rfl hO1 ?_
  obtain ⟨M25, hM26⟩ : ∃ Mz, Mz = g_wr M19 a0 4 (some b23) := ⟨_, rfl⟩
  rw [← hM26]
  refine g_Run.ok fun hok27 => ?_
  replace h := h M25 hM26 hok27
  have hx28 := g_extR hM26
  replace hO1 := hO1.up hx28
  refine r_aload_n x_176_59 rfl ?_
  refine r_aload_n x_176_60 rfl ?_
  obtain ⟨b29, hb30, h⟩ := h
  refine r_getR x_176_61 rfl (ci := 10) (k := 5) (ns := 0) (by decide +kernel) (by decide) rfl (kz := 5) rfl hO1 hb30 ?_
  refine r_iload_n x_176_64 rfl ?_
  refine r_iload_n x_176_65 rfl ?_
  refine r_iadd x_176_66 ?_
  obtain ⟨h31, h⟩ := h
  refine r_bipush x_176_67 (x := 9) rfl ?_
  refine r_imul x_176_69 ?_
  obtain ⟨h32, h⟩ := h
  refine r_invS x_176_70 (z := 439) (ns := 0) (by decide +kernel) (as := [.ref b29, g_n ((v2 + w0) * 9)]) (r := [.ref a0]) rfl rfl rfl ?_
  refine r_callR h fun o36 M33 hx34 hok35 h => ?_
  replace h := h hx34 hok35
  obtain ⟨b37, hb38, h⟩ := h
  subst hb38
  replace hO1 := hO1.up hx34
  refine r_putR x_176_73 (o := (some b37)) (ci := 10) (k := 5) (ns := 0) (by decide +kernel) (by decide) (g_fR (by decide +kernel) rfl) rfl (kz := 5) rfl hO1 ?_
  obtain ⟨M39, hM40⟩ : ∃ Mz, Mz = g_wr M33 a0 5 (some b37) := ⟨_, rfl⟩
  rw [← hM40]
  refine g_Run.ok fun hok41 => ?_
  replace h := h M39 hM40 hok41
  have hx42 := g_extR hM40
  replace hO1 := hO1.up hx42
  refine r_aload_n x_176_76 rfl ?_
  refine r_aload_n x_176_77 rfl ?_
  obtain ⟨b43, hb44, h⟩ := h
  refine r_getR x_176_78 rfl (ci := 10) (k := 8) (ns := 0) (by decide +kernel) (by decide) rfl (kz := 8) rfl hO1 hb44 ?_
  refine r_iload_n x_176_81 rfl ?_
  refine r_iload_n x_176_82 rfl ?_
  refine r_iadd x_176_83 ?_
  obtain ⟨h45, h⟩ := h
  refine r_invS x_176_84 (z := 439) (ns := 0) (by decide +kernel) (as := [.ref b43, g_n (v2 + w0)]) (r := [.ref a0]) rfl rfl rfl ?_
  refine r_callR h fun o49 M46 hx47 hok48 h => ?_
  replace h := h hx47 hok48
  obtain ⟨b50, hb51, h⟩ := h
  subst hb51
  replace hO1 := hO1.up hx47
  refine r_putR x_176_87 (o := (some b50)) (ci := 10) (k := 8) (ns := 0) (by decide +kernel) (by decide) (g_fR (by decide +kernel) rfl) rfl (kz := 8) rfl hO1 ?_
  obtain ⟨M52, hM53⟩ : ∃ Mz, Mz = g_wr M46 a0 8 (some b50) := ⟨_, rfl⟩
  rw [← hM53]
  refine g_Run.ok fun hok54 => ?_
  replace h := h M52 hM53 hok54
  have hx55 := g_extR hM53
  replace hO1 := hO1.up hx55
  refine r_iload_n x_176_90 rfl ?_
  refine r_iload_n x_176_91 rfl ?_
  refine r_iadd x_176_92 ?_
  obtain ⟨h56, h⟩ := h
  obtain ⟨h57, h⟩ := h
  refine r_newa x_176_93 (t := 2) rfl (by decide) h56 h57.1 h57.2 ?_
  obtain ⟨M58, hM59⟩ : ∃ Mz, Mz = g_nw M52 2 (v2 + w0).toNat := ⟨_, rfl⟩
  rw [← hM59]
  refine g_Run.ok fun hok60 => ?_
  replace h := h M58 hM59 hok60
  have hx61 := g_extN hM59
  replace hO1 := hO1.up hx61
  refine r_astore x_176_95 (o := (some (2 * (M52).1.length))) (by decide +kernel) rfl (lv1 := [(0, .ref a0), (1, g_n v1), (2, g_n v2), (3, g_n w0), (4, .ref (2 * (M52).1.length))]) rfl ?_
  refine r_iconst x_176_97 ?_
  refine r_istore x_176_98 (by decide +kernel) rfl (lv1 := [(0, .ref a0), (1, g_n v1), (2, g_n v2), (3, g_n w0), (4, .ref (2 * (M52).1.length)), (5, g_n 0)]) rfl ?_
  exact h
theorem s_X10_newNode_100 {d : Nat} {M : g_M} {Q : Int → g_M → Prop} {a0 : Nat} {v1 : Int} (hv1 : g_InR v1) {v2 : Int} (hv2 : g_InR v2) {v3 : Int} (hv3 : g_InR v3) {a4 : Nat} {v5 : Int} (hv5 : g_InR v5) (h : g_ok M → ((v5 < v2 → g_O M a0 10 ∧ ∃ b9, g_r M a0 7 = some b9 ∧ ∃ n11, g_A M b9 2 n11 ∧ g_InR n11 ∧ ((v5 < n11 → ∃ b20, g_r M a0 7 = some b20 ∧ ∃ n22, g_A M b20 2 n22 ∧ ((0 : Int) ≤ v5 ∧ (v5 : Int) < n22) ∧ ∃ n25, g_A M a4 2 n25 ∧ ((0 : Int) ≤ v5 ∧ (v5 : Int) < n25) ∧ (g_i M b20 v5 = 0 ∨ g_i M b20 v5 = 1) ∧ (∀ M29, M29 = g_wi M a4 v5 (g_i M b20 v5) → g_ok M29 → g_InR (v5 + 1) ∧ g_Run d 176 100 [(0, .ref a0), (1, g_n v1), (2, g_n v2), (3, g_n v3), (4, .ref a4), (5, g_n (v5 + 1))] [] M29 (g_qI Q))) ∧ (¬ v5 < n11 → (∀ M14, M14 = g_wr M a0 7 (some a4) → g_ok M14 → g_InR (v2 + v3) ∧ g_InR ((v2 + v3) - 1) ∧ g_Run d 176 147 [(0, .ref a0), (1, g_n v1), (2, g_n v2), (3, g_n v3), (4, .ref a4), (5, g_n ((v2 + v3) - 1))] [] M14 (g_qI Q))))) ∧ (¬ v5 < v2 → g_O M a0 10 ∧ (∀ M2, M2 = g_wr M a0 7 (some a4) → g_ok M2 → g_InR (v2 + v3) ∧ g_InR ((v2 + v3) - 1) ∧ g_Run d 176 147 [(0, .ref a0), (1, g_n v1), (2, g_n v2), (3, g_n v3), (4, .ref a4), (5, g_n ((v2 + v3) - 1))] [] M2 (g_qI Q))))) : g_Run d 176 100 [(0, .ref a0), (1, g_n v1), (2, g_n v2), (3, g_n v3), (4, .ref a4), (5, g_n v5)] [] M (g_qI Q) := by
  refine g_Run.ok fun hok => ?_
  replace h := h hok
  refine r_iload x_176_100 rfl ?_
  refine r_iload_n x_176_102 rfl ?_
  refine r_ic_ge x_176_103 (t := 134) (by decide +kernel) hv5 hv2 (fun hc => ?_) (fun hc => ?_)
  · replace h := h.2 hc
    refine r_aload_n x_176_134 rfl ?_
    refine r_aload x_176_135 rfl ?_
    obtain ⟨hO1, h⟩ := h
    refine r_putR x_176_137 (o := (some a4)) (ci := 10) (k := 7) (ns := 0) (by decide +kernel) (by decide) (g_fR (by decide +kernel) rfl) rfl (kz := 7) rfl hO1 ?_
    obtain ⟨M2, hM3⟩ : ∃ Mz, Mz = g_wr M a0 7 (some a4) := ⟨_, rfl⟩
    rw [← hM3]
    refine g_Run.ok fun hok4 => ?_
    replace h := h M2 hM3 hok4
    have hx5 := g_extR hM3
    replace hO1 := hO1.up hx5
    refine r_iload_n x_176_140 rfl ?_
    refine r_iload_n x_176_141 rfl ?_
    refine r_iadd x_176_142 ?_
    obtain ⟨h6, h⟩ := h
    refine r_iconst x_176_143 ?_
    refine r_isub x_176_144 ?_
    obtain ⟨h7, h⟩ := h
    refine r_istore x_176_145 (by decide +kernel) rfl (lv1 := [(0, .ref a0), (1, g_n v1), (2, g_n v2), (3, g_n v3), (4, .ref a4), (5, g_n ((v2 + v3) - 1))]) rfl ?_
    exact h
  · replace h := h.1 hc
    refine r_iload x_176_106 rfl ?_
    refine r_aload_n x_176_108 rfl ?_
    obtain ⟨hO8, h⟩ := h
    obtain ⟨b9, hb10, h⟩ := h
    refine r_getR x_176_109 rfl (ci := 10) (k := 7) (ns := 0) (by decide +kernel) (by decide) rfl (kz := 7) rfl hO8 hb10 ?_
    obtain ⟨n11, hA12, h⟩ := h
    refine r_alen x_176_112 hA12 ?_
    obtain ⟨h13, h⟩ := h
    refine r_ic_ge x_176_113 (t := 134) (by decide +kernel) hv5 h13 (fun hc => ?_) (fun hc => ?_)
    · replace h := h.2 hc
      refine r_aload_n x_176_134 rfl ?_
      refine r_aload x_176_135 rfl ?_
      refine r_putR x_176_137 (o := (some a4)) (ci := 10) (k := 7) (ns := 0) (by decide +kernel) (by decide) (g_fR (by decide +kernel) rfl) rfl (kz := 7) rfl hO8 ?_
      obtain ⟨M14, hM15⟩ : ∃ Mz, Mz = g_wr M a0 7 (some a4) := ⟨_, rfl⟩
      rw [← hM15]
      refine g_Run.ok fun hok16 => ?_
      replace h := h M14 hM15 hok16
      have hx17 := g_extR hM15
      replace hO8 := hO8.up hx17
      replace hA12 := hA12.up hx17
      refine r_iload_n x_176_140 rfl ?_
      refine r_iload_n x_176_141 rfl ?_
      refine r_iadd x_176_142 ?_
      obtain ⟨h18, h⟩ := h
      refine r_iconst x_176_143 ?_
      refine r_isub x_176_144 ?_
      obtain ⟨h19, h⟩ := h
      refine r_istore x_176_145 (by decide +kernel) rfl (lv1 := [(0, .ref a0), (1, g_n v1), (2, g_n v2), (3, g_n v3), (4, .ref a4), (5, g_n ((v2 + v3) - 1))]) rfl ?_
      exact h
    · replace h := h.1 hc
      refine r_aload x_176_116 rfl ?_
      refine r_iload x_176_118 rfl ?_
      refine r_aload_n x_176_120 rfl ?_
      obtain ⟨b20, hb21, h⟩ := h
      refine r_getR x_176_121 rfl (ci := 10) (k := 7) (ns := 0) (by decide +kernel) (by decide) rfl (kz := 7) rfl hO8 hb21 ?_
      refine r_iload x_176_124 rfl ?_
      obtain ⟨n22, hA23, h⟩ := h
      obtain ⟨h24, h⟩ := h
      refine r_bald x_176_126 (Or.inr rfl) hA23 hv5 h24.1 h24.2 ?_
      obtain ⟨n25, hA26, h⟩ := h
      obtain ⟨h27, h⟩ := h
      obtain ⟨h28, h⟩ := h
      refine r_bast2 x_176_127 hA26 hv5 h27.1 h27.2 h28 ?_
      obtain ⟨M29, hM30⟩ : ∃ Mz, Mz = g_wi M a4 v5 (g_i M b20 v5) := ⟨_, rfl⟩
      rw [← hM30]
      refine g_Run.ok fun hok31 => ?_
      replace h := h M29 hM30 hok31
      have hx32 := g_extW hM30
      replace hO8 := hO8.up hx32
      replace hA12 := hA12.up hx32
      replace hA23 := hA23.up hx32
      replace hA26 := hA26.up hx32
      obtain ⟨h33, h⟩ := h
      refine r_iinc x_176_128 (by decide +kernel) rfl rfl (lv1 := [(0, .ref a0), (1, g_n v1), (2, g_n v2), (3, g_n v3), (4, .ref a4), (5, g_n (v5 + 1))]) rfl ?_
      refine r_goto x_176_131 (t := 100) (by decide +kernel) ?_
      exact h
theorem s_X10_newNode_147 {d : Nat} {M : g_M} {Q : Int → g_M → Prop} {a0 : Nat} {v1 : Int} (hv1 : g_InR v1) {v2 : Int} (hv2 : g_InR v2) {v3 : Int} (hv3 : g_InR v3) {a4 : Nat} {v5 : Int} (hv5 : g_InR v5) (h : g_ok M → ((v5 < v2 → g_Run d 176 180 [(0, .ref a0), (1, g_n v1)] [] M (g_qI Q)) ∧ (¬ v5 < v2 → g_O M a0 10 ∧ ∃ b2, g_r M a0 8 = some b2 ∧ ∃ n4, g_A M b2 1 n4 ∧ ((0 : Int) ≤ g_i M a0 9 ∧ (g_i M a0 9 : Int) < n4) ∧ (∀ M7, M7 = g_wi M b2 (g_i M a0 9) v5 → g_ok M7 → g_InR ((g_i M7 a0 9) + 1) ∧ (∀ M12, M12 = g_wi M7 a0 9 ((g_i M7 a0 9) + 1) → g_ok M12 → g_InR (v5 + (-1)) ∧ g_Run d 176 147 [(0, .ref a0), (1, g_n v1), (2, g_n v2), (3, g_n v3), (4, .ref a4), (5, g_n (v5 + (-1)))] [] M12 (g_qI Q)))))) : g_Run d 176 147 [(0, .ref a0), (1, g_n v1), (2, g_n v2), (3, g_n v3), (4, .ref a4), (5, g_n v5)] [] M (g_qI Q) := by
  refine g_Run.ok fun hok => ?_
  replace h := h hok
  refine r_iload x_176_147 rfl ?_
  refine r_iload_n x_176_149 rfl ?_
  refine r_ic_lt x_176_150 (t := 180) (by decide +kernel) hv5 hv2 (fun hc => ?_) (fun hc => ?_)
  · replace h := h.1 hc
    refine g_drop [0, 1] (lv1 := [(0, .ref a0), (1, g_n v1)]) rfl ?_
    exact h
  · replace h := h.2 hc
    refine r_aload_n x_176_153 rfl ?_
    obtain ⟨hO1, h⟩ := h
    obtain ⟨b2, hb3, h⟩ := h
    refine r_getR x_176_154 rfl (ci := 10) (k := 8) (ns := 0) (by decide +kernel) (by decide) rfl (kz := 8) rfl hO1 hb3 ?_
    refine r_aload_n x_176_157 rfl ?_
    refine r_getI x_176_158 rfl (ci := 10) (k := 9) (ns := 0) (by decide +kernel) (by decide) rfl (kz := 9) rfl hO1 ?_
    refine r_iload x_176_161 rfl ?_
    obtain ⟨n4, hA5, h⟩ := h
    obtain ⟨h6, h⟩ := h
    refine r_iast x_176_163 hA5 (hok.1 _ _) h6.1 h6.2 hv5 ?_
    obtain ⟨M7, hM8⟩ : ∃ Mz, Mz = g_wi M b2 (g_i M a0 9) v5 := ⟨_, rfl⟩
    rw [← hM8]
    refine g_Run.ok fun hok9 => ?_
    replace h := h M7 hM8 hok9
    have hx10 := g_extW hM8
    replace hO1 := hO1.up hx10
    replace hA5 := hA5.up hx10
    refine r_aload_n x_176_164 rfl ?_
    refine r_dup x_176_165 rfl ?_
    refine r_getI x_176_166 rfl (ci := 10) (k := 9) (ns := 0) (by decide +kernel) (by decide) rfl (kz := 9) rfl hO1 ?_
    refine r_iconst x_176_169 ?_
    refine r_iadd x_176_170 ?_
    obtain ⟨h11, h⟩ := h
    refine r_putI x_176_171 (ci := 10) (k := 9) (ns := 0) (by decide +kernel) (by decide) (g_f0 (by decide +kernel)) rfl h11 trivial (kz := 9) rfl hO1 ?_
    obtain ⟨M12, hM13⟩ : ∃ Mz, Mz = g_wi M7 a0 9 ((g_i M7 a0 9) + 1) := ⟨_, rfl⟩
    rw [← hM13]
    refine g_Run.ok fun hok14 => ?_
    replace h := h M12 hM13 hok14
    have hx15 := g_extW hM13
    replace hO1 := hO1.up hx15
    replace hA5 := hA5.up hx15
    obtain ⟨h16, h⟩ := h
    refine r_iinc x_176_174 (by decide +kernel) rfl rfl (lv1 := [(0, .ref a0), (1, g_n v1), (2, g_n v2), (3, g_n v3), (4, .ref a4), (5, g_n (v5 + (-1)))]) rfl ?_
    refine r_goto x_176_177 (t := 147) (by decide +kernel) ?_
    exact h
theorem s_X10_newNode_180 {d : Nat} {M : g_M} {Q : Int → g_M → Prop} {a0 : Nat} {v1 : Int} (hv1 : g_InR v1) (h : g_ok M → g_O M a0 10 ∧ g_InR ((g_i M a0 9) - 1) ∧ (∀ M3, M3 = g_wi M a0 9 ((g_i M a0 9) - 1) → g_ok M3 → ∃ b7, g_r M3 a0 8 = some b7 ∧ ∃ n9, g_A M3 b7 1 n9 ∧ ((0 : Int) ≤ g_i M3 a0 9 ∧ (g_i M3 a0 9 : Int) < n9) ∧ ∃ b12, g_r M3 a0 6 = some b12 ∧ ∃ n14, g_A M3 b12 1 n14 ∧ ((0 : Int) ≤ g_i M3 b7 (g_i M3 a0 9) ∧ (g_i M3 b7 (g_i M3 a0 9) : Int) < n14) ∧ (∀ M17, M17 = g_wi M3 b12 (g_i M3 b7 (g_i M3 a0 9)) 0 → g_ok M17 → ∃ b21, g_r M17 a0 7 = some b21 ∧ ∃ n23, g_A M17 b21 2 n23 ∧ ((0 : Int) ≤ g_i M3 b7 (g_i M3 a0 9) ∧ (g_i M3 b7 (g_i M3 a0 9) : Int) < n23) ∧ (v1 = 0 ∨ v1 = 1) ∧ (∀ M27, M27 = g_wi M17 b21 (g_i M3 b7 (g_i M3 a0 9)) v1 → g_ok M27 → g_InR ((g_i M27 a0 17) + 1) ∧ (∀ M32, M32 = g_wi M27 a0 17 ((g_i M27 a0 17) + 1) → g_ok M32 → ((v1 = 0 → g_InR ((g_i M32 a0 16) + 0) ∧ (∀ M37, M37 = g_wi M32 a0 16 ((g_i M32 a0 16) + 0) → g_ok M37 → Q (g_i M3 b7 (g_i M3 a0 9)) M37)) ∧ (¬ v1 = 0 → g_InR ((g_i M32 a0 16) + 1) ∧ (∀ M42, M42 = g_wi M32 a0 16 ((g_i M32 a0 16) + 1) → g_ok M42 → Q (g_i M3 b7 (g_i M3 a0 9)) M42)))))))) : g_Run d 176 180 [(0, .ref a0), (1, g_n v1)] [] M (g_qI Q) := by
  refine g_Run.ok fun hok => ?_
  replace h := h hok
  refine r_aload_n x_176_180 rfl ?_
  refine r_dup x_176_181 rfl ?_
  obtain ⟨hO1, h⟩ := h
  refine r_getI x_176_182 rfl (ci := 10) (k := 9) (ns := 0) (by decide +kernel) (by decide) rfl (kz := 9) rfl hO1 ?_
  refine r_iconst x_176_185 ?_
  refine r_isub x_176_186 ?_
  obtain ⟨h2, h⟩ := h
  refine r_putI x_176_187 (ci := 10) (k := 9) (ns := 0) (by decide +kernel) (by decide) (g_f0 (by decide +kernel)) rfl h2 trivial (kz := 9) rfl hO1 ?_
  obtain ⟨M3, hM4⟩ : ∃ Mz, Mz = g_wi M a0 9 ((g_i M a0 9) - 1) := ⟨_, rfl⟩
  rw [← hM4]
  refine g_Run.ok fun hok5 => ?_
  replace h := h M3 hM4 hok5
  have hx6 := g_extW hM4
  replace hO1 := hO1.up hx6
  refine r_aload_n x_176_190 rfl ?_
  obtain ⟨b7, hb8, h⟩ := h
  refine r_getR x_176_191 rfl (ci := 10) (k := 8) (ns := 0) (by decide +kernel) (by decide) rfl (kz := 8) rfl hO1 hb8 ?_
  refine r_aload_n x_176_194 rfl ?_
  refine r_getI x_176_195 rfl (ci := 10) (k := 9) (ns := 0) (by decide +kernel) (by decide) rfl (kz := 9) rfl hO1 ?_
  obtain ⟨n9, hA10, h⟩ := h
  obtain ⟨h11, h⟩ := h
  refine r_iald x_176_198 hA10 (hok5.1 _ _) h11.1 h11.2 ?_
  refine r_istore_n x_176_199 (by decide +kernel) rfl (lv1 := [(0, .ref a0), (1, g_n v1), (2, g_n (g_i M3 b7 (g_i M3 a0 9)))]) rfl ?_
  refine r_aload_n x_176_200 rfl ?_
  obtain ⟨b12, hb13, h⟩ := h
  refine r_getR x_176_201 rfl (ci := 10) (k := 6) (ns := 0) (by decide +kernel) (by decide) rfl (kz := 6) rfl hO1 hb13 ?_
  refine r_iload_n x_176_204 rfl ?_
  refine r_iconst x_176_205 ?_
  obtain ⟨n14, hA15, h⟩ := h
  obtain ⟨h16, h⟩ := h
  refine r_iast x_176_206 hA15 (hok5.1 _ _) h16.1 h16.2 (g_Rk rfl) ?_
  obtain ⟨M17, hM18⟩ : ∃ Mz, Mz = g_wi M3 b12 (g_i M3 b7 (g_i M3 a0 9)) 0 := ⟨_, rfl⟩
  rw [← hM18]
  refine g_Run.ok fun hok19 => ?_
  replace h := h M17 hM18 hok19
  have hx20 := g_extW hM18
  replace hO1 := hO1.up hx20
  replace hA10 := hA10.up hx20
  replace hA15 := hA15.up hx20
  refine r_aload_n x_176_207 rfl ?_
  obtain ⟨b21, hb22, h⟩ := h
  refine r_getR x_176_208 rfl (ci := 10) (k := 7) (ns := 0) (by decide +kernel) (by decide) rfl (kz := 7) rfl hO1 hb22 ?_
  refine r_iload_n x_176_211 rfl ?_
  refine r_iload_n x_176_212 rfl ?_
  obtain ⟨n23, hA24, h⟩ := h
  obtain ⟨h25, h⟩ := h
  obtain ⟨h26, h⟩ := h
  refine r_bast2 x_176_213 hA24 (hok5.1 _ _) h25.1 h25.2 h26 ?_
  obtain ⟨M27, hM28⟩ : ∃ Mz, Mz = g_wi M17 b21 (g_i M3 b7 (g_i M3 a0 9)) v1 := ⟨_, rfl⟩
  rw [← hM28]
  refine g_Run.ok fun hok29 => ?_
  replace h := h M27 hM28 hok29
  have hx30 := g_extW hM28
  replace hO1 := hO1.up hx30
  replace hA10 := hA10.up hx30
  replace hA15 := hA15.up hx30
  replace hA24 := hA24.up hx30
  refine r_aload_n x_176_214 rfl ?_
  refine r_dup x_176_215 rfl ?_
  refine r_getI x_176_216 rfl (ci := 10) (k := 17) (ns := 0) (by decide +kernel) (by decide) rfl (kz := 17) rfl hO1 ?_
  refine r_iconst x_176_219 ?_
  refine r_iadd x_176_220 ?_
  obtain ⟨h31, h⟩ := h
  refine r_putI x_176_221 (ci := 10) (k := 17) (ns := 0) (by decide +kernel) (by decide) (g_f0 (by decide +kernel)) rfl h31 trivial (kz := 17) rfl hO1 ?_
  obtain ⟨M32, hM33⟩ : ∃ Mz, Mz = g_wi M27 a0 17 ((g_i M27 a0 17) + 1) := ⟨_, rfl⟩
  rw [← hM33]
  refine g_Run.ok fun hok34 => ?_
  replace h := h M32 hM33 hok34
  have hx35 := g_extW hM33
  replace hO1 := hO1.up hx35
  replace hA10 := hA10.up hx35
  replace hA15 := hA15.up hx35
  replace hA24 := hA24.up hx35
  refine r_aload_n x_176_224 rfl ?_
  refine r_dup x_176_225 rfl ?_
  refine r_getI x_176_226 rfl (ci := 10) (k := 16) (ns := 0) (by decide +kernel) (by decide) rfl (kz := 16) rfl hO1 ?_
  refine r_iload_n x_176_229 rfl ?_
  refine r_if_eq x_176_230 (t := 237) (by decide +kernel) hv1 (fun hc => ?_) (fun hc => ?_)
  · replace h := h.1 hc
    refine r_iconst x_176_237 ?_
    refine r_iadd x_176_238 ?_
    obtain ⟨h36, h⟩ := h
    refine r_putI x_176_239 (ci := 10) (k := 16) (ns := 0) (by decide +kernel) (by decide) (g_f0 (by decide +kernel)) rfl h36 trivial (kz := 16) rfl hO1 ?_
    obtain ⟨M37, hM38⟩ : ∃ Mz, Mz = g_wi M32 a0 16 ((g_i M32 a0 16) + 0) := ⟨_, rfl⟩
    rw [← hM38]
    refine g_Run.ok fun hok39 => ?_
    replace h := h M37 hM38 hok39
    have hx40 := g_extW hM38
    replace hO1 := hO1.up hx40
    replace hA10 := hA10.up hx40
    replace hA15 := hA15.up hx40
    replace hA24 := hA24.up hx40
    refine r_iload_n x_176_242 rfl ?_
    exact r_retI x_176_243 rfl (hok5.1 _ _) h
  · replace h := h.2 hc
    refine r_iconst x_176_233 ?_
    refine r_goto x_176_234 (t := 238) (by decide +kernel) ?_
    refine r_iadd x_176_238 ?_
    obtain ⟨h41, h⟩ := h
    refine r_putI x_176_239 (ci := 10) (k := 16) (ns := 0) (by decide +kernel) (by decide) (g_f0 (by decide +kernel)) rfl h41 trivial (kz := 16) rfl hO1 ?_
    obtain ⟨M42, hM43⟩ : ∃ Mz, Mz = g_wi M32 a0 16 ((g_i M32 a0 16) + 1) := ⟨_, rfl⟩
    rw [← hM43]
    refine g_Run.ok fun hok44 => ?_
    replace h := h M42 hM43 hok44
    have hx45 := g_extW hM43
    replace hO1 := hO1.up hx45
    replace hA10 := hA10.up hx45
    replace hA15 := hA15.up hx45
    replace hA24 := hA24.up hx45
    refine r_iload_n x_176_242 rfl ?_
    exact r_retI x_176_243 rfl (hok5.1 _ _) h
theorem m_X10_freeNode {d : Nat} {M : g_M} {Q : g_M → Prop} {a0 : Nat} {v1 : Int} (hv1 : g_InR v1) (h : g_ok M → g_O M a0 10 ∧ g_InR ((g_i M a0 17) - 1) ∧ (∀ M3, M3 = g_wi M a0 17 ((g_i M a0 17) - 1) → g_ok M3 → ∃ b7, g_r M3 a0 7 = some b7 ∧ ∃ n9, g_A M3 b7 2 n9 ∧ ((0 : Int) ≤ v1 ∧ (v1 : Int) < n9) ∧ ((g_i M3 b7 v1 = 0 → g_Run d 177 29 [(0, .ref a0), (1, g_n v1)] [g_n 0, g_n (g_i M3 a0 16), .ref a0] M3 (g_qV Q)) ∧ (¬ g_i M3 b7 v1 = 0 → g_Run d 177 29 [(0, .ref a0), (1, g_n v1)] [g_n 1, g_n (g_i M3 a0 16), .ref a0] M3 (g_qV Q))))) : g_Call (d + 1) 177 [.ref a0, g_n v1] M (g_qV Q) := by
  refine g_Call.ok fun hok0 => ?_
  replace h := h hok0
  refine r_body rfl (lv := [(0, .ref a0), (1, g_n v1)]) rfl ?_
  refine g_Run.ok fun hok => ?_
  refine r_aload_n x_177_0 rfl ?_
  refine r_dup x_177_1 rfl ?_
  obtain ⟨hO1, h⟩ := h
  refine r_getI x_177_2 rfl (ci := 10) (k := 17) (ns := 0) (by decide +kernel) (by decide) rfl (kz := 17) rfl hO1 ?_
  refine r_iconst x_177_5 ?_
  refine r_isub x_177_6 ?_
  obtain ⟨h2, h⟩ := h
  refine r_putI x_177_7 (ci := 10) (k := 17) (ns := 0) (by decide +kernel) (by decide) (g_f0 (by decide +kernel)) rfl h2 trivial (kz := 17) rfl hO1 ?_
  obtain ⟨M3, hM4⟩ : ∃ Mz, Mz = g_wi M a0 17 ((g_i M a0 17) - 1) := ⟨_, rfl⟩
  rw [← hM4]
  refine g_Run.ok fun hok5 => ?_
  replace h := h M3 hM4 hok5
  have hx6 := g_extW hM4
  replace hO1 := hO1.up hx6
  refine r_aload_n x_177_10 rfl ?_
  refine r_dup x_177_11 rfl ?_
  refine r_getI x_177_12 rfl (ci := 10) (k := 16) (ns := 0) (by decide +kernel) (by decide) rfl (kz := 16) rfl hO1 ?_
  refine r_aload_n x_177_15 rfl ?_
  obtain ⟨b7, hb8, h⟩ := h
  refine r_getR x_177_16 rfl (ci := 10) (k := 7) (ns := 0) (by decide +kernel) (by decide) rfl (kz := 7) rfl hO1 hb8 ?_
  refine r_iload_n x_177_19 rfl ?_
  obtain ⟨n9, hA10, h⟩ := h
  obtain ⟨h11, h⟩ := h
  refine r_bald x_177_20 (Or.inr rfl) hA10 hv1 h11.1 h11.2 ?_
  refine r_if_eq x_177_21 (t := 28) (by decide +kernel) (hok5.1 _ _) (fun hc => ?_) (fun hc => ?_)
  · replace h := h.1 hc
    refine r_iconst x_177_28 ?_
    exact h
  · replace h := h.2 hc
    refine r_iconst x_177_24 ?_
    refine r_goto x_177_25 (t := 29) (by decide +kernel) ?_
    exact h
theorem s_X10_freeNode_29 {d : Nat} {M : g_M} {Q : g_M → Prop} {a0 : Nat} {v1 : Int} (hv1 : g_InR v1) {w0 : Int} (hw0 : g_InR w0) {w1 : Int} (hw1 : g_InR w1) {c2 : Nat} (h : g_ok M → g_InR (w1 - w0) ∧ g_O M c2 10 ∧ (∀ M3, M3 = g_wi M c2 16 (w1 - w0) → g_ok M3 → g_O M3 a0 10 ∧ ∃ b8, g_r M3 a0 8 = some b8 ∧ ∃ n10, g_A M3 b8 1 n10 ∧ g_InR n10 ∧ ((g_i M3 a0 9 < n10 → ∃ b13, g_r M3 a0 8 = some b13 ∧ ∃ n15, g_A M3 b13 1 n15 ∧ ((0 : Int) ≤ g_i M3 a0 9 ∧ (g_i M3 a0 9 : Int) < n15) ∧ (∀ M18, M18 = g_wi M3 b13 (g_i M3 a0 9) v1 → g_ok M18 → g_InR ((g_i M18 a0 9) + 1) ∧ (∀ M23, M23 = g_wi M18 a0 9 ((g_i M18 a0 9) + 1) → g_ok M23 → Q M23))) ∧ (¬ g_i M3 a0 9 < n10 → Q M3)))) : g_Run d 177 29 [(0, .ref a0), (1, g_n v1)] [g_n w0, g_n w1, .ref c2] M (g_qV Q) := by
  refine g_Run.ok fun hok => ?_
  replace h := h hok
  refine r_isub x_177_29 ?_
  obtain ⟨h1, h⟩ := h
  obtain ⟨hO2, h⟩ := h
  refine r_putI x_177_30 (ci := 10) (k := 16) (ns := 0) (by decide +kernel) (by decide) (g_f0 (by decide +kernel)) rfl h1 trivial (kz := 16) rfl hO2 ?_
  obtain ⟨M3, hM4⟩ : ∃ Mz, Mz = g_wi M c2 16 (w1 - w0) := ⟨_, rfl⟩
  rw [← hM4]
  refine g_Run.ok fun hok5 => ?_
  replace h := h M3 hM4 hok5
  have hx6 := g_extW hM4
  replace hO2 := hO2.up hx6
  refine r_aload_n x_177_33 rfl ?_
  obtain ⟨hO7, h⟩ := h
  refine r_getI x_177_34 rfl (ci := 10) (k := 9) (ns := 0) (by decide +kernel) (by decide) rfl (kz := 9) rfl hO7 ?_
  refine r_aload_n x_177_37 rfl ?_
  obtain ⟨b8, hb9, h⟩ := h
  refine r_getR x_177_38 rfl (ci := 10) (k := 8) (ns := 0) (by decide +kernel) (by decide) rfl (kz := 8) rfl hO7 hb9 ?_
  obtain ⟨n10, hA11, h⟩ := h
  refine r_alen x_177_41 hA11 ?_
  obtain ⟨h12, h⟩ := h
  refine r_ic_ge x_177_42 (t := 65) (by decide +kernel) (hok5.1 _ _) h12 (fun hc => ?_) (fun hc => ?_)
  · replace h := h.2 hc
    exact r_retV x_177_65 rfl h
  · replace h := h.1 hc
    refine r_aload_n x_177_45 rfl ?_
    obtain ⟨b13, hb14, h⟩ := h
    refine r_getR x_177_46 rfl (ci := 10) (k := 8) (ns := 0) (by decide +kernel) (by decide) rfl (kz := 8) rfl hO7 hb14 ?_
    refine r_aload_n x_177_49 rfl ?_
    refine r_getI x_177_50 rfl (ci := 10) (k := 9) (ns := 0) (by decide +kernel) (by decide) rfl (kz := 9) rfl hO7 ?_
    refine r_iload_n x_177_53 rfl ?_
    obtain ⟨n15, hA16, h⟩ := h
    obtain ⟨h17, h⟩ := h
    refine r_iast x_177_54 hA16 (hok5.1 _ _) h17.1 h17.2 hv1 ?_
    obtain ⟨M18, hM19⟩ : ∃ Mz, Mz = g_wi M3 b13 (g_i M3 a0 9) v1 := ⟨_, rfl⟩
    rw [← hM19]
    refine g_Run.ok fun hok20 => ?_
    replace h := h M18 hM19 hok20
    have hx21 := g_extW hM19
    replace hO2 := hO2.up hx21
    replace hO7 := hO7.up hx21
    replace hA11 := hA11.up hx21
    replace hA16 := hA16.up hx21
    refine r_aload_n x_177_55 rfl ?_
    refine r_dup x_177_56 rfl ?_
    refine r_getI x_177_57 rfl (ci := 10) (k := 9) (ns := 0) (by decide +kernel) (by decide) rfl (kz := 9) rfl hO7 ?_
    refine r_iconst x_177_60 ?_
    refine r_iadd x_177_61 ?_
    obtain ⟨h22, h⟩ := h
    refine r_putI x_177_62 (ci := 10) (k := 9) (ns := 0) (by decide +kernel) (by decide) (g_f0 (by decide +kernel)) rfl h22 trivial (kz := 9) rfl hO7 ?_
    obtain ⟨M23, hM24⟩ : ∃ Mz, Mz = g_wi M18 a0 9 ((g_i M18 a0 9) + 1) := ⟨_, rfl⟩
    rw [← hM24]
    refine g_Run.ok fun hok25 => ?_
    replace h := h M23 hM24 hok25
    have hx26 := g_extW hM24
    replace hO2 := hO2.up hx26
    replace hO7 := hO7.up hx26
    replace hA11 := hA11.up hx26
    replace hA16 := hA16.up hx26
    exact r_retV x_177_65 rfl h
theorem m_X10_fill {d : Nat} {M : g_M} {Q : g_M → Prop} {a0 : Nat} {v1 : Int} (hv1 : g_InR v1) {a2 : Nat} {v3 : Int} (hv3 : g_InR v3) {v4 : Int} (hv4 : g_InR v4) {v5 : Int} (hv5 : g_InR v5) (h : g_ok M → g_O M a0 10 ∧ ∃ b2, g_r M a0 1 = some b2 ∧ ∃ n4, g_A M b2 1 n4 ∧ ((0 : Int) ≤ v1 ∧ (v1 : Int) < n4) ∧ (∀ M7, M7 = g_wi M b2 v1 v5 → g_ok M7 → g_Run d 178 11 [(0, .ref a0), (1, g_n v1), (2, .ref a2), (3, g_n v3), (4, g_n v4), (5, g_n v5), (6, g_n 0)] [] M7 (g_qV Q))) : g_Call (d + 1) 178 [.ref a0, g_n v1, .ref a2, g_n v3, g_n v4, g_n v5] M (g_qV Q) := by
  refine g_Call.ok fun hok0 => ?_
  replace h := h hok0
  refine r_body rfl (lv := [(0, .ref a0), (1, g_n v1), (2, .ref a2), (3, g_n v3), (4, g_n v4), (5, g_n v5)]) rfl ?_
  refine g_Run.ok fun hok => ?_
  refine r_aload_n x_178_0 rfl ?_
  obtain ⟨hO1, h⟩ := h
  obtain ⟨b2, hb3, h⟩ := h
  refine r_getR x_178_1 rfl (ci := 10) (k := 1) (ns := 0) (by decide +kernel) (by decide) rfl (kz := 1) rfl hO1 hb3 ?_
  refine r_iload_n x_178_4 rfl ?_
  refine r_iload x_178_5 rfl ?_
  obtain ⟨n4, hA5, h⟩ := h
  obtain ⟨h6, h⟩ := h
  refine r_iast x_178_7 hA5 hv1 h6.1 h6.2 hv5 ?_
  obtain ⟨M7, hM8⟩ : ∃ Mz, Mz = g_wi M b2 v1 v5 := ⟨_, rfl⟩
  rw [← hM8]
  refine g_Run.ok fun hok9 => ?_
  replace h := h M7 hM8 hok9
  have hx10 := g_extW hM8
  replace hO1 := hO1.up hx10
  replace hA5 := hA5.up hx10
  refine r_iconst x_178_8 ?_
  refine r_istore x_178_9 (by decide +kernel) rfl (lv1 := [(0, .ref a0), (1, g_n v1), (2, .ref a2), (3, g_n v3), (4, g_n v4), (5, g_n v5), (6, g_n 0)]) rfl ?_
  exact h
theorem s_X10_fill_11 {d : Nat} {M : g_M} {Q : g_M → Prop} {a0 : Nat} {v1 : Int} (hv1 : g_InR v1) {a2 : Nat} {v3 : Int} (hv3 : g_InR v3) {v4 : Int} (hv4 : g_InR v4) {v5 : Int} (hv5 : g_InR v5) {v6 : Int} (hv6 : g_InR v6) (h : g_ok M → ((v6 < 2 → ((v6 = 0 → g_Run d 178 28 [(0, .ref a0), (1, g_n v1), (2, .ref a2), (3, g_n v3), (4, g_n v4), (5, g_n v5), (6, g_n v6)] [g_n v3] M (g_qV Q)) ∧ (¬ v6 = 0 → g_Run d 178 28 [(0, .ref a0), (1, g_n v1), (2, .ref a2), (3, g_n v3), (4, g_n v4), (5, g_n v5), (6, g_n v6)] [g_n v4] M (g_qV Q)))) ∧ (¬ v6 < 2 → Q M))) : g_Run d 178 11 [(0, .ref a0), (1, g_n v1), (2, .ref a2), (3, g_n v3), (4, g_n v4), (5, g_n v5), (6, g_n v6)] [] M (g_qV Q) := by
  refine g_Run.ok fun hok => ?_
  replace h := h hok
  refine r_iload x_178_11 rfl ?_
  refine r_iconst x_178_13 ?_
  refine r_ic_ge x_178_14 (t := 109) (by decide +kernel) hv6 (g_Rk rfl) (fun hc => ?_) (fun hc => ?_)
  · replace h := h.2 hc
    exact r_retV x_178_109 rfl h
  · replace h := h.1 hc
    refine r_iload x_178_17 rfl ?_
    refine r_if_ne x_178_19 (t := 26) (by decide +kernel) hv6 (fun hc => ?_) (fun hc => ?_)
    · replace h := h.2 hc
      refine r_iload x_178_26 rfl ?_
      exact h
    · replace h := h.1 hc
      refine r_iload_n x_178_22 rfl ?_
      refine r_goto x_178_23 (t := 28) (by decide +kernel) ?_
      exact h
theorem s_X10_fill_28 {d : Nat} {M : g_M} {Q : g_M → Prop} {a0 : Nat} {v1 : Int} (hv1 : g_InR v1) {a2 : Nat} {v3 : Int} (hv3 : g_InR v3) {v4 : Int} (hv4 : g_InR v4) {v5 : Int} (hv5 : g_InR v5) {v6 : Int} (hv6 : g_InR v6) {w0 : Int} (hw0 : g_InR w0) (h : g_ok M → g_InR (v1 * 132) ∧ g_InR (v6 * 66) ∧ g_InR ((v1 * 132) + (v6 * 66)) ∧ g_Call d 110 [.ref a2, g_n w0] M (g_qI fun r7 M4 => g_ext M M4 → g_ok M4 → g_InR r7 → g_O M4 a0 10 ∧ ∃ b10, g_r M4 a0 0 = some b10 ∧ g_Call d 108 [.ref a2, g_n w0] M4 (g_qI fun r15 M12 => g_ext M4 M12 → g_ok M12 → g_InR r15 → ∃ n17, g_A M12 b10 0 n17 ∧ ((0 : Int) ≤ (v1 * 132) + (v6 * 66) ∧ ((v1 * 132) + (v6 * 66) : Int) < n17) ∧ (∀ M20, M20 = g_wi M12 b10 ((v1 * 132) + (v6 * 66)) (g_w8 (g_w8 r15)) → g_ok M20 → ∃ b24, g_r M20 a0 0 = some b24 ∧ g_InR (((v1 * 132) + (v6 * 66)) + 1) ∧ ∃ n27, g_A M20 b24 0 n27 ∧ ((0 : Int) ≤ ((v1 * 132) + (v6 * 66)) + 1 ∧ (((v1 * 132) + (v6 * 66)) + 1 : Int) < n27) ∧ (∀ M30, M30 = g_wi M20 b24 (((v1 * 132) + (v6 * 66)) + 1) (g_w8 0) → g_ok M30 → ∃ b34, g_r M30 a0 0 = some b34 ∧ g_InR (((v1 * 132) + (v6 * 66)) + 2) ∧ g_Call d 111 [.ref a2, g_n w0] M30 (g_qI fun r40 M37 => g_ext M30 M37 → g_ok M37 → g_InR r40 → g_InR (r40 - r7) ∧ ∃ n43, g_A M37 a2 0 n43 ∧ ∃ n45, g_A M37 b34 0 n45 ∧ ((0 : Int) ≤ r7 ∧ (0 : Int) ≤ ((v1 * 132) + (v6 * 66)) + 2 ∧ (0 : Int) ≤ min (r40 - r7) 64 ∧ (r7 : Int) + (min (r40 - r7) 64) ≤ n43 ∧ ((((v1 * 132) + (v6 * 66)) + 2) : Int) + (min (r40 - r7) 64) ≤ n45) ∧ (∀ M48, M48 = g_cp M37 a2 b34 r7 (((v1 * 132) + (v6 * 66)) + 2) (min (r40 - r7) 64) → g_ok M48 → g_InR (v6 + 1) ∧ g_Run d 178 11 [(0, .ref a0), (1, g_n v1), (2, .ref a2), (3, g_n v3), (4, g_n v4), (5, g_n v5), (6, g_n (v6 + 1))] [] M48 (g_qV Q)))))))) : g_Run d 178 28 [(0, .ref a0), (1, g_n v1), (2, .ref a2), (3, g_n v3), (4, g_n v4), (5, g_n v5), (6, g_n v6)] [g_n w0] M (g_qV Q) := by
  refine g_Run.ok fun hok => ?_
  replace h := h hok
  refine r_istore x_178_28 (by decide +kernel) rfl (lv1 := [(0, .ref a0), (1, g_n v1), (2, .ref a2), (3, g_n v3), (4, g_n v4), (5, g_n v5), (6, g_n v6), (7, g_n w0)]) rfl ?_
  refine r_iload_n x_178_30 rfl ?_
  refine r_sipush x_178_31 (x := 132) rfl ?_
  refine r_imul x_178_34 ?_
  obtain ⟨h1, h⟩ := h
  refine r_iload x_178_35 rfl ?_
  refine r_bipush x_178_37 (x := 66) rfl ?_
  refine r_imul x_178_39 ?_
  obtain ⟨h2, h⟩ := h
  refine r_iadd x_178_40 ?_
  obtain ⟨h3, h⟩ := h
  refine r_istore x_178_41 (by decide +kernel) rfl (lv1 := [(0, .ref a0), (1, g_n v1), (2, .ref a2), (3, g_n v3), (4, g_n v4), (5, g_n v5), (6, g_n v6), (7, g_n w0), (8, g_n ((v1 * 132) + (v6 * 66)))]) rfl ?_
  refine r_aload_n x_178_43 rfl ?_
  refine r_iload x_178_44 rfl ?_
  refine r_invS x_178_46 (z := 110) (ns := 1) (by decide +kernel) (as := [.ref a2, g_n w0]) (r := []) rfl rfl rfl ?_
  refine r_callI h fun r7 M4 hx5 hok6 hr8 h => ?_
  replace h := h hx5 hok6 hr8
  refine r_istore x_178_49 (by decide +kernel) rfl (lv1 := [(0, .ref a0), (1, g_n v1), (2, .ref a2), (3, g_n v3), (4, g_n v4), (5, g_n v5), (6, g_n v6), (7, g_n w0), (8, g_n ((v1 * 132) + (v6 * 66))), (9, g_n r7)]) rfl ?_
  refine r_aload_n x_178_51 rfl ?_
  obtain ⟨hO9, h⟩ := h
  obtain ⟨b10, hb11, h⟩ := h
  refine r_getR x_178_52 rfl (ci := 10) (k := 0) (ns := 0) (by decide +kernel) (by decide) rfl (kz := 0) rfl hO9 hb11 ?_
  refine r_iload x_178_55 rfl ?_
  refine r_aload_n x_178_57 rfl ?_
  refine r_iload x_178_58 rfl ?_
  refine r_invS x_178_60 (z := 108) (ns := 1) (by decide +kernel) (as := [.ref a2, g_n w0]) (r := [g_n ((v1 * 132) + (v6 * 66)), .ref b10]) rfl rfl rfl ?_
  refine r_callI h fun r15 M12 hx13 hok14 hr16 h => ?_
  replace h := h hx13 hok14 hr16
  replace hO9 := hO9.up hx13
  refine r_i2b x_178_63 ?_
  obtain ⟨n17, hA18, h⟩ := h
  obtain ⟨h19, h⟩ := h
  refine r_bast0 x_178_64 hA18 h3 h19.1 h19.2 ?_
  obtain ⟨M20, hM21⟩ : ∃ Mz, Mz = g_wi M12 b10 ((v1 * 132) + (v6 * 66)) (g_w8 (g_w8 r15)) := ⟨_, rfl⟩
  rw [← hM21]
  refine g_Run.ok fun hok22 => ?_
  replace h := h M20 hM21 hok22
  have hx23 := g_extW hM21
  replace hO9 := hO9.up hx23
  replace hA18 := hA18.up hx23
  refine r_aload_n x_178_65 rfl ?_
  obtain ⟨b24, hb25, h⟩ := h
  refine r_getR x_178_66 rfl (ci := 10) (k := 0) (ns := 0) (by decide +kernel) (by decide) rfl (kz := 0) rfl hO9 hb25 ?_
  refine r_iload x_178_69 rfl ?_
  refine r_iconst x_178_71 ?_
  refine r_iadd x_178_72 ?_
  obtain ⟨h26, h⟩ := h
  refine r_iconst x_178_73 ?_
  obtain ⟨n27, hA28, h⟩ := h
  obtain ⟨h29, h⟩ := h
  refine r_bast0 x_178_74 hA28 h26 h29.1 h29.2 ?_
  obtain ⟨M30, hM31⟩ : ∃ Mz, Mz = g_wi M20 b24 (((v1 * 132) + (v6 * 66)) + 1) (g_w8 0) := ⟨_, rfl⟩
  rw [← hM31]
  refine g_Run.ok fun hok32 => ?_
  replace h := h M30 hM31 hok32
  have hx33 := g_extW hM31
  replace hO9 := hO9.up hx33
  replace hA18 := hA18.up hx33
  replace hA28 := hA28.up hx33
  refine r_aload_n x_178_75 rfl ?_
  refine r_iload x_178_76 rfl ?_
  refine r_aload_n x_178_78 rfl ?_
  obtain ⟨b34, hb35, h⟩ := h
  refine r_getR x_178_79 rfl (ci := 10) (k := 0) (ns := 0) (by decide +kernel) (by decide) rfl (kz := 0) rfl hO9 hb35 ?_
  refine r_iload x_178_82 rfl ?_
  refine r_iconst x_178_84 ?_
  refine r_iadd x_178_85 ?_
  obtain ⟨h36, h⟩ := h
  refine r_aload_n x_178_86 rfl ?_
  refine r_iload x_178_87 rfl ?_
  refine r_invS x_178_89 (z := 111) (ns := 1) (by decide +kernel) (as := [.ref a2, g_n w0]) (r := [g_n (((v1 * 132) + (v6 * 66)) + 2), .ref b34, g_n r7, .ref a2]) rfl rfl rfl ?_
  refine r_callI h fun r40 M37 hx38 hok39 hr41 h => ?_
  replace h := h hx38 hok39 hr41
  replace hO9 := hO9.up hx38
  replace hA18 := hA18.up hx38
  replace hA28 := hA28.up hx38
  refine r_iload x_178_92 rfl ?_
  refine r_isub x_178_94 ?_
  obtain ⟨h42, h⟩ := h
  refine r_bipush x_178_95 (x := 64) rfl ?_
  refine r_min x_178_97 rfl rfl rfl rfl h42 (g_Rk rfl) ?_
  obtain ⟨n43, hA44, h⟩ := h
  obtain ⟨n45, hA46, h⟩ := h
  obtain ⟨h47, h⟩ := h
  refine r_copy x_178_100 rfl rfl rfl rfl rfl rfl (by decide) hA44 hA46 hr8 h36 (g_min_R h42 (g_Rk rfl)) h47.1 h47.2.1 h47.2.2.1 h47.2.2.2.1 h47.2.2.2.2 ?_
  obtain ⟨M48, hM49⟩ : ∃ Mz, Mz = g_cp M37 a2 b34 r7 (((v1 * 132) + (v6 * 66)) + 2) (min (r40 - r7) 64) := ⟨_, rfl⟩
  rw [← hM49]
  refine g_Run.ok fun hok50 => ?_
  replace h := h M48 hM49 hok50
  have hx51 := g_extC hM49
  replace hO9 := hO9.up hx51
  replace hA18 := hA18.up hx51
  replace hA28 := hA28.up hx51
  replace hA44 := hA44.up hx51
  replace hA46 := hA46.up hx51
  obtain ⟨h52, h⟩ := h
  refine r_iinc x_178_103 (by decide +kernel) rfl rfl (lv1 := [(0, .ref a0), (1, g_n v1), (2, .ref a2), (3, g_n v3), (4, g_n v4), (5, g_n v5), (6, g_n (v6 + 1)), (7, g_n w0), (8, g_n ((v1 * 132) + (v6 * 66))), (9, g_n r7)]) rfl ?_
  refine r_goto x_178_106 (t := 11) (by decide +kernel) ?_
  refine g_drop [0, 1, 2, 3, 4, 5, 6] (lv1 := [(0, .ref a0), (1, g_n v1), (2, .ref a2), (3, g_n v3), (4, g_n v4), (5, g_n v5), (6, g_n (v6 + 1))]) rfl ?_
  exact h
theorem m_X10_markLike {d : Nat} {M : g_M} {Q : Int → g_M → Prop} {a0 : Nat} {v1 : Int} (hv1 : g_InR v1) (h : g_ok M → g_O M a0 10 ∧ g_Call d 174 [.ref a0] M (g_qI fun r5 M2 => g_ext M M2 → g_ok M2 → g_InR r5 → ∃ b7, g_r M2 a0 0 = some b7 ∧ g_InR (v1 * 132) ∧ ∃ b10, g_r M2 a0 0 = some b10 ∧ g_InR (r5 * 132) ∧ ∃ n13, g_A M2 b7 0 n13 ∧ ∃ n15, g_A M2 b10 0 n15 ∧ ((0 : Int) ≤ v1 * 132 ∧ (0 : Int) ≤ r5 * 132 ∧ (0 : Int) ≤ 132 ∧ ((v1 * 132) : Int) + 132 ≤ n13 ∧ ((r5 * 132) : Int) + 132 ≤ n15) ∧ (∀ M18, M18 = g_cp M2 b7 b10 (v1 * 132) (r5 * 132) 132 → g_ok M18 → ∃ b22, g_r M18 a0 1 = some b22 ∧ ∃ b24, g_r M18 a0 1 = some b24 ∧ ∃ n26, g_A M18 b24 1 n26 ∧ ((0 : Int) ≤ v1 ∧ (v1 : Int) < n26) ∧ ∃ n29, g_A M18 b22 1 n29 ∧ ((0 : Int) ≤ r5 ∧ (r5 : Int) < n29) ∧ (∀ M32, M32 = g_wi M18 b22 r5 (g_i M18 b24 v1) → g_ok M32 → Q r5 M32)))) : g_Call (d + 1) 179 [.ref a0, g_n v1] M (g_qI Q) := by
  refine g_Call.ok fun hok0 => ?_
  replace h := h hok0
  refine r_body rfl (lv := [(0, .ref a0), (1, g_n v1)]) rfl ?_
  refine g_Run.ok fun hok => ?_
  refine r_aload_n x_179_0 rfl ?_
  obtain ⟨hO1, h⟩ := h
  refine r_invV x_179_1 (z := 174) (ns := 0) (by decide +kernel) (as := []) (r := []) rfl rfl rfl hO1 rfl rfl ?_
  refine r_callI h fun r5 M2 hx3 hok4 hr6 h => ?_
  replace h := h hx3 hok4 hr6
  replace hO1 := hO1.up hx3
  refine r_istore_n x_179_4 (by decide +kernel) rfl (lv1 := [(0, .ref a0), (1, g_n v1), (2, g_n r5)]) rfl ?_
  refine r_aload_n x_179_5 rfl ?_
  obtain ⟨b7, hb8, h⟩ := h
  refine r_getR x_179_6 rfl (ci := 10) (k := 0) (ns := 0) (by decide +kernel) (by decide) rfl (kz := 0) rfl hO1 hb8 ?_
  refine r_iload_n x_179_9 rfl ?_
  refine r_sipush x_179_10 (x := 132) rfl ?_
  refine r_imul x_179_13 ?_
  obtain ⟨h9, h⟩ := h
  refine r_aload_n x_179_14 rfl ?_
  obtain ⟨b10, hb11, h⟩ := h
  refine r_getR x_179_15 rfl (ci := 10) (k := 0) (ns := 0) (by decide +kernel) (by decide) rfl (kz := 0) rfl hO1 hb11 ?_
  refine r_iload_n x_179_18 rfl ?_
  refine r_sipush x_179_19 (x := 132) rfl ?_
  refine r_imul x_179_22 ?_
  obtain ⟨h12, h⟩ := h
  refine r_sipush x_179_23 (x := 132) rfl ?_
  obtain ⟨n13, hA14, h⟩ := h
  obtain ⟨n15, hA16, h⟩ := h
  obtain ⟨h17, h⟩ := h
  refine r_copy x_179_26 rfl rfl rfl rfl rfl rfl (by decide) hA14 hA16 h9 h12 (g_Rk rfl) h17.1 h17.2.1 h17.2.2.1 h17.2.2.2.1 h17.2.2.2.2 ?_
  obtain ⟨M18, hM19⟩ : ∃ Mz, Mz = g_cp M2 b7 b10 (v1 * 132) (r5 * 132) 132 := ⟨_, rfl⟩
  rw [← hM19]
  refine g_Run.ok fun hok20 => ?_
  replace h := h M18 hM19 hok20
  have hx21 := g_extC hM19
  replace hO1 := hO1.up hx21
  replace hA14 := hA14.up hx21
  replace hA16 := hA16.up hx21
  refine r_aload_n x_179_29 rfl ?_
  obtain ⟨b22, hb23, h⟩ := h
  refine r_getR x_179_30 rfl (ci := 10) (k := 1) (ns := 0) (by decide +kernel) (by decide) rfl (kz := 1) rfl hO1 hb23 ?_
  refine r_iload_n x_179_33 rfl ?_
  refine r_aload_n x_179_34 rfl ?_
  obtain ⟨b24, hb25, h⟩ := h
  refine r_getR x_179_35 rfl (ci := 10) (k := 1) (ns := 0) (by decide +kernel) (by decide) rfl (kz := 1) rfl hO1 hb25 ?_
  refine r_iload_n x_179_38 rfl ?_
  obtain ⟨n26, hA27, h⟩ := h
  obtain ⟨h28, h⟩ := h
  refine r_iald x_179_39 hA27 hv1 h28.1 h28.2 ?_
  obtain ⟨n29, hA30, h⟩ := h
  obtain ⟨h31, h⟩ := h
  refine r_iast x_179_40 hA30 hr6 h31.1 h31.2 (hok20.1 _ _) ?_
  obtain ⟨M32, hM33⟩ : ∃ Mz, Mz = g_wi M18 b22 r5 (g_i M18 b24 v1) := ⟨_, rfl⟩
  rw [← hM33]
  refine g_Run.ok fun hok34 => ?_
  replace h := h M32 hM33 hok34
  have hx35 := g_extW hM33
  replace hO1 := hO1.up hx35
  replace hA14 := hA14.up hx35
  replace hA16 := hA16.up hx35
  replace hA27 := hA27.up hx35
  replace hA30 := hA30.up hx35
  refine r_iload_n x_179_41 rfl ?_
  exact r_retI x_179_42 rfl hr6 h
theorem m_X10_compareSlots {d : Nat} {M : g_M} {Q : Int → g_M → Prop} {a0 : Nat} {v1 : Int} (hv1 : g_InR v1) {v2 : Int} (hv2 : g_InR v2) (h : g_ok M → g_InR (v1 * 132) ∧ g_InR (v2 * 132) ∧ g_O M a0 10 ∧ ∃ b4, g_r M a0 0 = some b4 ∧ ∃ b6, g_r M a0 0 = some b6 ∧ g_Call d 121 [.ref b4, g_n (v1 * 132), .ref b6, g_n (v2 * 132), g_n 0] M (g_qI fun r11 M8 => g_ext M M8 → g_ok M8 → g_InR r11 → g_InR (r11 * (g_i M8 a0 12)) ∧ ((r11 * (g_i M8 a0 12) = 0 → ∃ b14, g_r M8 a0 0 = some b14 ∧ g_InR ((v1 * 132) + 66) ∧ ∃ b17, g_r M8 a0 0 = some b17 ∧ g_InR ((v2 * 132) + 66) ∧ g_Call d 121 [.ref b14, g_n ((v1 * 132) + 66), .ref b17, g_n ((v2 * 132) + 66), g_n 0] M8 (g_qI fun r23 M20 => g_ext M8 M20 → g_ok M20 → g_InR r23 → g_InR (r23 * (g_i M20 a0 13)) ∧ g_Run d 180 68 [(0, .ref a0), (1, g_n v1), (2, g_n v2), (3, g_n (v1 * 132)), (4, g_n (v2 * 132)), (5, g_n (r23 * (g_i M20 a0 13)))] [] M20 (g_qI Q))) ∧ (¬ r11 * (g_i M8 a0 12) = 0 → g_Run d 180 68 [(0, .ref a0), (1, g_n v1), (2, g_n v2), (3, g_n (v1 * 132)), (4, g_n (v2 * 132)), (5, g_n (r11 * (g_i M8 a0 12)))] [] M8 (g_qI Q))))) : g_Call (d + 1) 180 [.ref a0, g_n v1, g_n v2] M (g_qI Q) := by
  refine g_Call.ok fun hok0 => ?_
  replace h := h hok0
  refine r_body rfl (lv := [(0, .ref a0), (1, g_n v1), (2, g_n v2)]) rfl ?_
  refine g_Run.ok fun hok => ?_
  refine r_iload_n x_180_0 rfl ?_
  refine r_sipush x_180_1 (x := 132) rfl ?_
  refine r_imul x_180_4 ?_
  obtain ⟨h1, h⟩ := h
  refine r_istore_n x_180_5 (by decide +kernel) rfl (lv1 := [(0, .ref a0), (1, g_n v1), (2, g_n v2), (3, g_n (v1 * 132))]) rfl ?_
  refine r_iload_n x_180_6 rfl ?_
  refine r_sipush x_180_7 (x := 132) rfl ?_
  refine r_imul x_180_10 ?_
  obtain ⟨h2, h⟩ := h
  refine r_istore x_180_11 (by decide +kernel) rfl (lv1 := [(0, .ref a0), (1, g_n v1), (2, g_n v2), (3, g_n (v1 * 132)), (4, g_n (v2 * 132))]) rfl ?_
  refine r_aload_n x_180_13 rfl ?_
  obtain ⟨hO3, h⟩ := h
  obtain ⟨b4, hb5, h⟩ := h
  refine r_getR x_180_14 rfl (ci := 10) (k := 0) (ns := 0) (by decide +kernel) (by decide) rfl (kz := 0) rfl hO3 hb5 ?_
  refine r_iload_n x_180_17 rfl ?_
  refine r_aload_n x_180_18 rfl ?_
  obtain ⟨b6, hb7, h⟩ := h
  refine r_getR x_180_19 rfl (ci := 10) (k := 0) (ns := 0) (by decide +kernel) (by decide) rfl (kz := 0) rfl hO3 hb7 ?_
  refine r_iload x_180_22 rfl ?_
  refine r_iconst x_180_24 ?_
  refine r_invS x_180_25 (z := 121) (ns := 1) (by decide +kernel) (as := [.ref b4, g_n (v1 * 132), .ref b6, g_n (v2 * 132), g_n 0]) (r := []) rfl rfl rfl ?_
  refine r_callI h fun r11 M8 hx9 hok10 hr12 h => ?_
  replace h := h hx9 hok10 hr12
  replace hO3 := hO3.up hx9
  refine r_aload_n x_180_28 rfl ?_
  refine r_getI x_180_29 rfl (ci := 10) (k := 12) (ns := 0) (by decide +kernel) (by decide) rfl (kz := 12) rfl hO3 ?_
  refine r_imul x_180_32 ?_
  obtain ⟨h13, h⟩ := h
  refine r_istore x_180_33 (by decide +kernel) rfl (lv1 := [(0, .ref a0), (1, g_n v1), (2, g_n v2), (3, g_n (v1 * 132)), (4, g_n (v2 * 132)), (5, g_n (r11 * (g_i M8 a0 12)))]) rfl ?_
  refine r_iload x_180_35 rfl ?_
  refine r_if_ne x_180_37 (t := 68) (by decide +kernel) h13 (fun hc => ?_) (fun hc => ?_)
  · replace h := h.2 hc
    exact h
  · replace h := h.1 hc
    refine r_aload_n x_180_40 rfl ?_
    obtain ⟨b14, hb15, h⟩ := h
    refine r_getR x_180_41 rfl (ci := 10) (k := 0) (ns := 0) (by decide +kernel) (by decide) rfl (kz := 0) rfl hO3 hb15 ?_
    refine r_iload_n x_180_44 rfl ?_
    refine r_bipush x_180_45 (x := 66) rfl ?_
    refine r_iadd x_180_47 ?_
    obtain ⟨h16, h⟩ := h
    refine r_aload_n x_180_48 rfl ?_
    obtain ⟨b17, hb18, h⟩ := h
    refine r_getR x_180_49 rfl (ci := 10) (k := 0) (ns := 0) (by decide +kernel) (by decide) rfl (kz := 0) rfl hO3 hb18 ?_
    refine r_iload x_180_52 rfl ?_
    refine r_bipush x_180_54 (x := 66) rfl ?_
    refine r_iadd x_180_56 ?_
    obtain ⟨h19, h⟩ := h
    refine r_iconst x_180_57 ?_
    refine r_invS x_180_58 (z := 121) (ns := 1) (by decide +kernel) (as := [.ref b14, g_n ((v1 * 132) + 66), .ref b17, g_n ((v2 * 132) + 66), g_n 0]) (r := []) rfl rfl rfl ?_
    refine r_callI h fun r23 M20 hx21 hok22 hr24 h => ?_
    replace h := h hx21 hok22 hr24
    replace hO3 := hO3.up hx21
    refine r_aload_n x_180_61 rfl ?_
    refine r_getI x_180_62 rfl (ci := 10) (k := 13) (ns := 0) (by decide +kernel) (by decide) rfl (kz := 13) rfl hO3 ?_
    refine r_imul x_180_65 ?_
    obtain ⟨h25, h⟩ := h
    refine r_istore x_180_66 (by decide +kernel) rfl (lv1 := [(0, .ref a0), (1, g_n v1), (2, g_n v2), (3, g_n (v1 * 132)), (4, g_n (v2 * 132)), (5, g_n (r23 * (g_i M20 a0 13)))]) rfl ?_
    exact h
theorem s_X10_compareSlots_68 {d : Nat} {M : g_M} {Q : Int → g_M → Prop} {a0 : Nat} {v1 : Int} (hv1 : g_InR v1) {v2 : Int} (hv2 : g_InR v2) {v3 : Int} (hv3 : g_InR v3) {v4 : Int} (hv4 : g_InR v4) {v5 : Int} (hv5 : g_InR v5) (h : g_ok M → ((v5 = 0 → g_O M a0 10 ∧ ∃ b2, g_r M a0 1 = some b2 ∧ ∃ n4, g_A M b2 1 n4 ∧ ((0 : Int) ≤ v1 ∧ (v1 : Int) < n4) ∧ ∃ b7, g_r M a0 1 = some b7 ∧ ∃ n9, g_A M b7 1 n9 ∧ ((0 : Int) ≤ v2 ∧ (v2 : Int) < n9) ∧ g_Call d 440 [g_n (g_i M b2 v1), g_n (g_i M b7 v2)] M (g_qI fun r15 M12 => g_ext M M12 → g_ok M12 → g_InR r15 → Q r15 M12)) ∧ (¬ v5 = 0 → Q v5 M))) : g_Run d 180 68 [(0, .ref a0), (1, g_n v1), (2, g_n v2), (3, g_n v3), (4, g_n v4), (5, g_n v5)] [] M (g_qI Q) := by
  refine g_Run.ok fun hok => ?_
  replace h := h hok
  refine r_iload x_180_68 rfl ?_
  refine r_if_ne x_180_70 (t := 91) (by decide +kernel) hv5 (fun hc => ?_) (fun hc => ?_)
  · replace h := h.2 hc
    refine r_iload x_180_91 rfl ?_
    exact r_retI x_180_93 rfl hv5 h
  · replace h := h.1 hc
    refine r_aload_n x_180_73 rfl ?_
    obtain ⟨hO1, h⟩ := h
    obtain ⟨b2, hb3, h⟩ := h
    refine r_getR x_180_74 rfl (ci := 10) (k := 1) (ns := 0) (by decide +kernel) (by decide) rfl (kz := 1) rfl hO1 hb3 ?_
    refine r_iload_n x_180_77 rfl ?_
    obtain ⟨n4, hA5, h⟩ := h
    obtain ⟨h6, h⟩ := h
    refine r_iald x_180_78 hA5 hv1 h6.1 h6.2 ?_
    refine r_aload_n x_180_79 rfl ?_
    obtain ⟨b7, hb8, h⟩ := h
    refine r_getR x_180_80 rfl (ci := 10) (k := 1) (ns := 0) (by decide +kernel) (by decide) rfl (kz := 1) rfl hO1 hb8 ?_
    refine r_iload_n x_180_83 rfl ?_
    obtain ⟨n9, hA10, h⟩ := h
    obtain ⟨h11, h⟩ := h
    refine r_iald x_180_84 hA10 hv2 h11.1 h11.2 ?_
    refine r_invS x_180_85 (z := 440) (ns := 0) (by decide +kernel) (as := [g_n (g_i M b2 v1), g_n (g_i M b7 v2)]) (r := []) rfl rfl rfl ?_
    refine r_callI h fun r15 M12 hx13 hok14 hr16 h => ?_
    replace h := h hx13 hok14 hr16
    replace hO1 := hO1.up hx13
    replace hA5 := hA5.up hx13
    replace hA10 := hA10.up hx13
    refine r_goto x_180_88 (t := 93) (by decide +kernel) ?_
    exact r_retI x_180_93 rfl hr16 h
theorem m_X10_levels {d : Nat} {M : g_M} {Q : Int → g_M → Prop} {a0 : Nat} (h : g_ok M → g_O M a0 10 ∧ g_Run d 181 7 [(0, .ref a0), (1, g_n (g_i M a0 14)), (2, g_n 1)] [] M (g_qI Q)) : g_Call (d + 1) 181 [.ref a0] M (g_qI Q) := by
  refine g_Call.ok fun hok0 => ?_
  replace h := h hok0
  refine r_body rfl (lv := [(0, .ref a0)]) rfl ?_
  refine g_Run.ok fun hok => ?_
  refine r_aload_n x_181_0 rfl ?_
  obtain ⟨hO1, h⟩ := h
  refine r_getI x_181_1 rfl (ci := 10) (k := 14) (ns := 0) (by decide +kernel) (by decide) rfl (kz := 14) rfl hO1 ?_
  refine r_istore_n x_181_4 (by decide +kernel) rfl (lv1 := [(0, .ref a0), (1, g_n (g_i M a0 14))]) rfl ?_
  refine r_iconst x_181_5 ?_
  refine r_istore_n x_181_6 (by decide +kernel) rfl (lv1 := [(0, .ref a0), (1, g_n (g_i M a0 14)), (2, g_n 1)]) rfl ?_
  exact h
theorem s_X10_levels_7 {d : Nat} {M : g_M} {Q : Int → g_M → Prop} {a0 : Nat} {v1 : Int} (hv1 : g_InR v1) {v2 : Int} (hv2 : g_InR v2) (h : g_ok M → ((v2 < 16 → g_O M a0 10 ∧ ∃ b2, g_r M a0 7 = some b2 ∧ ∃ n4, g_A M b2 2 n4 ∧ ((0 : Int) ≤ v1 ∧ (v1 : Int) < n4) ∧ ((g_i M b2 v1 = 0 → ∃ b7, g_r M a0 4 = some b7 ∧ g_InR (v1 * 9) ∧ ∃ n10, g_A M b7 1 n10 ∧ ((0 : Int) ≤ v1 * 9 ∧ (v1 * 9 : Int) < n10) ∧ g_InR (v2 + 1) ∧ g_Run d 181 7 [(0, .ref a0), (1, g_n (g_i M b7 (v1 * 9))), (2, g_n (v2 + 1))] [] M (g_qI Q)) ∧ (¬ g_i M b2 v1 = 0 → Q v2 M))) ∧ (¬ v2 < 16 → Q v2 M))) : g_Run d 181 7 [(0, .ref a0), (1, g_n v1), (2, g_n v2)] [] M (g_qI Q) := by
  refine g_Run.ok fun hok => ?_
  replace h := h hok
  refine r_iload_n x_181_7 rfl ?_
  refine r_bipush x_181_8 (x := 16) rfl ?_
  refine r_ic_ge x_181_10 (t := 38) (by decide +kernel) hv2 (g_Rk rfl) (fun hc => ?_) (fun hc => ?_)
  · replace h := h.2 hc
    refine r_iload_n x_181_38 rfl ?_
    exact r_retI x_181_39 rfl hv2 h
  · replace h := h.1 hc
    refine r_aload_n x_181_13 rfl ?_
    obtain ⟨hO1, h⟩ := h
    obtain ⟨b2, hb3, h⟩ := h
    refine r_getR x_181_14 rfl (ci := 10) (k := 7) (ns := 0) (by decide +kernel) (by decide) rfl (kz := 7) rfl hO1 hb3 ?_
    refine r_iload_n x_181_17 rfl ?_
    obtain ⟨n4, hA5, h⟩ := h
    obtain ⟨h6, h⟩ := h
    refine r_bald x_181_18 (Or.inr rfl) hA5 hv1 h6.1 h6.2 ?_
    refine r_if_ne x_181_19 (t := 38) (by decide +kernel) (hok.1 _ _) (fun hc => ?_) (fun hc => ?_)
    · replace h := h.2 hc
      refine r_iload_n x_181_38 rfl ?_
      exact r_retI x_181_39 rfl hv2 h
    · replace h := h.1 hc
      refine r_aload_n x_181_22 rfl ?_
      obtain ⟨b7, hb8, h⟩ := h
      refine r_getR x_181_23 rfl (ci := 10) (k := 4) (ns := 0) (by decide +kernel) (by decide) rfl (kz := 4) rfl hO1 hb8 ?_
      refine r_iload_n x_181_26 rfl ?_
      refine r_bipush x_181_27 (x := 9) rfl ?_
      refine r_imul x_181_29 ?_
      obtain ⟨h9, h⟩ := h
      obtain ⟨n10, hA11, h⟩ := h
      obtain ⟨h12, h⟩ := h
      refine r_iald x_181_30 hA11 h9 h12.1 h12.2 ?_
      refine r_istore_n x_181_31 (by decide +kernel) rfl (lv1 := [(0, .ref a0), (1, g_n (g_i M b7 (v1 * 9))), (2, g_n v2)]) rfl ?_
      obtain ⟨h13, h⟩ := h
      refine r_iinc x_181_32 (by decide +kernel) rfl rfl (lv1 := [(0, .ref a0), (1, g_n (g_i M b7 (v1 * 9))), (2, g_n (v2 + 1))]) rfl ?_
      refine r_goto x_181_35 (t := 7) (by decide +kernel) ?_
      exact h
theorem m_X10_descend {d : Nat} {M : g_M} {Q : Int → g_M → Prop} {a0 : Nat} (h : g_ok M → g_O M a0 10 ∧ ∃ b2, g_r M a0 10 = some b2 ∧ ∃ n4, g_A M b2 1 n4 ∧ ((0 : Int) ≤ 0 ∧ (0 : Int) < n4) ∧ (∀ M7, M7 = g_wi M b2 0 (g_i M a0 14) → g_ok M7 → g_Run d 182 12 [(0, .ref a0), (1, g_n 0)] [] M7 (g_qI Q))) : g_Call (d + 1) 182 [.ref a0] M (g_qI Q) := by
  refine g_Call.ok fun hok0 => ?_
  replace h := h hok0
  refine r_body rfl (lv := [(0, .ref a0)]) rfl ?_
  refine g_Run.ok fun hok => ?_
  refine r_iconst x_182_0 ?_
  refine r_istore_n x_182_1 (by decide +kernel) rfl (lv1 := [(0, .ref a0), (1, g_n 0)]) rfl ?_
  refine r_aload_n x_182_2 rfl ?_
  obtain ⟨hO1, h⟩ := h
  obtain ⟨b2, hb3, h⟩ := h
  refine r_getR x_182_3 rfl (ci := 10) (k := 10) (ns := 0) (by decide +kernel) (by decide) rfl (kz := 10) rfl hO1 hb3 ?_
  refine r_iconst x_182_6 ?_
  refine r_aload_n x_182_7 rfl ?_
  refine r_getI x_182_8 rfl (ci := 10) (k := 14) (ns := 0) (by decide +kernel) (by decide) rfl (kz := 14) rfl hO1 ?_
  obtain ⟨n4, hA5, h⟩ := h
  obtain ⟨h6, h⟩ := h
  refine r_iast x_182_11 hA5 (g_Rk rfl) h6.1 h6.2 (hok.1 _ _) ?_
  obtain ⟨M7, hM8⟩ : ∃ Mz, Mz = g_wi M b2 0 (g_i M a0 14) := ⟨_, rfl⟩
  rw [← hM8]
  refine g_Run.ok fun hok9 => ?_
  replace h := h M7 hM8 hok9
  have hx10 := g_extW hM8
  replace hO1 := hO1.up hx10
  replace hA5 := hA5.up hx10
  exact h
theorem s_X10_descend_12 {d : Nat} {M : g_M} {Q : Int → g_M → Prop} {a0 : Nat} {v1 : Int} (hv1 : g_InR v1) (h : g_ok M → ((v1 < 15 → g_O M a0 10 ∧ ∃ b2, g_r M a0 7 = some b2 ∧ ∃ b4, g_r M a0 10 = some b4 ∧ ∃ n6, g_A M b4 1 n6 ∧ ((0 : Int) ≤ v1 ∧ (v1 : Int) < n6) ∧ ∃ n9, g_A M b2 2 n9 ∧ ((0 : Int) ≤ g_i M b4 v1 ∧ (g_i M b4 v1 : Int) < n9) ∧ ((g_i M b2 (g_i M b4 v1) = 0 → ∃ b12, g_r M a0 10 = some b12 ∧ ∃ n14, g_A M b12 1 n14 ∧ ((0 : Int) ≤ v1 ∧ (v1 : Int) < n14) ∧ g_Run d 182 41 [(0, .ref a0), (1, g_n v1), (2, g_n (g_i M b12 v1)), (3, g_n 0)] [] M (g_qI Q)) ∧ (¬ g_i M b2 (g_i M b4 v1) = 0 → Q v1 M))) ∧ (¬ v1 < 15 → Q v1 M))) : g_Run d 182 12 [(0, .ref a0), (1, g_n v1)] [] M (g_qI Q) := by
  refine g_Run.ok fun hok => ?_
  replace h := h hok
  refine r_iload_n x_182_12 rfl ?_
  refine r_bipush x_182_13 (x := 15) rfl ?_
  refine r_ic_ge x_182_15 (t := 116) (by decide +kernel) hv1 (g_Rk rfl) (fun hc => ?_) (fun hc => ?_)
  · replace h := h.2 hc
    refine r_iload_n x_182_116 rfl ?_
    exact r_retI x_182_117 rfl hv1 h
  · replace h := h.1 hc
    refine r_aload_n x_182_18 rfl ?_
    obtain ⟨hO1, h⟩ := h
    obtain ⟨b2, hb3, h⟩ := h
    refine r_getR x_182_19 rfl (ci := 10) (k := 7) (ns := 0) (by decide +kernel) (by decide) rfl (kz := 7) rfl hO1 hb3 ?_
    refine r_aload_n x_182_22 rfl ?_
    obtain ⟨b4, hb5, h⟩ := h
    refine r_getR x_182_23 rfl (ci := 10) (k := 10) (ns := 0) (by decide +kernel) (by decide) rfl (kz := 10) rfl hO1 hb5 ?_
    refine r_iload_n x_182_26 rfl ?_
    obtain ⟨n6, hA7, h⟩ := h
    obtain ⟨h8, h⟩ := h
    refine r_iald x_182_27 hA7 hv1 h8.1 h8.2 ?_
    obtain ⟨n9, hA10, h⟩ := h
    obtain ⟨h11, h⟩ := h
    refine r_bald x_182_28 (Or.inr rfl) hA10 (hok.1 _ _) h11.1 h11.2 ?_
    refine r_if_ne x_182_29 (t := 116) (by decide +kernel) (hok.1 _ _) (fun hc => ?_) (fun hc => ?_)
    · replace h := h.2 hc
      refine r_iload_n x_182_116 rfl ?_
      exact r_retI x_182_117 rfl hv1 h
    · replace h := h.1 hc
      refine r_aload_n x_182_32 rfl ?_
      obtain ⟨b12, hb13, h⟩ := h
      refine r_getR x_182_33 rfl (ci := 10) (k := 10) (ns := 0) (by decide +kernel) (by decide) rfl (kz := 10) rfl hO1 hb13 ?_
      refine r_iload_n x_182_36 rfl ?_
      obtain ⟨n14, hA15, h⟩ := h
      obtain ⟨h16, h⟩ := h
      refine r_iald x_182_37 hA15 hv1 h16.1 h16.2 ?_
      refine r_istore_n x_182_38 (by decide +kernel) rfl (lv1 := [(0, .ref a0), (1, g_n v1), (2, g_n (g_i M b12 v1))]) rfl ?_
      refine r_iconst x_182_39 ?_
      refine r_istore_n x_182_40 (by decide +kernel) rfl (lv1 := [(0, .ref a0), (1, g_n v1), (2, g_n (g_i M b12 v1)), (3, g_n 0)]) rfl ?_
      exact h
theorem s_X10_descend_41 {d : Nat} {M : g_M} {Q : Int → g_M → Prop} {a0 : Nat} {v1 : Int} (hv1 : g_InR v1) {v2 : Int} (hv2 : g_InR v2) {v3 : Int} (hv3 : g_InR v3) (h : g_ok M → g_O M a0 10 ∧ ∃ b2, g_r M a0 6 = some b2 ∧ ∃ n4, g_A M b2 1 n4 ∧ ((0 : Int) ≤ v2 ∧ (v2 : Int) < n4) ∧ g_InR ((g_i M b2 v2) - 1) ∧ ((v3 < (g_i M b2 v2) - 1 → ∃ b8, g_r M a0 5 = some b8 ∧ g_InR (v2 * 9) ∧ g_InR ((v2 * 9) + v3) ∧ ∃ n12, g_A M b8 1 n12 ∧ ((0 : Int) ≤ (v2 * 9) + v3 ∧ ((v2 * 9) + v3 : Int) < n12) ∧ g_Call d 180 [.ref a0, g_n (g_i M b8 ((v2 * 9) + v3)), g_n (g_i M a0 18)] M (g_qI fun r18 M15 => g_ext M M15 → g_ok M15 → g_InR r18 → ((0 < r18 → g_Run d 182 84 [(0, .ref a0), (1, g_n v1), (2, g_n v2), (3, g_n v3)] [] M15 (g_qI Q)) ∧ (¬ 0 < r18 → g_InR (v3 + 1) ∧ g_Run d 182 41 [(0, .ref a0), (1, g_n v1), (2, g_n v2), (3, g_n (v3 + 1))] [] M15 (g_qI Q))))) ∧ (¬ v3 < (g_i M b2 v2) - 1 → g_Run d 182 84 [(0, .ref a0), (1, g_n v1), (2, g_n v2), (3, g_n v3)] [] M (g_qI Q)))) : g_Run d 182 41 [(0, .ref a0), (1, g_n v1), (2, g_n v2), (3, g_n v3)] [] M (g_qI Q) := by
  refine g_Run.ok fun hok => ?_
  replace h := h hok
  refine r_iload_n x_182_41 rfl ?_
  refine r_aload_n x_182_42 rfl ?_
  obtain ⟨hO1, h⟩ := h
  obtain ⟨b2, hb3, h⟩ := h
  refine r_getR x_182_43 rfl (ci := 10) (k := 6) (ns := 0) (by decide +kernel) (by decide) rfl (kz := 6) rfl hO1 hb3 ?_
  refine r_iload_n x_182_46 rfl ?_
  obtain ⟨n4, hA5, h⟩ := h
  obtain ⟨h6, h⟩ := h
  refine r_iald x_182_47 hA5 hv2 h6.1 h6.2 ?_
  refine r_iconst x_182_48 ?_
  refine r_isub x_182_49 ?_
  obtain ⟨h7, h⟩ := h
  refine r_ic_ge x_182_50 (t := 84) (by decide +kernel) hv3 h7 (fun hc => ?_) (fun hc => ?_)
  · replace h := h.2 hc
    exact h
  · replace h := h.1 hc
    refine r_aload_n x_182_53 rfl ?_
    refine r_aload_n x_182_54 rfl ?_
    obtain ⟨b8, hb9, h⟩ := h
    refine r_getR x_182_55 rfl (ci := 10) (k := 5) (ns := 0) (by decide +kernel) (by decide) rfl (kz := 5) rfl hO1 hb9 ?_
    refine r_iload_n x_182_58 rfl ?_
    refine r_bipush x_182_59 (x := 9) rfl ?_
    refine r_imul x_182_61 ?_
    obtain ⟨h10, h⟩ := h
    refine r_iload_n x_182_62 rfl ?_
    refine r_iadd x_182_63 ?_
    obtain ⟨h11, h⟩ := h
    obtain ⟨n12, hA13, h⟩ := h
    obtain ⟨h14, h⟩ := h
    refine r_iald x_182_64 hA13 h11 h14.1 h14.2 ?_
    refine r_aload_n x_182_65 rfl ?_
    refine r_getI x_182_66 rfl (ci := 10) (k := 18) (ns := 0) (by decide +kernel) (by decide) rfl (kz := 18) rfl hO1 ?_
    refine r_invV x_182_69 (z := 180) (ns := 0) (by decide +kernel) (as := [g_n (g_i M b8 ((v2 * 9) + v3)), g_n (g_i M a0 18)]) (r := []) rfl rfl rfl hO1 rfl rfl ?_
    refine r_callI h fun r18 M15 hx16 hok17 hr19 h => ?_
    replace h := h hx16 hok17 hr19
    replace hO1 := hO1.up hx16
    replace hA5 := hA5.up hx16
    replace hA13 := hA13.up hx16
    refine r_if_le x_182_72 (t := 78) (by decide +kernel) hr19 (fun hc => ?_) (fun hc => ?_)
    · replace h := h.2 hc
      obtain ⟨h20, h⟩ := h
      refine r_iinc x_182_78 (by decide +kernel) rfl rfl (lv1 := [(0, .ref a0), (1, g_n v1), (2, g_n v2), (3, g_n (v3 + 1))]) rfl ?_
      refine r_goto x_182_81 (t := 41) (by decide +kernel) ?_
      exact h
    · replace h := h.1 hc
      refine r_goto x_182_75 (t := 84) (by decide +kernel) ?_
      exact h
theorem s_X10_descend_84 {d : Nat} {M : g_M} {Q : Int → g_M → Prop} {a0 : Nat} {v1 : Int} (hv1 : g_InR v1) {v2 : Int} (hv2 : g_InR v2) {v3 : Int} (hv3 : g_InR v3) (h : g_ok M → g_O M a0 10 ∧ ∃ b2, g_r M a0 11 = some b2 ∧ ∃ n4, g_A M b2 1 n4 ∧ ((0 : Int) ≤ v1 ∧ (v1 : Int) < n4) ∧ (∀ M7, M7 = g_wi M b2 v1 v3 → g_ok M7 → ∃ b11, g_r M7 a0 10 = some b11 ∧ g_InR (v1 + 1) ∧ ∃ b14, g_r M7 a0 4 = some b14 ∧ g_InR (v2 * 9) ∧ g_InR ((v2 * 9) + v3) ∧ ∃ n18, g_A M7 b14 1 n18 ∧ ((0 : Int) ≤ (v2 * 9) + v3 ∧ ((v2 * 9) + v3 : Int) < n18) ∧ ∃ n21, g_A M7 b11 1 n21 ∧ ((0 : Int) ≤ v1 + 1 ∧ (v1 + 1 : Int) < n21) ∧ (∀ M24, M24 = g_wi M7 b11 (v1 + 1) (g_i M7 b14 ((v2 * 9) + v3)) → g_ok M24 → g_InR (v1 + 1) ∧ g_Run d 182 12 [(0, .ref a0), (1, g_n (v1 + 1))] [] M24 (g_qI Q)))) : g_Run d 182 84 [(0, .ref a0), (1, g_n v1), (2, g_n v2), (3, g_n v3)] [] M (g_qI Q) := by
  refine g_Run.ok fun hok => ?_
  replace h := h hok
  refine r_aload_n x_182_84 rfl ?_
  obtain ⟨hO1, h⟩ := h
  obtain ⟨b2, hb3, h⟩ := h
  refine r_getR x_182_85 rfl (ci := 10) (k := 11) (ns := 0) (by decide +kernel) (by decide) rfl (kz := 11) rfl hO1 hb3 ?_
  refine r_iload_n x_182_88 rfl ?_
  refine r_iload_n x_182_89 rfl ?_
  obtain ⟨n4, hA5, h⟩ := h
  obtain ⟨h6, h⟩ := h
  refine r_iast x_182_90 hA5 hv1 h6.1 h6.2 hv3 ?_
  obtain ⟨M7, hM8⟩ : ∃ Mz, Mz = g_wi M b2 v1 v3 := ⟨_, rfl⟩
  rw [← hM8]
  refine g_Run.ok fun hok9 => ?_
  replace h := h M7 hM8 hok9
  have hx10 := g_extW hM8
  replace hO1 := hO1.up hx10
  replace hA5 := hA5.up hx10
  refine r_aload_n x_182_91 rfl ?_
  obtain ⟨b11, hb12, h⟩ := h
  refine r_getR x_182_92 rfl (ci := 10) (k := 10) (ns := 0) (by decide +kernel) (by decide) rfl (kz := 10) rfl hO1 hb12 ?_
  refine r_iload_n x_182_95 rfl ?_
  refine r_iconst x_182_96 ?_
  refine r_iadd x_182_97 ?_
  obtain ⟨h13, h⟩ := h
  refine r_aload_n x_182_98 rfl ?_
  obtain ⟨b14, hb15, h⟩ := h
  refine r_getR x_182_99 rfl (ci := 10) (k := 4) (ns := 0) (by decide +kernel) (by decide) rfl (kz := 4) rfl hO1 hb15 ?_
  refine r_iload_n x_182_102 rfl ?_
  refine r_bipush x_182_103 (x := 9) rfl ?_
  refine r_imul x_182_105 ?_
  obtain ⟨h16, h⟩ := h
  refine r_iload_n x_182_106 rfl ?_
  refine r_iadd x_182_107 ?_
  obtain ⟨h17, h⟩ := h
  obtain ⟨n18, hA19, h⟩ := h
  obtain ⟨h20, h⟩ := h
  refine r_iald x_182_108 hA19 h17 h20.1 h20.2 ?_
  obtain ⟨n21, hA22, h⟩ := h
  obtain ⟨h23, h⟩ := h
  refine r_iast x_182_109 hA22 h13 h23.1 h23.2 (hok9.1 _ _) ?_
  obtain ⟨M24, hM25⟩ : ∃ Mz, Mz = g_wi M7 b11 (v1 + 1) (g_i M7 b14 ((v2 * 9) + v3)) := ⟨_, rfl⟩
  rw [← hM25]
  refine g_Run.ok fun hok26 => ?_
  replace h := h M24 hM25 hok26
  have hx27 := g_extW hM25
  replace hO1 := hO1.up hx27
  replace hA5 := hA5.up hx27
  replace hA19 := hA19.up hx27
  replace hA22 := hA22.up hx27
  obtain ⟨h28, h⟩ := h
  refine r_iinc x_182_110 (by decide +kernel) rfl rfl (lv1 := [(0, .ref a0), (1, g_n (v1 + 1)), (2, g_n v2), (3, g_n v3)]) rfl ?_
  refine r_goto x_182_113 (t := 12) (by decide +kernel) ?_
  refine g_drop [0, 1] (lv1 := [(0, .ref a0), (1, g_n (v1 + 1))]) rfl ?_
  exact h
theorem m_X10_comes {d : Nat} {M : g_M} {Q : g_M → Prop} {a0 : Nat} {a1 : Nat} {v2 : Int} (hv2 : g_InR v2) {v3 : Int} (hv3 : g_InR v3) {v4 : Int} (hv4 : g_InR v4) (h : g_ok M → g_O M a0 10 ∧ g_Call d 178 [.ref a0, g_n (g_i M a0 18), .ref a1, g_n v2, g_n v3, g_n v4] M (g_qV fun M2 => g_ext M M2 → g_ok M2 → g_Call d 182 [.ref a0] M2 (g_qI fun r8 M5 => g_ext M2 M5 → g_ok M5 → g_InR r8 → ∃ b10, g_r M5 a0 10 = some b10 ∧ ∃ n12, g_A M5 b10 1 n12 ∧ ((0 : Int) ≤ r8 ∧ (r8 : Int) < n12) ∧ g_Run d 183 31 [(0, .ref a0), (1, .ref a1), (2, g_n v2), (3, g_n v3), (4, g_n v4), (5, g_n r8), (6, g_n (g_i M5 b10 r8)), (7, g_n 0)] [] M5 (g_qV Q)))) : g_Call (d + 1) 183 [.ref a0, .ref a1, g_n v2, g_n v3, g_n v4] M (g_qV Q) := by
  refine g_Call.ok fun hok0 => ?_
  replace h := h hok0
  refine r_body rfl (lv := [(0, .ref a0), (1, .ref a1), (2, g_n v2), (3, g_n v3), (4, g_n v4)]) rfl ?_
  refine g_Run.ok fun hok => ?_
  refine r_aload_n x_183_0 rfl ?_
  refine r_aload_n x_183_1 rfl ?_
  obtain ⟨hO1, h⟩ := h
  refine r_getI x_183_2 rfl (ci := 10) (k := 18) (ns := 0) (by decide +kernel) (by decide) rfl (kz := 18) rfl hO1 ?_
  refine r_aload_n x_183_5 rfl ?_
  refine r_iload_n x_183_6 rfl ?_
  refine r_iload_n x_183_7 rfl ?_
  refine r_iload x_183_8 rfl ?_
  refine r_invV x_183_10 (z := 178) (ns := 0) (by decide +kernel) (as := [g_n (g_i M a0 18), .ref a1, g_n v2, g_n v3, g_n v4]) (r := []) rfl rfl rfl hO1 rfl rfl ?_
  refine r_callV h fun M2 hx3 hok4 h => ?_
  replace h := h hx3 hok4
  replace hO1 := hO1.up hx3
  refine r_aload_n x_183_13 rfl ?_
  refine r_invV x_183_14 (z := 182) (ns := 0) (by decide +kernel) (as := []) (r := []) rfl rfl rfl hO1 rfl rfl ?_
  refine r_callI h fun r8 M5 hx6 hok7 hr9 h => ?_
  replace h := h hx6 hok7 hr9
  replace hO1 := hO1.up hx6
  refine r_istore x_183_17 (by decide +kernel) rfl (lv1 := [(0, .ref a0), (1, .ref a1), (2, g_n v2), (3, g_n v3), (4, g_n v4), (5, g_n r8)]) rfl ?_
  refine r_aload_n x_183_19 rfl ?_
  obtain ⟨b10, hb11, h⟩ := h
  refine r_getR x_183_20 rfl (ci := 10) (k := 10) (ns := 0) (by decide +kernel) (by decide) rfl (kz := 10) rfl hO1 hb11 ?_
  refine r_iload x_183_23 rfl ?_
  obtain ⟨n12, hA13, h⟩ := h
  obtain ⟨h14, h⟩ := h
  refine r_iald x_183_25 hA13 hr9 h14.1 h14.2 ?_
  refine r_istore x_183_26 (by decide +kernel) rfl (lv1 := [(0, .ref a0), (1, .ref a1), (2, g_n v2), (3, g_n v3), (4, g_n v4), (5, g_n r8), (6, g_n (g_i M5 b10 r8))]) rfl ?_
  refine r_iconst x_183_28 ?_
  refine r_istore x_183_29 (by decide +kernel) rfl (lv1 := [(0, .ref a0), (1, .ref a1), (2, g_n v2), (3, g_n v3), (4, g_n v4), (5, g_n r8), (6, g_n (g_i M5 b10 r8)), (7, g_n 0)]) rfl ?_
  exact h
theorem s_X10_comes_31 {d : Nat} {M : g_M} {Q : g_M → Prop} {a0 : Nat} {a1 : Nat} {v2 : Int} (hv2 : g_InR v2) {v3 : Int} (hv3 : g_InR v3) {v4 : Int} (hv4 : g_InR v4) {v5 : Int} (hv5 : g_InR v5) {v6 : Int} (hv6 : g_InR v6) {v7 : Int} (hv7 : g_InR v7) (h : g_ok M → g_O M a0 10 ∧ ∃ b2, g_r M a0 6 = some b2 ∧ ∃ n4, g_A M b2 1 n4 ∧ ((0 : Int) ≤ v6 ∧ (v6 : Int) < n4) ∧ ((v7 < g_i M b2 v6 → ∃ b7, g_r M a0 4 = some b7 ∧ g_InR (v6 * 9) ∧ g_InR ((v6 * 9) + v7) ∧ ∃ n11, g_A M b7 1 n11 ∧ ((0 : Int) ≤ (v6 * 9) + v7 ∧ ((v6 * 9) + v7 : Int) < n11) ∧ g_Call d 180 [.ref a0, g_n (g_i M b7 ((v6 * 9) + v7)), g_n (g_i M a0 18)] M (g_qI fun r17 M14 => g_ext M M14 → g_ok M14 → g_InR r17 → ((0 < r17 → g_Run d 183 76 [(0, .ref a0), (1, .ref a1), (2, g_n v2), (3, g_n v3), (4, g_n v4), (5, g_n v5), (6, g_n v6), (7, g_n v7)] [] M14 (g_qV Q)) ∧ (¬ 0 < r17 → g_InR (v7 + 1) ∧ g_Run d 183 31 [(0, .ref a0), (1, .ref a1), (2, g_n v2), (3, g_n v3), (4, g_n v4), (5, g_n v5), (6, g_n v6), (7, g_n (v7 + 1))] [] M14 (g_qV Q))))) ∧ (¬ v7 < g_i M b2 v6 → g_Run d 183 76 [(0, .ref a0), (1, .ref a1), (2, g_n v2), (3, g_n v3), (4, g_n v4), (5, g_n v5), (6, g_n v6), (7, g_n v7)] [] M (g_qV Q)))) : g_Run d 183 31 [(0, .ref a0), (1, .ref a1), (2, g_n v2), (3, g_n v3), (4, g_n v4), (5, g_n v5), (6, g_n v6), (7, g_n v7)] [] M (g_qV Q) := by
  refine g_Run.ok fun hok => ?_
  replace h := h hok
  refine r_iload x_183_31 rfl ?_
  refine r_aload_n x_183_33 rfl ?_
  obtain ⟨hO1, h⟩ := h
  obtain ⟨b2, hb3, h⟩ := h
  refine r_getR x_183_34 rfl (ci := 10) (k := 6) (ns := 0) (by decide +kernel) (by decide) rfl (kz := 6) rfl hO1 hb3 ?_
  refine r_iload x_183_37 rfl ?_
  obtain ⟨n4, hA5, h⟩ := h
  obtain ⟨h6, h⟩ := h
  refine r_iald x_183_39 hA5 hv6 h6.1 h6.2 ?_
  refine r_ic_ge x_183_40 (t := 76) (by decide +kernel) hv7 (hok.1 _ _) (fun hc => ?_) (fun hc => ?_)
  · replace h := h.2 hc
    exact h
  · replace h := h.1 hc
    refine r_aload_n x_183_43 rfl ?_
    refine r_aload_n x_183_44 rfl ?_
    obtain ⟨b7, hb8, h⟩ := h
    refine r_getR x_183_45 rfl (ci := 10) (k := 4) (ns := 0) (by decide +kernel) (by decide) rfl (kz := 4) rfl hO1 hb8 ?_
    refine r_iload x_183_48 rfl ?_
    refine r_bipush x_183_50 (x := 9) rfl ?_
    refine r_imul x_183_52 ?_
    obtain ⟨h9, h⟩ := h
    refine r_iload x_183_53 rfl ?_
    refine r_iadd x_183_55 ?_
    obtain ⟨h10, h⟩ := h
    obtain ⟨n11, hA12, h⟩ := h
    obtain ⟨h13, h⟩ := h
    refine r_iald x_183_56 hA12 h10 h13.1 h13.2 ?_
    refine r_aload_n x_183_57 rfl ?_
    refine r_getI x_183_58 rfl (ci := 10) (k := 18) (ns := 0) (by decide +kernel) (by decide) rfl (kz := 18) rfl hO1 ?_
    refine r_invV x_183_61 (z := 180) (ns := 0) (by decide +kernel) (as := [g_n (g_i M b7 ((v6 * 9) + v7)), g_n (g_i M a0 18)]) (r := []) rfl rfl rfl hO1 rfl rfl ?_
    refine r_callI h fun r17 M14 hx15 hok16 hr18 h => ?_
    replace h := h hx15 hok16 hr18
    replace hO1 := hO1.up hx15
    replace hA5 := hA5.up hx15
    replace hA12 := hA12.up hx15
    refine r_if_le x_183_64 (t := 70) (by decide +kernel) hr18 (fun hc => ?_) (fun hc => ?_)
    · replace h := h.2 hc
      obtain ⟨h19, h⟩ := h
      refine r_iinc x_183_70 (by decide +kernel) rfl rfl (lv1 := [(0, .ref a0), (1, .ref a1), (2, g_n v2), (3, g_n v3), (4, g_n v4), (5, g_n v5), (6, g_n v6), (7, g_n (v7 + 1))]) rfl ?_
      refine r_goto x_183_73 (t := 31) (by decide +kernel) ?_
      exact h
    · replace h := h.1 hc
      refine r_goto x_183_67 (t := 76) (by decide +kernel) ?_
      exact h
theorem s_X10_comes_76 {d : Nat} {M : g_M} {Q : g_M → Prop} {a0 : Nat} {a1 : Nat} {v2 : Int} (hv2 : g_InR v2) {v3 : Int} (hv3 : g_InR v3) {v4 : Int} (hv4 : g_InR v4) {v5 : Int} (hv5 : g_InR v5) {v6 : Int} (hv6 : g_InR v6) {v7 : Int} (hv7 : g_InR v7) (h : g_ok M → g_O M a0 10 ∧ g_Call d 184 [.ref a0, g_n v6, g_n v7, g_n (g_i M a0 18)] M (g_qV fun M2 => g_ext M M2 → g_ok M2 → g_Call d 174 [.ref a0] M2 (g_qI fun r8 M5 => g_ext M2 M5 → g_ok M5 → g_InR r8 → (∀ M10, M10 = g_wi M5 a0 18 r8 → g_ok M10 → g_InR ((g_i M10 a0 15) + 1) ∧ (∀ M15, M15 = g_wi M10 a0 15 ((g_i M10 a0 15) + 1) → g_ok M15 → g_Run d 183 110 [(0, .ref a0), (1, .ref a1), (2, g_n v2), (3, g_n v3), (4, g_n v4), (5, g_n v5), (6, g_n v6), (7, g_n v7), (8, g_n v5)] [] M15 (g_qV Q)))))) : g_Run d 183 76 [(0, .ref a0), (1, .ref a1), (2, g_n v2), (3, g_n v3), (4, g_n v4), (5, g_n v5), (6, g_n v6), (7, g_n v7)] [] M (g_qV Q) := by
  refine g_Run.ok fun hok => ?_
  replace h := h hok
  refine r_aload_n x_183_76 rfl ?_
  refine r_iload x_183_77 rfl ?_
  refine r_iload x_183_79 rfl ?_
  refine r_aload_n x_183_81 rfl ?_
  obtain ⟨hO1, h⟩ := h
  refine r_getI x_183_82 rfl (ci := 10) (k := 18) (ns := 0) (by decide +kernel) (by decide) rfl (kz := 18) rfl hO1 ?_
  refine r_invV x_183_85 (z := 184) (ns := 0) (by decide +kernel) (as := [g_n v6, g_n v7, g_n (g_i M a0 18)]) (r := []) rfl rfl rfl hO1 rfl rfl ?_
  refine r_callV h fun M2 hx3 hok4 h => ?_
  replace h := h hx3 hok4
  replace hO1 := hO1.up hx3
  refine r_aload_n x_183_88 rfl ?_
  refine r_aload_n x_183_89 rfl ?_
  refine r_invV x_183_90 (z := 174) (ns := 0) (by decide +kernel) (as := []) (r := [.ref a0]) rfl rfl rfl hO1 rfl rfl ?_
  refine r_callI h fun r8 M5 hx6 hok7 hr9 h => ?_
  replace h := h hx6 hok7 hr9
  replace hO1 := hO1.up hx6
  refine r_putI x_183_93 (ci := 10) (k := 18) (ns := 0) (by decide +kernel) (by decide) (g_f0 (by decide +kernel)) rfl hr9 trivial (kz := 18) rfl hO1 ?_
  obtain ⟨M10, hM11⟩ : ∃ Mz, Mz = g_wi M5 a0 18 r8 := ⟨_, rfl⟩
  rw [← hM11]
  refine g_Run.ok fun hok12 => ?_
  replace h := h M10 hM11 hok12
  have hx13 := g_extW hM11
  replace hO1 := hO1.up hx13
  refine r_aload_n x_183_96 rfl ?_
  refine r_dup x_183_97 rfl ?_
  refine r_getI x_183_98 rfl (ci := 10) (k := 15) (ns := 0) (by decide +kernel) (by decide) rfl (kz := 15) rfl hO1 ?_
  refine r_iconst x_183_101 ?_
  refine r_iadd x_183_102 ?_
  obtain ⟨h14, h⟩ := h
  refine r_putI x_183_103 (ci := 10) (k := 15) (ns := 0) (by decide +kernel) (by decide) (g_f0 (by decide +kernel)) rfl h14 trivial (kz := 15) rfl hO1 ?_
  obtain ⟨M15, hM16⟩ : ∃ Mz, Mz = g_wi M10 a0 15 ((g_i M10 a0 15) + 1) := ⟨_, rfl⟩
  rw [← hM16]
  refine g_Run.ok fun hok17 => ?_
  replace h := h M15 hM16 hok17
  have hx18 := g_extW hM16
  replace hO1 := hO1.up hx18
  refine r_iload x_183_106 rfl ?_
  refine r_istore x_183_108 (by decide +kernel) rfl (lv1 := [(0, .ref a0), (1, .ref a1), (2, g_n v2), (3, g_n v3), (4, g_n v4), (5, g_n v5), (6, g_n v6), (7, g_n v7), (8, g_n v5)]) rfl ?_
  exact h
theorem s_X10_comes_110 {d : Nat} {M : g_M} {Q : g_M → Prop} {a0 : Nat} {a1 : Nat} {v2 : Int} (hv2 : g_InR v2) {v3 : Int} (hv3 : g_InR v3) {v4 : Int} (hv4 : g_InR v4) {v5 : Int} (hv5 : g_InR v5) {v6 : Int} (hv6 : g_InR v6) {v7 : Int} (hv7 : g_InR v7) {v8 : Int} (hv8 : g_InR v8) (h : g_ok M → ((v8 < 0 → Q M) ∧ (¬ v8 < 0 → g_O M a0 10 ∧ ∃ b2, g_r M a0 6 = some b2 ∧ ∃ b4, g_r M a0 10 = some b4 ∧ ∃ n6, g_A M b4 1 n6 ∧ ((0 : Int) ≤ v8 ∧ (v8 : Int) < n6) ∧ ∃ n9, g_A M b2 1 n9 ∧ ((0 : Int) ≤ g_i M b4 v8 ∧ (g_i M b4 v8 : Int) < n9) ∧ ((8 < g_i M b2 (g_i M b4 v8) → g_Call d 186 [.ref a0, g_n v8] M (g_qV fun M12 => g_ext M M12 → g_ok M12 → g_InR (v8 + (-1)) ∧ g_Run d 183 110 [(0, .ref a0), (1, .ref a1), (2, g_n v2), (3, g_n v3), (4, g_n v4), (5, g_n v5), (6, g_n v6), (7, g_n v7), (8, g_n (v8 + (-1)))] [] M12 (g_qV Q))) ∧ (¬ 8 < g_i M b2 (g_i M b4 v8) → Q M))))) : g_Run d 183 110 [(0, .ref a0), (1, .ref a1), (2, g_n v2), (3, g_n v3), (4, g_n v4), (5, g_n v5), (6, g_n v6), (7, g_n v7), (8, g_n v8)] [] M (g_qV Q) := by
  refine g_Run.ok fun hok => ?_
  replace h := h hok
  refine r_iload x_183_110 rfl ?_
  refine r_if_lt x_183_112 (t := 144) (by decide +kernel) hv8 (fun hc => ?_) (fun hc => ?_)
  · replace h := h.1 hc
    exact r_retV x_183_144 rfl h
  · replace h := h.2 hc
    refine r_aload_n x_183_115 rfl ?_
    obtain ⟨hO1, h⟩ := h
    obtain ⟨b2, hb3, h⟩ := h
    refine r_getR x_183_116 rfl (ci := 10) (k := 6) (ns := 0) (by decide +kernel) (by decide) rfl (kz := 6) rfl hO1 hb3 ?_
    refine r_aload_n x_183_119 rfl ?_
    obtain ⟨b4, hb5, h⟩ := h
    refine r_getR x_183_120 rfl (ci := 10) (k := 10) (ns := 0) (by decide +kernel) (by decide) rfl (kz := 10) rfl hO1 hb5 ?_
    refine r_iload x_183_123 rfl ?_
    obtain ⟨n6, hA7, h⟩ := h
    obtain ⟨h8, h⟩ := h
    refine r_iald x_183_125 hA7 hv8 h8.1 h8.2 ?_
    obtain ⟨n9, hA10, h⟩ := h
    obtain ⟨h11, h⟩ := h
    refine r_iald x_183_126 hA10 (hok.1 _ _) h11.1 h11.2 ?_
    refine r_bipush x_183_127 (x := 8) rfl ?_
    refine r_ic_le x_183_129 (t := 144) (by decide +kernel) (hok.1 _ _) (g_Rk rfl) (fun hc => ?_) (fun hc => ?_)
    · replace h := h.2 hc
      exact r_retV x_183_144 rfl h
    · replace h := h.1 hc
      refine r_aload_n x_183_132 rfl ?_
      refine r_iload x_183_133 rfl ?_
      refine r_invV x_183_135 (z := 186) (ns := 0) (by decide +kernel) (as := [g_n v8]) (r := []) rfl rfl rfl hO1 rfl rfl ?_
      refine r_callV h fun M12 hx13 hok14 h => ?_
      replace h := h hx13 hok14
      replace hO1 := hO1.up hx13
      replace hA7 := hA7.up hx13
      replace hA10 := hA10.up hx13
      obtain ⟨h15, h⟩ := h
      refine r_iinc x_183_138 (by decide +kernel) rfl rfl (lv1 := [(0, .ref a0), (1, .ref a1), (2, g_n v2), (3, g_n v3), (4, g_n v4), (5, g_n v5), (6, g_n v6), (7, g_n v7), (8, g_n (v8 + (-1)))]) rfl ?_
      refine r_goto x_183_141 (t := 110) (by decide +kernel) ?_
      exact h
theorem m_X10_insertKid {d : Nat} {M : g_M} {Q : g_M → Prop} {a0 : Nat} {v1 : Int} (hv1 : g_InR v1) {v2 : Int} (hv2 : g_InR v2) {v3 : Int} (hv3 : g_InR v3) (h : g_ok M → g_InR (v1 * 9) ∧ g_InR ((v1 * 9) + v2) ∧ g_O M a0 10 ∧ ∃ b4, g_r M a0 6 = some b4 ∧ ∃ n6, g_A M b4 1 n6 ∧ ((0 : Int) ≤ v1 ∧ (v1 : Int) < n6) ∧ ((g_i M b4 v1 < 9 → ∃ b9, g_r M a0 4 = some b9 ∧ ∃ b11, g_r M a0 4 = some b11 ∧ g_InR (((v1 * 9) + v2) + 1) ∧ ∃ b14, g_r M a0 6 = some b14 ∧ ∃ n16, g_A M b14 1 n16 ∧ ((0 : Int) ≤ v1 ∧ (v1 : Int) < n16) ∧ g_InR ((g_i M b14 v1) - v2) ∧ ∃ n20, g_A M b9 1 n20 ∧ ∃ n22, g_A M b11 1 n22 ∧ ((0 : Int) ≤ (v1 * 9) + v2 ∧ (0 : Int) ≤ ((v1 * 9) + v2) + 1 ∧ (0 : Int) ≤ (g_i M b14 v1) - v2 ∧ (((v1 * 9) + v2) : Int) + ((g_i M b14 v1) - v2) ≤ n20 ∧ ((((v1 * 9) + v2) + 1) : Int) + ((g_i M b14 v1) - v2) ≤ n22) ∧ (∀ M25, M25 = g_cp M b9 b11 ((v1 * 9) + v2) (((v1 * 9) + v2) + 1) ((g_i M b14 v1) - v2) → g_ok M25 → ∃ b29, g_r M25 a0 4 = some b29 ∧ ∃ n31, g_A M25 b29 1 n31 ∧ ((0 : Int) ≤ (v1 * 9) + v2 ∧ ((v1 * 9) + v2 : Int) < n31) ∧ (∀ M34, M34 = g_wi M25 b29 ((v1 * 9) + v2) v3 → g_ok M34 → ∃ b38, g_r M34 a0 6 = some b38 ∧ ∃ n40, g_A M34 b38 1 n40 ∧ ((0 : Int) ≤ v1 ∧ (v1 : Int) < n40) ∧ g_InR ((g_i M34 b38 v1) + 1) ∧ ((0 : Int) ≤ v1 ∧ (v1 : Int) < n40) ∧ (∀ M45, M45 = g_wi M34 b38 v1 ((g_i M34 b38 v1) + 1) → g_ok M45 → Q M45)))) ∧ (¬ g_i M b4 v1 < 9 → Q M))) : g_Call (d + 1) 184 [.ref a0, g_n v1, g_n v2, g_n v3] M (g_qV Q) := by
  refine g_Call.ok fun hok0 => ?_
  replace h := h hok0
  refine r_body rfl (lv := [(0, .ref a0), (1, g_n v1), (2, g_n v2), (3, g_n v3)]) rfl ?_
  refine g_Run.ok fun hok => ?_
  refine r_iload_n x_184_0 rfl ?_
  refine r_bipush x_184_1 (x := 9) rfl ?_
  refine r_imul x_184_3 ?_
  obtain ⟨h1, h⟩ := h
  refine r_iload_n x_184_4 rfl ?_
  refine r_iadd x_184_5 ?_
  obtain ⟨h2, h⟩ := h
  refine r_istore x_184_6 (by decide +kernel) rfl (lv1 := [(0, .ref a0), (1, g_n v1), (2, g_n v2), (3, g_n v3), (4, g_n ((v1 * 9) + v2))]) rfl ?_
  refine r_aload_n x_184_8 rfl ?_
  obtain ⟨hO3, h⟩ := h
  obtain ⟨b4, hb5, h⟩ := h
  refine r_getR x_184_9 rfl (ci := 10) (k := 6) (ns := 0) (by decide +kernel) (by decide) rfl (kz := 6) rfl hO3 hb5 ?_
  refine r_iload_n x_184_12 rfl ?_
  obtain ⟨n6, hA7, h⟩ := h
  obtain ⟨h8, h⟩ := h
  refine r_iald x_184_13 hA7 hv1 h8.1 h8.2 ?_
  refine r_bipush x_184_14 (x := 9) rfl ?_
  refine r_ic_ge x_184_16 (t := 62) (by decide +kernel) (hok.1 _ _) (g_Rk rfl) (fun hc => ?_) (fun hc => ?_)
  · replace h := h.2 hc
    exact r_retV x_184_62 rfl h
  · replace h := h.1 hc
    refine r_aload_n x_184_19 rfl ?_
    obtain ⟨b9, hb10, h⟩ := h
    refine r_getR x_184_20 rfl (ci := 10) (k := 4) (ns := 0) (by decide +kernel) (by decide) rfl (kz := 4) rfl hO3 hb10 ?_
    refine r_iload x_184_23 rfl ?_
    refine r_aload_n x_184_25 rfl ?_
    obtain ⟨b11, hb12, h⟩ := h
    refine r_getR x_184_26 rfl (ci := 10) (k := 4) (ns := 0) (by decide +kernel) (by decide) rfl (kz := 4) rfl hO3 hb12 ?_
    refine r_iload x_184_29 rfl ?_
    refine r_iconst x_184_31 ?_
    refine r_iadd x_184_32 ?_
    obtain ⟨h13, h⟩ := h
    refine r_aload_n x_184_33 rfl ?_
    obtain ⟨b14, hb15, h⟩ := h
    refine r_getR x_184_34 rfl (ci := 10) (k := 6) (ns := 0) (by decide +kernel) (by decide) rfl (kz := 6) rfl hO3 hb15 ?_
    refine r_iload_n x_184_37 rfl ?_
    obtain ⟨n16, hA17, h⟩ := h
    obtain ⟨h18, h⟩ := h
    refine r_iald x_184_38 hA17 hv1 h18.1 h18.2 ?_
    refine r_iload_n x_184_39 rfl ?_
    refine r_isub x_184_40 ?_
    obtain ⟨h19, h⟩ := h
    obtain ⟨n20, hA21, h⟩ := h
    obtain ⟨n22, hA23, h⟩ := h
    obtain ⟨h24, h⟩ := h
    refine r_copy x_184_41 rfl rfl rfl rfl rfl rfl (by decide) hA21 hA23 h2 h13 h19 h24.1 h24.2.1 h24.2.2.1 h24.2.2.2.1 h24.2.2.2.2 ?_
    obtain ⟨M25, hM26⟩ : ∃ Mz, Mz = g_cp M b9 b11 ((v1 * 9) + v2) (((v1 * 9) + v2) + 1) ((g_i M b14 v1) - v2) := ⟨_, rfl⟩
    rw [← hM26]
    refine g_Run.ok fun hok27 => ?_
    replace h := h M25 hM26 hok27
    have hx28 := g_extC hM26
    replace hO3 := hO3.up hx28
    replace hA7 := hA7.up hx28
    replace hA17 := hA17.up hx28
    replace hA21 := hA21.up hx28
    replace hA23 := hA23.up hx28
    refine r_aload_n x_184_44 rfl ?_
    obtain ⟨b29, hb30, h⟩ := h
    refine r_getR x_184_45 rfl (ci := 10) (k := 4) (ns := 0) (by decide +kernel) (by decide) rfl (kz := 4) rfl hO3 hb30 ?_
    refine r_iload x_184_48 rfl ?_
    refine r_iload_n x_184_50 rfl ?_
    obtain ⟨n31, hA32, h⟩ := h
    obtain ⟨h33, h⟩ := h
    refine r_iast x_184_51 hA32 h2 h33.1 h33.2 hv3 ?_
    obtain ⟨M34, hM35⟩ : ∃ Mz, Mz = g_wi M25 b29 ((v1 * 9) + v2) v3 := ⟨_, rfl⟩
    rw [← hM35]
    refine g_Run.ok fun hok36 => ?_
    replace h := h M34 hM35 hok36
    have hx37 := g_extW hM35
    replace hO3 := hO3.up hx37
    replace hA7 := hA7.up hx37
    replace hA17 := hA17.up hx37
    replace hA21 := hA21.up hx37
    replace hA23 := hA23.up hx37
    replace hA32 := hA32.up hx37
    refine r_aload_n x_184_52 rfl ?_
    obtain ⟨b38, hb39, h⟩ := h
    refine r_getR x_184_53 rfl (ci := 10) (k := 6) (ns := 0) (by decide +kernel) (by decide) rfl (kz := 6) rfl hO3 hb39 ?_
    refine r_iload_n x_184_56 rfl ?_
    refine r_dup2 x_184_57 rfl rfl ?_
    obtain ⟨n40, hA41, h⟩ := h
    obtain ⟨h42, h⟩ := h
    refine r_iald x_184_58 hA41 hv1 h42.1 h42.2 ?_
    refine r_iconst x_184_59 ?_
    refine r_iadd x_184_60 ?_
    obtain ⟨h43, h⟩ := h
    obtain ⟨h44, h⟩ := h
    refine r_iast x_184_61 hA41 hv1 h44.1 h44.2 h43 ?_
    obtain ⟨M45, hM46⟩ : ∃ Mz, Mz = g_wi M34 b38 v1 ((g_i M34 b38 v1) + 1) := ⟨_, rfl⟩
    rw [← hM46]
    refine g_Run.ok fun hok47 => ?_
    replace h := h M45 hM46 hok47
    have hx48 := g_extW hM46
    replace hO3 := hO3.up hx48
    replace hA7 := hA7.up hx48
    replace hA17 := hA17.up hx48
    replace hA21 := hA21.up hx48
    replace hA23 := hA23.up hx48
    replace hA32 := hA32.up hx48
    replace hA41 := hA41.up hx48
    exact r_retV x_184_62 rfl h
theorem m_X10_removeKid {d : Nat} {M : g_M} {Q : g_M → Prop} {a0 : Nat} {v1 : Int} (hv1 : g_InR v1) {v2 : Int} (hv2 : g_InR v2) (h : g_ok M → g_InR (v1 * 9) ∧ g_InR ((v1 * 9) + v2) ∧ g_O M a0 10 ∧ ∃ b4, g_r M a0 6 = some b4 ∧ ∃ n6, g_A M b4 1 n6 ∧ ((0 : Int) ≤ v1 ∧ (v1 : Int) < n6) ∧ ((v2 < g_i M b4 v1 → ∃ b9, g_r M a0 4 = some b9 ∧ g_InR (((v1 * 9) + v2) + 1) ∧ ∃ b12, g_r M a0 4 = some b12 ∧ ∃ b14, g_r M a0 6 = some b14 ∧ ∃ n16, g_A M b14 1 n16 ∧ ((0 : Int) ≤ v1 ∧ (v1 : Int) < n16) ∧ g_InR ((g_i M b14 v1) - v2) ∧ g_InR (((g_i M b14 v1) - v2) - 1) ∧ ∃ n21, g_A M b9 1 n21 ∧ ∃ n23, g_A M b12 1 n23 ∧ ((0 : Int) ≤ ((v1 * 9) + v2) + 1 ∧ (0 : Int) ≤ (v1 * 9) + v2 ∧ (0 : Int) ≤ ((g_i M b14 v1) - v2) - 1 ∧ ((((v1 * 9) + v2) + 1) : Int) + (((g_i M b14 v1) - v2) - 1) ≤ n21 ∧ (((v1 * 9) + v2) : Int) + (((g_i M b14 v1) - v2) - 1) ≤ n23) ∧ (∀ M26, M26 = g_cp M b9 b12 (((v1 * 9) + v2) + 1) ((v1 * 9) + v2) (((g_i M b14 v1) - v2) - 1) → g_ok M26 → ∃ b30, g_r M26 a0 6 = some b30 ∧ ∃ n32, g_A M26 b30 1 n32 ∧ ((0 : Int) ≤ v1 ∧ (v1 : Int) < n32) ∧ g_InR ((g_i M26 b30 v1) - 1) ∧ ((0 : Int) ≤ v1 ∧ (v1 : Int) < n32) ∧ (∀ M37, M37 = g_wi M26 b30 v1 ((g_i M26 b30 v1) - 1) → g_ok M37 → Q M37))) ∧ (¬ v2 < g_i M b4 v1 → Q M))) : g_Call (d + 1) 185 [.ref a0, g_n v1, g_n v2] M (g_qV Q) := by
  refine g_Call.ok fun hok0 => ?_
  replace h := h hok0
  refine r_body rfl (lv := [(0, .ref a0), (1, g_n v1), (2, g_n v2)]) rfl ?_
  refine g_Run.ok fun hok => ?_
  refine r_iload_n x_185_0 rfl ?_
  refine r_bipush x_185_1 (x := 9) rfl ?_
  refine r_imul x_185_3 ?_
  obtain ⟨h1, h⟩ := h
  refine r_iload_n x_185_4 rfl ?_
  refine r_iadd x_185_5 ?_
  obtain ⟨h2, h⟩ := h
  refine r_istore_n x_185_6 (by decide +kernel) rfl (lv1 := [(0, .ref a0), (1, g_n v1), (2, g_n v2), (3, g_n ((v1 * 9) + v2))]) rfl ?_
  refine r_iload_n x_185_7 rfl ?_
  refine r_aload_n x_185_8 rfl ?_
  obtain ⟨hO3, h⟩ := h
  obtain ⟨b4, hb5, h⟩ := h
  refine r_getR x_185_9 rfl (ci := 10) (k := 6) (ns := 0) (by decide +kernel) (by decide) rfl (kz := 6) rfl hO3 hb5 ?_
  refine r_iload_n x_185_12 rfl ?_
  obtain ⟨n6, hA7, h⟩ := h
  obtain ⟨h8, h⟩ := h
  refine r_iald x_185_13 hA7 hv1 h8.1 h8.2 ?_
  refine r_ic_ge x_185_14 (t := 52) (by decide +kernel) hv2 (hok.1 _ _) (fun hc => ?_) (fun hc => ?_)
  · replace h := h.2 hc
    exact r_retV x_185_52 rfl h
  · replace h := h.1 hc
    refine r_aload_n x_185_17 rfl ?_
    obtain ⟨b9, hb10, h⟩ := h
    refine r_getR x_185_18 rfl (ci := 10) (k := 4) (ns := 0) (by decide +kernel) (by decide) rfl (kz := 4) rfl hO3 hb10 ?_
    refine r_iload_n x_185_21 rfl ?_
    refine r_iconst x_185_22 ?_
    refine r_iadd x_185_23 ?_
    obtain ⟨h11, h⟩ := h
    refine r_aload_n x_185_24 rfl ?_
    obtain ⟨b12, hb13, h⟩ := h
    refine r_getR x_185_25 rfl (ci := 10) (k := 4) (ns := 0) (by decide +kernel) (by decide) rfl (kz := 4) rfl hO3 hb13 ?_
    refine r_iload_n x_185_28 rfl ?_
    refine r_aload_n x_185_29 rfl ?_
    obtain ⟨b14, hb15, h⟩ := h
    refine r_getR x_185_30 rfl (ci := 10) (k := 6) (ns := 0) (by decide +kernel) (by decide) rfl (kz := 6) rfl hO3 hb15 ?_
    refine r_iload_n x_185_33 rfl ?_
    obtain ⟨n16, hA17, h⟩ := h
    obtain ⟨h18, h⟩ := h
    refine r_iald x_185_34 hA17 hv1 h18.1 h18.2 ?_
    refine r_iload_n x_185_35 rfl ?_
    refine r_isub x_185_36 ?_
    obtain ⟨h19, h⟩ := h
    refine r_iconst x_185_37 ?_
    refine r_isub x_185_38 ?_
    obtain ⟨h20, h⟩ := h
    obtain ⟨n21, hA22, h⟩ := h
    obtain ⟨n23, hA24, h⟩ := h
    obtain ⟨h25, h⟩ := h
    refine r_copy x_185_39 rfl rfl rfl rfl rfl rfl (by decide) hA22 hA24 h11 h2 h20 h25.1 h25.2.1 h25.2.2.1 h25.2.2.2.1 h25.2.2.2.2 ?_
    obtain ⟨M26, hM27⟩ : ∃ Mz, Mz = g_cp M b9 b12 (((v1 * 9) + v2) + 1) ((v1 * 9) + v2) (((g_i M b14 v1) - v2) - 1) := ⟨_, rfl⟩
    rw [← hM27]
    refine g_Run.ok fun hok28 => ?_
    replace h := h M26 hM27 hok28
    have hx29 := g_extC hM27
    replace hO3 := hO3.up hx29
    replace hA7 := hA7.up hx29
    replace hA17 := hA17.up hx29
    replace hA22 := hA22.up hx29
    replace hA24 := hA24.up hx29
    refine r_aload_n x_185_42 rfl ?_
    obtain ⟨b30, hb31, h⟩ := h
    refine r_getR x_185_43 rfl (ci := 10) (k := 6) (ns := 0) (by decide +kernel) (by decide) rfl (kz := 6) rfl hO3 hb31 ?_
    refine r_iload_n x_185_46 rfl ?_
    refine r_dup2 x_185_47 rfl rfl ?_
    obtain ⟨n32, hA33, h⟩ := h
    obtain ⟨h34, h⟩ := h
    refine r_iald x_185_48 hA33 hv1 h34.1 h34.2 ?_
    refine r_iconst x_185_49 ?_
    refine r_isub x_185_50 ?_
    obtain ⟨h35, h⟩ := h
    obtain ⟨h36, h⟩ := h
    refine r_iast x_185_51 hA33 hv1 h36.1 h36.2 h35 ?_
    obtain ⟨M37, hM38⟩ : ∃ Mz, Mz = g_wi M26 b30 v1 ((g_i M26 b30 v1) - 1) := ⟨_, rfl⟩
    rw [← hM38]
    refine g_Run.ok fun hok39 => ?_
    replace h := h M37 hM38 hok39
    have hx40 := g_extW hM38
    replace hO3 := hO3.up hx40
    replace hA7 := hA7.up hx40
    replace hA17 := hA17.up hx40
    replace hA22 := hA22.up hx40
    replace hA24 := hA24.up hx40
    replace hA33 := hA33.up hx40
    exact r_retV x_185_52 rfl h
theorem m_X10_split {d : Nat} {M : g_M} {Q : g_M → Prop} {a0 : Nat} {v1 : Int} (hv1 : g_InR v1) (h : g_ok M → g_O M a0 10 ∧ ∃ b2, g_r M a0 10 = some b2 ∧ ∃ n4, g_A M b2 1 n4 ∧ ((0 : Int) ≤ v1 ∧ (v1 : Int) < n4) ∧ ∃ b7, g_r M a0 7 = some b7 ∧ ∃ n9, g_A M b7 2 n9 ∧ ((0 : Int) ≤ g_i M b2 v1 ∧ (g_i M b2 v1 : Int) < n9) ∧ g_Call d 176 [.ref a0, g_n (g_i M b7 (g_i M b2 v1))] M (g_qI fun r15 M12 => g_ext M M12 → g_ok M12 → g_InR r15 → g_InR ((g_i M b2 v1) * 9) ∧ ∃ b18, g_r M12 a0 6 = some b18 ∧ ∃ n20, g_A M12 b18 1 n20 ∧ ((0 : Int) ≤ g_i M b2 v1 ∧ (g_i M b2 v1 : Int) < n20) ∧ g_InR ((g_i M12 b18 (g_i M b2 v1)) - 4) ∧ ∃ b24, g_r M12 a0 4 = some b24 ∧ g_InR (((g_i M b2 v1) * 9) + 4) ∧ ∃ b27, g_r M12 a0 4 = some b27 ∧ g_InR (r15 * 9) ∧ ∃ n30, g_A M12 b24 1 n30 ∧ ∃ n32, g_A M12 b27 1 n32 ∧ ((0 : Int) ≤ ((g_i M b2 v1) * 9) + 4 ∧ (0 : Int) ≤ r15 * 9 ∧ (0 : Int) ≤ (g_i M12 b18 (g_i M b2 v1)) - 4 ∧ ((((g_i M b2 v1) * 9) + 4) : Int) + ((g_i M12 b18 (g_i M b2 v1)) - 4) ≤ n30 ∧ ((r15 * 9) : Int) + ((g_i M12 b18 (g_i M b2 v1)) - 4) ≤ n32) ∧ (∀ M35, M35 = g_cp M12 b24 b27 (((g_i M b2 v1) * 9) + 4) (r15 * 9) ((g_i M12 b18 (g_i M b2 v1)) - 4) → g_ok M35 → ∃ b39, g_r M35 a0 6 = some b39 ∧ ∃ n41, g_A M35 b39 1 n41 ∧ ((0 : Int) ≤ r15 ∧ (r15 : Int) < n41) ∧ (∀ M44, M44 = g_wi M35 b39 r15 ((g_i M12 b18 (g_i M b2 v1)) - 4) → g_ok M44 → ∃ b48, g_r M44 a0 6 = some b48 ∧ ∃ n50, g_A M44 b48 1 n50 ∧ ((0 : Int) ≤ g_i M b2 v1 ∧ (g_i M b2 v1 : Int) < n50) ∧ (∀ M53, M53 = g_wi M44 b48 (g_i M b2 v1) 4 → g_ok M53 → ∃ b57, g_r M53 a0 7 = some b57 ∧ ∃ n59, g_A M53 b57 2 n59 ∧ ((0 : Int) ≤ g_i M b2 v1 ∧ (g_i M b2 v1 : Int) < n59) ∧ ((g_i M53 b57 (g_i M b2 v1) = 0 → ∃ b62, g_r M53 a0 5 = some b62 ∧ g_InR (((g_i M b2 v1) * 9) + 4) ∧ g_InR ((((g_i M b2 v1) * 9) + 4) - 1) ∧ ∃ n66, g_A M53 b62 1 n66 ∧ ((0 : Int) ≤ (((g_i M b2 v1) * 9) + 4) - 1 ∧ ((((g_i M b2 v1) * 9) + 4) - 1 : Int) < n66) ∧ ∃ b69, g_r M53 a0 5 = some b69 ∧ g_InR (((g_i M b2 v1) * 9) + 4) ∧ ∃ b72, g_r M53 a0 5 = some b72 ∧ g_InR (r15 * 9) ∧ g_InR (((g_i M12 b18 (g_i M b2 v1)) - 4) - 1) ∧ ∃ n76, g_A M53 b69 1 n76 ∧ ∃ n78, g_A M53 b72 1 n78 ∧ ((0 : Int) ≤ ((g_i M b2 v1) * 9) + 4 ∧ (0 : Int) ≤ r15 * 9 ∧ (0 : Int) ≤ ((g_i M12 b18 (g_i M b2 v1)) - 4) - 1 ∧ ((((g_i M b2 v1) * 9) + 4) : Int) + (((g_i M12 b18 (g_i M b2 v1)) - 4) - 1) ≤ n76 ∧ ((r15 * 9) : Int) + (((g_i M12 b18 (g_i M b2 v1)) - 4) - 1) ≤ n78) ∧ (∀ M81, M81 = g_cp M53 b69 b72 (((g_i M b2 v1) * 9) + 4) (r15 * 9) (((g_i M12 b18 (g_i M b2 v1)) - 4) - 1) → g_ok M81 → g_Run d 186 133 [(0, .ref a0), (1, g_n v1), (2, g_n (g_i M b2 v1)), (3, g_n r15), (4, g_n ((g_i M b2 v1) * 9)), (5, g_n ((g_i M12 b18 (g_i M b2 v1)) - 4)), (6, g_n (g_i M53 b62 ((((g_i M b2 v1) * 9) + 4) - 1)))] [] M81 (g_qV Q))) ∧ (¬ g_i M53 b57 (g_i M b2 v1) = 0 → ∃ b85, g_r M53 a0 4 = some b85 ∧ g_InR (r15 * 9) ∧ ∃ n88, g_A M53 b85 1 n88 ∧ ((0 : Int) ≤ r15 * 9 ∧ (r15 * 9 : Int) < n88) ∧ g_Call d 179 [.ref a0, g_n (g_i M53 b85 (r15 * 9))] M53 (g_qI fun r94 M91 => g_ext M53 M91 → g_ok M91 → g_InR r94 → g_Run d 186 133 [(0, .ref a0), (1, g_n v1), (2, g_n (g_i M b2 v1)), (3, g_n r15), (4, g_n ((g_i M b2 v1) * 9)), (5, g_n ((g_i M12 b18 (g_i M b2 v1)) - 4)), (6, g_n r94)] [] M91 (g_qV Q))))))))) : g_Call (d + 1) 186 [.ref a0, g_n v1] M (g_qV Q) := by
  refine g_Call.ok fun hok0 => ?_
  replace h := h hok0
  refine r_body rfl (lv := [(0, .ref a0), (1, g_n v1)]) rfl ?_
  refine g_Run.ok fun hok => ?_
  refine r_aload_n x_186_0 rfl ?_
  obtain ⟨hO1, h⟩ := h
  obtain ⟨b2, hb3, h⟩ := h
  refine r_getR x_186_1 rfl (ci := 10) (k := 10) (ns := 0) (by decide +kernel) (by decide) rfl (kz := 10) rfl hO1 hb3 ?_
  refine r_iload_n x_186_4 rfl ?_
  obtain ⟨n4, hA5, h⟩ := h
  obtain ⟨h6, h⟩ := h
  refine r_iald x_186_5 hA5 hv1 h6.1 h6.2 ?_
  refine r_istore_n x_186_6 (by decide +kernel) rfl (lv1 := [(0, .ref a0), (1, g_n v1), (2, g_n (g_i M b2 v1))]) rfl ?_
  refine r_aload_n x_186_7 rfl ?_
  refine r_aload_n x_186_8 rfl ?_
  obtain ⟨b7, hb8, h⟩ := h
  refine r_getR x_186_9 rfl (ci := 10) (k := 7) (ns := 0) (by decide +kernel) (by decide) rfl (kz := 7) rfl hO1 hb8 ?_
  refine r_iload_n x_186_12 rfl ?_
  obtain ⟨n9, hA10, h⟩ := h
  obtain ⟨h11, h⟩ := h
  refine r_bald x_186_13 (Or.inr rfl) hA10 (hok.1 _ _) h11.1 h11.2 ?_
  refine r_invV x_186_14 (z := 176) (ns := 0) (by decide +kernel) (as := [g_n (g_i M b7 (g_i M b2 v1))]) (r := []) rfl rfl rfl hO1 rfl rfl ?_
  refine r_callI h fun r15 M12 hx13 hok14 hr16 h => ?_
  replace h := h hx13 hok14 hr16
  replace hO1 := hO1.up hx13
  replace hA5 := hA5.up hx13
  replace hA10 := hA10.up hx13
  refine r_istore_n x_186_17 (by decide +kernel) rfl (lv1 := [(0, .ref a0), (1, g_n v1), (2, g_n (g_i M b2 v1)), (3, g_n r15)]) rfl ?_
  refine r_iload_n x_186_18 rfl ?_
  refine r_bipush x_186_19 (x := 9) rfl ?_
  refine r_imul x_186_21 ?_
  obtain ⟨h17, h⟩ := h
  refine r_istore x_186_22 (by decide +kernel) rfl (lv1 := [(0, .ref a0), (1, g_n v1), (2, g_n (g_i M b2 v1)), (3, g_n r15), (4, g_n ((g_i M b2 v1) * 9))]) rfl ?_
  refine r_aload_n x_186_24 rfl ?_
  obtain ⟨b18, hb19, h⟩ := h
  refine r_getR x_186_25 rfl (ci := 10) (k := 6) (ns := 0) (by decide +kernel) (by decide) rfl (kz := 6) rfl hO1 hb19 ?_
  refine r_iload_n x_186_28 rfl ?_
  obtain ⟨n20, hA21, h⟩ := h
  obtain ⟨h22, h⟩ := h
  refine r_iald x_186_29 hA21 (hok.1 _ _) h22.1 h22.2 ?_
  refine r_iconst x_186_30 ?_
  refine r_isub x_186_31 ?_
  obtain ⟨h23, h⟩ := h
  refine r_istore x_186_32 (by decide +kernel) rfl (lv1 := [(0, .ref a0), (1, g_n v1), (2, g_n (g_i M b2 v1)), (3, g_n r15), (4, g_n ((g_i M b2 v1) * 9)), (5, g_n ((g_i M12 b18 (g_i M b2 v1)) - 4))]) rfl ?_
  refine r_aload_n x_186_34 rfl ?_
  obtain ⟨b24, hb25, h⟩ := h
  refine r_getR x_186_35 rfl (ci := 10) (k := 4) (ns := 0) (by decide +kernel) (by decide) rfl (kz := 4) rfl hO1 hb25 ?_
  refine r_iload x_186_38 rfl ?_
  refine r_iconst x_186_40 ?_
  refine r_iadd x_186_41 ?_
  obtain ⟨h26, h⟩ := h
  refine r_aload_n x_186_42 rfl ?_
  obtain ⟨b27, hb28, h⟩ := h
  refine r_getR x_186_43 rfl (ci := 10) (k := 4) (ns := 0) (by decide +kernel) (by decide) rfl (kz := 4) rfl hO1 hb28 ?_
  refine r_iload_n x_186_46 rfl ?_
  refine r_bipush x_186_47 (x := 9) rfl ?_
  refine r_imul x_186_49 ?_
  obtain ⟨h29, h⟩ := h
  refine r_iload x_186_50 rfl ?_
  obtain ⟨n30, hA31, h⟩ := h
  obtain ⟨n32, hA33, h⟩ := h
  obtain ⟨h34, h⟩ := h
  refine r_copy x_186_52 rfl rfl rfl rfl rfl rfl (by decide) hA31 hA33 h26 h29 h23 h34.1 h34.2.1 h34.2.2.1 h34.2.2.2.1 h34.2.2.2.2 ?_
  obtain ⟨M35, hM36⟩ : ∃ Mz, Mz = g_cp M12 b24 b27 (((g_i M b2 v1) * 9) + 4) (r15 * 9) ((g_i M12 b18 (g_i M b2 v1)) - 4) := ⟨_, rfl⟩
  rw [← hM36]
  refine g_Run.ok fun hok37 => ?_
  replace h := h M35 hM36 hok37
  have hx38 := g_extC hM36
  replace hO1 := hO1.up hx38
  replace hA5 := hA5.up hx38
  replace hA10 := hA10.up hx38
  replace hA21 := hA21.up hx38
  replace hA31 := hA31.up hx38
  replace hA33 := hA33.up hx38
  refine r_aload_n x_186_55 rfl ?_
  obtain ⟨b39, hb40, h⟩ := h
  refine r_getR x_186_56 rfl (ci := 10) (k := 6) (ns := 0) (by decide +kernel) (by decide) rfl (kz := 6) rfl hO1 hb40 ?_
  refine r_iload_n x_186_59 rfl ?_
  refine r_iload x_186_60 rfl ?_
  obtain ⟨n41, hA42, h⟩ := h
  obtain ⟨h43, h⟩ := h
  refine r_iast x_186_62 hA42 hr16 h43.1 h43.2 h23 ?_
  obtain ⟨M44, hM45⟩ : ∃ Mz, Mz = g_wi M35 b39 r15 ((g_i M12 b18 (g_i M b2 v1)) - 4) := ⟨_, rfl⟩
  rw [← hM45]
  refine g_Run.ok fun hok46 => ?_
  replace h := h M44 hM45 hok46
  have hx47 := g_extW hM45
  replace hO1 := hO1.up hx47
  replace hA5 := hA5.up hx47
  replace hA10 := hA10.up hx47
  replace hA21 := hA21.up hx47
  replace hA31 := hA31.up hx47
  replace hA33 := hA33.up hx47
  replace hA42 := hA42.up hx47
  refine r_aload_n x_186_63 rfl ?_
  obtain ⟨b48, hb49, h⟩ := h
  refine r_getR x_186_64 rfl (ci := 10) (k := 6) (ns := 0) (by decide +kernel) (by decide) rfl (kz := 6) rfl hO1 hb49 ?_
  refine r_iload_n x_186_67 rfl ?_
  refine r_iconst x_186_68 ?_
  obtain ⟨n50, hA51, h⟩ := h
  obtain ⟨h52, h⟩ := h
  refine r_iast x_186_69 hA51 (hok.1 _ _) h52.1 h52.2 (g_Rk rfl) ?_
  obtain ⟨M53, hM54⟩ : ∃ Mz, Mz = g_wi M44 b48 (g_i M b2 v1) 4 := ⟨_, rfl⟩
  rw [← hM54]
  refine g_Run.ok fun hok55 => ?_
  replace h := h M53 hM54 hok55
  have hx56 := g_extW hM54
  replace hO1 := hO1.up hx56
  replace hA5 := hA5.up hx56
  replace hA10 := hA10.up hx56
  replace hA21 := hA21.up hx56
  replace hA31 := hA31.up hx56
  replace hA33 := hA33.up hx56
  replace hA42 := hA42.up hx56
  replace hA51 := hA51.up hx56
  refine r_aload_n x_186_70 rfl ?_
  obtain ⟨b57, hb58, h⟩ := h
  refine r_getR x_186_71 rfl (ci := 10) (k := 7) (ns := 0) (by decide +kernel) (by decide) rfl (kz := 7) rfl hO1 hb58 ?_
  refine r_iload_n x_186_74 rfl ?_
  obtain ⟨n59, hA60, h⟩ := h
  obtain ⟨h61, h⟩ := h
  refine r_bald x_186_75 (Or.inr rfl) hA60 (hok.1 _ _) h61.1 h61.2 ?_
  refine r_if_eq x_186_76 (t := 97) (by decide +kernel) (hok55.1 _ _) (fun hc => ?_) (fun hc => ?_)
  · replace h := h.1 hc
    refine r_aload_n x_186_97 rfl ?_
    obtain ⟨b62, hb63, h⟩ := h
    refine r_getR x_186_98 rfl (ci := 10) (k := 5) (ns := 0) (by decide +kernel) (by decide) rfl (kz := 5) rfl hO1 hb63 ?_
    refine r_iload x_186_101 rfl ?_
    refine r_iconst x_186_103 ?_
    refine r_iadd x_186_104 ?_
    obtain ⟨h64, h⟩ := h
    refine r_iconst x_186_105 ?_
    refine r_isub x_186_106 ?_
    obtain ⟨h65, h⟩ := h
    obtain ⟨n66, hA67, h⟩ := h
    obtain ⟨h68, h⟩ := h
    refine r_iald x_186_107 hA67 h65 h68.1 h68.2 ?_
    refine r_istore x_186_108 (by decide +kernel) rfl (lv1 := [(0, .ref a0), (1, g_n v1), (2, g_n (g_i M b2 v1)), (3, g_n r15), (4, g_n ((g_i M b2 v1) * 9)), (5, g_n ((g_i M12 b18 (g_i M b2 v1)) - 4)), (6, g_n (g_i M53 b62 ((((g_i M b2 v1) * 9) + 4) - 1)))]) rfl ?_
    refine r_aload_n x_186_110 rfl ?_
    obtain ⟨b69, hb70, h⟩ := h
    refine r_getR x_186_111 rfl (ci := 10) (k := 5) (ns := 0) (by decide +kernel) (by decide) rfl (kz := 5) rfl hO1 hb70 ?_
    refine r_iload x_186_114 rfl ?_
    refine r_iconst x_186_116 ?_
    refine r_iadd x_186_117 ?_
    obtain ⟨h71, h⟩ := h
    refine r_aload_n x_186_118 rfl ?_
    obtain ⟨b72, hb73, h⟩ := h
    refine r_getR x_186_119 rfl (ci := 10) (k := 5) (ns := 0) (by decide +kernel) (by decide) rfl (kz := 5) rfl hO1 hb73 ?_
    refine r_iload_n x_186_122 rfl ?_
    refine r_bipush x_186_123 (x := 9) rfl ?_
    refine r_imul x_186_125 ?_
    obtain ⟨h74, h⟩ := h
    refine r_iload x_186_126 rfl ?_
    refine r_iconst x_186_128 ?_
    refine r_isub x_186_129 ?_
    obtain ⟨h75, h⟩ := h
    obtain ⟨n76, hA77, h⟩ := h
    obtain ⟨n78, hA79, h⟩ := h
    obtain ⟨h80, h⟩ := h
    refine r_copy x_186_130 rfl rfl rfl rfl rfl rfl (by decide) hA77 hA79 h71 h74 h75 h80.1 h80.2.1 h80.2.2.1 h80.2.2.2.1 h80.2.2.2.2 ?_
    obtain ⟨M81, hM82⟩ : ∃ Mz, Mz = g_cp M53 b69 b72 (((g_i M b2 v1) * 9) + 4) (r15 * 9) (((g_i M12 b18 (g_i M b2 v1)) - 4) - 1) := ⟨_, rfl⟩
    rw [← hM82]
    refine g_Run.ok fun hok83 => ?_
    replace h := h M81 hM82 hok83
    have hx84 := g_extC hM82
    replace hO1 := hO1.up hx84
    replace hA5 := hA5.up hx84
    replace hA10 := hA10.up hx84
    replace hA21 := hA21.up hx84
    replace hA31 := hA31.up hx84
    replace hA33 := hA33.up hx84
    replace hA42 := hA42.up hx84
    replace hA51 := hA51.up hx84
    replace hA60 := hA60.up hx84
    replace hA67 := hA67.up hx84
    replace hA77 := hA77.up hx84
    replace hA79 := hA79.up hx84
    exact h
  · replace h := h.2 hc
    refine r_aload_n x_186_79 rfl ?_
    refine r_aload_n x_186_80 rfl ?_
    obtain ⟨b85, hb86, h⟩ := h
    refine r_getR x_186_81 rfl (ci := 10) (k := 4) (ns := 0) (by decide +kernel) (by decide) rfl (kz := 4) rfl hO1 hb86 ?_
    refine r_iload_n x_186_84 rfl ?_
    refine r_bipush x_186_85 (x := 9) rfl ?_
    refine r_imul x_186_87 ?_
    obtain ⟨h87, h⟩ := h
    obtain ⟨n88, hA89, h⟩ := h
    obtain ⟨h90, h⟩ := h
    refine r_iald x_186_88 hA89 h87 h90.1 h90.2 ?_
    refine r_invV x_186_89 (z := 179) (ns := 0) (by decide +kernel) (as := [g_n (g_i M53 b85 (r15 * 9))]) (r := []) rfl rfl rfl hO1 rfl rfl ?_
    refine r_callI h fun r94 M91 hx92 hok93 hr95 h => ?_
    replace h := h hx92 hok93 hr95
    replace hO1 := hO1.up hx92
    replace hA5 := hA5.up hx92
    replace hA10 := hA10.up hx92
    replace hA21 := hA21.up hx92
    replace hA31 := hA31.up hx92
    replace hA33 := hA33.up hx92
    replace hA42 := hA42.up hx92
    replace hA51 := hA51.up hx92
    replace hA60 := hA60.up hx92
    replace hA89 := hA89.up hx92
    refine r_istore x_186_92 (by decide +kernel) rfl (lv1 := [(0, .ref a0), (1, g_n v1), (2, g_n (g_i M b2 v1)), (3, g_n r15), (4, g_n ((g_i M b2 v1) * 9)), (5, g_n ((g_i M12 b18 (g_i M b2 v1)) - 4)), (6, g_n r94)]) rfl ?_
    refine r_goto x_186_94 (t := 133) (by decide +kernel) ?_
    exact h
theorem s_X10_split_133 {d : Nat} {M : g_M} {Q : g_M → Prop} {a0 : Nat} {v1 : Int} (hv1 : g_InR v1) {v2 : Int} (hv2 : g_InR v2) {v3 : Int} (hv3 : g_InR v3) {v4 : Int} (hv4 : g_InR v4) {v5 : Int} (hv5 : g_InR v5) {v6 : Int} (hv6 : g_InR v6) (h : g_ok M → ((v1 = 0 → g_O M a0 10 ∧ g_Call d 176 [.ref a0, g_n 0] M (g_qI fun r54 M51 => g_ext M M51 → g_ok M51 → g_InR r54 → (∀ M56, M56 = g_wi M51 a0 14 r54 → g_ok M56 → g_Call d 184 [.ref a0, g_n (g_i M56 a0 14), g_n 0, g_n v2] M56 (g_qV fun M60 => g_ext M56 M60 → g_ok M60 → g_Call d 184 [.ref a0, g_n (g_i M60 a0 14), g_n 1, g_n v3] M60 (g_qV fun M63 => g_ext M60 M63 → g_ok M63 → ∃ b66, g_r M63 a0 5 = some b66 ∧ g_InR ((g_i M63 a0 14) * 9) ∧ ∃ n69, g_A M63 b66 1 n69 ∧ ((0 : Int) ≤ (g_i M63 a0 14) * 9 ∧ ((g_i M63 a0 14) * 9 : Int) < n69) ∧ (∀ M72, M72 = g_wi M63 b66 ((g_i M63 a0 14) * 9) v6 → g_ok M72 → Q M72)))))) ∧ (¬ v1 = 0 → g_O M a0 10 ∧ ∃ b2, g_r M a0 10 = some b2 ∧ g_InR (v1 - 1) ∧ ∃ n5, g_A M b2 1 n5 ∧ ((0 : Int) ≤ v1 - 1 ∧ (v1 - 1 : Int) < n5) ∧ ∃ b8, g_r M a0 11 = some b8 ∧ g_InR (v1 - 1) ∧ ∃ n11, g_A M b8 1 n11 ∧ ((0 : Int) ≤ v1 - 1 ∧ (v1 - 1 : Int) < n11) ∧ g_InR ((g_i M b2 (v1 - 1)) * 9) ∧ g_InR (((g_i M b2 (v1 - 1)) * 9) + (g_i M b8 (v1 - 1))) ∧ ∃ b16, g_r M a0 5 = some b16 ∧ ∃ b18, g_r M a0 5 = some b18 ∧ g_InR ((((g_i M b2 (v1 - 1)) * 9) + (g_i M b8 (v1 - 1))) + 1) ∧ ∃ b21, g_r M a0 6 = some b21 ∧ ∃ n23, g_A M b21 1 n23 ∧ ((0 : Int) ≤ g_i M b2 (v1 - 1) ∧ (g_i M b2 (v1 - 1) : Int) < n23) ∧ g_InR ((g_i M b21 (g_i M b2 (v1 - 1))) - 1) ∧ g_InR (((g_i M b21 (g_i M b2 (v1 - 1))) - 1) - (g_i M b8 (v1 - 1))) ∧ ∃ n28, g_A M b16 1 n28 ∧ ∃ n30, g_A M b18 1 n30 ∧ ((0 : Int) ≤ ((g_i M b2 (v1 - 1)) * 9) + (g_i M b8 (v1 - 1)) ∧ (0 : Int) ≤ (((g_i M b2 (v1 - 1)) * 9) + (g_i M b8 (v1 - 1))) + 1 ∧ (0 : Int) ≤ ((g_i M b21 (g_i M b2 (v1 - 1))) - 1) - (g_i M b8 (v1 - 1)) ∧ ((((g_i M b2 (v1 - 1)) * 9) + (g_i M b8 (v1 - 1))) : Int) + (((g_i M b21 (g_i M b2 (v1 - 1))) - 1) - (g_i M b8 (v1 - 1))) ≤ n28 ∧ (((((g_i M b2 (v1 - 1)) * 9) + (g_i M b8 (v1 - 1))) + 1) : Int) + (((g_i M b21 (g_i M b2 (v1 - 1))) - 1) - (g_i M b8 (v1 - 1))) ≤ n30) ∧ (∀ M33, M33 = g_cp M b16 b18 (((g_i M b2 (v1 - 1)) * 9) + (g_i M b8 (v1 - 1))) ((((g_i M b2 (v1 - 1)) * 9) + (g_i M b8 (v1 - 1))) + 1) (((g_i M b21 (g_i M b2 (v1 - 1))) - 1) - (g_i M b8 (v1 - 1))) → g_ok M33 → ∃ b37, g_r M33 a0 5 = some b37 ∧ ∃ n39, g_A M33 b37 1 n39 ∧ ((0 : Int) ≤ ((g_i M b2 (v1 - 1)) * 9) + (g_i M b8 (v1 - 1)) ∧ (((g_i M b2 (v1 - 1)) * 9) + (g_i M b8 (v1 - 1)) : Int) < n39) ∧ (∀ M42, M42 = g_wi M33 b37 (((g_i M b2 (v1 - 1)) * 9) + (g_i M b8 (v1 - 1))) v6 → g_ok M42 → g_InR ((g_i M b8 (v1 - 1)) + 1) ∧ g_Call d 184 [.ref a0, g_n (g_i M b2 (v1 - 1)), g_n ((g_i M b8 (v1 - 1)) + 1), g_n v3] M42 (g_qV fun M47 => g_ext M42 M47 → g_ok M47 → Q M47)))))) : g_Run d 186 133 [(0, .ref a0), (1, g_n v1), (2, g_n v2), (3, g_n v3), (4, g_n v4), (5, g_n v5), (6, g_n v6)] [] M (g_qV Q) := by
  refine g_Run.ok fun hok => ?_
  replace h := h hok
  refine r_iload_n x_186_133 rfl ?_
  refine r_if_ne x_186_134 (t := 181) (by decide +kernel) hv1 (fun hc => ?_) (fun hc => ?_)
  · replace h := h.2 hc
    refine r_aload_n x_186_181 rfl ?_
    obtain ⟨hO1, h⟩ := h
    obtain ⟨b2, hb3, h⟩ := h
    refine r_getR x_186_182 rfl (ci := 10) (k := 10) (ns := 0) (by decide +kernel) (by decide) rfl (kz := 10) rfl hO1 hb3 ?_
    refine r_iload_n x_186_185 rfl ?_
    refine r_iconst x_186_186 ?_
    refine r_isub x_186_187 ?_
    obtain ⟨h4, h⟩ := h
    obtain ⟨n5, hA6, h⟩ := h
    obtain ⟨h7, h⟩ := h
    refine r_iald x_186_188 hA6 h4 h7.1 h7.2 ?_
    refine r_istore x_186_189 (by decide +kernel) rfl (lv1 := [(0, .ref a0), (1, g_n v1), (2, g_n v2), (3, g_n v3), (4, g_n v4), (5, g_n v5), (6, g_n v6), (7, g_n (g_i M b2 (v1 - 1)))]) rfl ?_
    refine r_aload_n x_186_191 rfl ?_
    obtain ⟨b8, hb9, h⟩ := h
    refine r_getR x_186_192 rfl (ci := 10) (k := 11) (ns := 0) (by decide +kernel) (by decide) rfl (kz := 11) rfl hO1 hb9 ?_
    refine r_iload_n x_186_195 rfl ?_
    refine r_iconst x_186_196 ?_
    refine r_isub x_186_197 ?_
    obtain ⟨h10, h⟩ := h
    obtain ⟨n11, hA12, h⟩ := h
    obtain ⟨h13, h⟩ := h
    refine r_iald x_186_198 hA12 h10 h13.1 h13.2 ?_
    refine r_istore x_186_199 (by decide +kernel) rfl (lv1 := [(0, .ref a0), (1, g_n v1), (2, g_n v2), (3, g_n v3), (4, g_n v4), (5, g_n v5), (6, g_n v6), (7, g_n (g_i M b2 (v1 - 1))), (8, g_n (g_i M b8 (v1 - 1)))]) rfl ?_
    refine r_iload x_186_201 rfl ?_
    refine r_bipush x_186_203 (x := 9) rfl ?_
    refine r_imul x_186_205 ?_
    obtain ⟨h14, h⟩ := h
    refine r_iload x_186_206 rfl ?_
    refine r_iadd x_186_208 ?_
    obtain ⟨h15, h⟩ := h
    refine r_istore x_186_209 (by decide +kernel) rfl (lv1 := [(0, .ref a0), (1, g_n v1), (2, g_n v2), (3, g_n v3), (4, g_n v4), (5, g_n v5), (6, g_n v6), (7, g_n (g_i M b2 (v1 - 1))), (8, g_n (g_i M b8 (v1 - 1))), (9, g_n (((g_i M b2 (v1 - 1)) * 9) + (g_i M b8 (v1 - 1))))]) rfl ?_
    refine r_aload_n x_186_211 rfl ?_
    obtain ⟨b16, hb17, h⟩ := h
    refine r_getR x_186_212 rfl (ci := 10) (k := 5) (ns := 0) (by decide +kernel) (by decide) rfl (kz := 5) rfl hO1 hb17 ?_
    refine r_iload x_186_215 rfl ?_
    refine r_aload_n x_186_217 rfl ?_
    obtain ⟨b18, hb19, h⟩ := h
    refine r_getR x_186_218 rfl (ci := 10) (k := 5) (ns := 0) (by decide +kernel) (by decide) rfl (kz := 5) rfl hO1 hb19 ?_
    refine r_iload x_186_221 rfl ?_
    refine r_iconst x_186_223 ?_
    refine r_iadd x_186_224 ?_
    obtain ⟨h20, h⟩ := h
    refine r_aload_n x_186_225 rfl ?_
    obtain ⟨b21, hb22, h⟩ := h
    refine r_getR x_186_226 rfl (ci := 10) (k := 6) (ns := 0) (by decide +kernel) (by decide) rfl (kz := 6) rfl hO1 hb22 ?_
    refine r_iload x_186_229 rfl ?_
    obtain ⟨n23, hA24, h⟩ := h
    obtain ⟨h25, h⟩ := h
    refine r_iald x_186_231 hA24 (hok.1 _ _) h25.1 h25.2 ?_
    refine r_iconst x_186_232 ?_
    refine r_isub x_186_233 ?_
    obtain ⟨h26, h⟩ := h
    refine r_iload x_186_234 rfl ?_
    refine r_isub x_186_236 ?_
    obtain ⟨h27, h⟩ := h
    obtain ⟨n28, hA29, h⟩ := h
    obtain ⟨n30, hA31, h⟩ := h
    obtain ⟨h32, h⟩ := h
    refine r_copy x_186_237 rfl rfl rfl rfl rfl rfl (by decide) hA29 hA31 h15 h20 h27 h32.1 h32.2.1 h32.2.2.1 h32.2.2.2.1 h32.2.2.2.2 ?_
    obtain ⟨M33, hM34⟩ : ∃ Mz, Mz = g_cp M b16 b18 (((g_i M b2 (v1 - 1)) * 9) + (g_i M b8 (v1 - 1))) ((((g_i M b2 (v1 - 1)) * 9) + (g_i M b8 (v1 - 1))) + 1) (((g_i M b21 (g_i M b2 (v1 - 1))) - 1) - (g_i M b8 (v1 - 1))) := ⟨_, rfl⟩
    rw [← hM34]
    refine g_Run.ok fun hok35 => ?_
    replace h := h M33 hM34 hok35
    have hx36 := g_extC hM34
    replace hO1 := hO1.up hx36
    replace hA6 := hA6.up hx36
    replace hA12 := hA12.up hx36
    replace hA24 := hA24.up hx36
    replace hA29 := hA29.up hx36
    replace hA31 := hA31.up hx36
    refine r_aload_n x_186_240 rfl ?_
    obtain ⟨b37, hb38, h⟩ := h
    refine r_getR x_186_241 rfl (ci := 10) (k := 5) (ns := 0) (by decide +kernel) (by decide) rfl (kz := 5) rfl hO1 hb38 ?_
    refine r_iload x_186_244 rfl ?_
    refine r_iload x_186_246 rfl ?_
    obtain ⟨n39, hA40, h⟩ := h
    obtain ⟨h41, h⟩ := h
    refine r_iast x_186_248 hA40 h15 h41.1 h41.2 hv6 ?_
    obtain ⟨M42, hM43⟩ : ∃ Mz, Mz = g_wi M33 b37 (((g_i M b2 (v1 - 1)) * 9) + (g_i M b8 (v1 - 1))) v6 := ⟨_, rfl⟩
    rw [← hM43]
    refine g_Run.ok fun hok44 => ?_
    replace h := h M42 hM43 hok44
    have hx45 := g_extW hM43
    replace hO1 := hO1.up hx45
    replace hA6 := hA6.up hx45
    replace hA12 := hA12.up hx45
    replace hA24 := hA24.up hx45
    replace hA29 := hA29.up hx45
    replace hA31 := hA31.up hx45
    replace hA40 := hA40.up hx45
    refine r_aload_n x_186_249 rfl ?_
    refine r_iload x_186_250 rfl ?_
    refine r_iload x_186_252 rfl ?_
    refine r_iconst x_186_254 ?_
    refine r_iadd x_186_255 ?_
    obtain ⟨h46, h⟩ := h
    refine r_iload_n x_186_256 rfl ?_
    refine r_invV x_186_257 (z := 184) (ns := 0) (by decide +kernel) (as := [g_n (g_i M b2 (v1 - 1)), g_n ((g_i M b8 (v1 - 1)) + 1), g_n v3]) (r := []) rfl rfl rfl hO1 rfl rfl ?_
    refine r_callV h fun M47 hx48 hok49 h => ?_
    replace h := h hx48 hok49
    replace hO1 := hO1.up hx48
    replace hA6 := hA6.up hx48
    replace hA12 := hA12.up hx48
    replace hA24 := hA24.up hx48
    replace hA29 := hA29.up hx48
    replace hA31 := hA31.up hx48
    replace hA40 := hA40.up hx48
    exact r_retV x_186_260 rfl h
  · replace h := h.1 hc
    refine r_aload_n x_186_137 rfl ?_
    refine r_aload_n x_186_138 rfl ?_
    refine r_iconst x_186_139 ?_
    obtain ⟨hO50, h⟩ := h
    refine r_invV x_186_140 (z := 176) (ns := 0) (by decide +kernel) (as := [g_n 0]) (r := [.ref a0]) rfl rfl rfl hO50 rfl rfl ?_
    refine r_callI h fun r54 M51 hx52 hok53 hr55 h => ?_
    replace h := h hx52 hok53 hr55
    replace hO50 := hO50.up hx52
    refine r_putI x_186_143 (ci := 10) (k := 14) (ns := 0) (by decide +kernel) (by decide) (g_f0 (by decide +kernel)) rfl hr55 trivial (kz := 14) rfl hO50 ?_
    obtain ⟨M56, hM57⟩ : ∃ Mz, Mz = g_wi M51 a0 14 r54 := ⟨_, rfl⟩
    rw [← hM57]
    refine g_Run.ok fun hok58 => ?_
    replace h := h M56 hM57 hok58
    have hx59 := g_extW hM57
    replace hO50 := hO50.up hx59
    refine r_aload_n x_186_146 rfl ?_
    refine r_aload_n x_186_147 rfl ?_
    refine r_getI x_186_148 rfl (ci := 10) (k := 14) (ns := 0) (by decide +kernel) (by decide) rfl (kz := 14) rfl hO50 ?_
    refine r_iconst x_186_151 ?_
    refine r_iload_n x_186_152 rfl ?_
    refine r_invV x_186_153 (z := 184) (ns := 0) (by decide +kernel) (as := [g_n (g_i M56 a0 14), g_n 0, g_n v2]) (r := []) rfl rfl rfl hO50 rfl rfl ?_
    refine r_callV h fun M60 hx61 hok62 h => ?_
    replace h := h hx61 hok62
    replace hO50 := hO50.up hx61
    refine r_aload_n x_186_156 rfl ?_
    refine r_aload_n x_186_157 rfl ?_
    refine r_getI x_186_158 rfl (ci := 10) (k := 14) (ns := 0) (by decide +kernel) (by decide) rfl (kz := 14) rfl hO50 ?_
    refine r_iconst x_186_161 ?_
    refine r_iload_n x_186_162 rfl ?_
    refine r_invV x_186_163 (z := 184) (ns := 0) (by decide +kernel) (as := [g_n (g_i M60 a0 14), g_n 1, g_n v3]) (r := []) rfl rfl rfl hO50 rfl rfl ?_
    refine r_callV h fun M63 hx64 hok65 h => ?_
    replace h := h hx64 hok65
    replace hO50 := hO50.up hx64
    refine r_aload_n x_186_166 rfl ?_
    obtain ⟨b66, hb67, h⟩ := h
    refine r_getR x_186_167 rfl (ci := 10) (k := 5) (ns := 0) (by decide +kernel) (by decide) rfl (kz := 5) rfl hO50 hb67 ?_
    refine r_aload_n x_186_170 rfl ?_
    refine r_getI x_186_171 rfl (ci := 10) (k := 14) (ns := 0) (by decide +kernel) (by decide) rfl (kz := 14) rfl hO50 ?_
    refine r_bipush x_186_174 (x := 9) rfl ?_
    refine r_imul x_186_176 ?_
    obtain ⟨h68, h⟩ := h
    refine r_iload x_186_177 rfl ?_
    obtain ⟨n69, hA70, h⟩ := h
    obtain ⟨h71, h⟩ := h
    refine r_iast x_186_179 hA70 h68 h71.1 h71.2 hv6 ?_
    obtain ⟨M72, hM73⟩ : ∃ Mz, Mz = g_wi M63 b66 ((g_i M63 a0 14) * 9) v6 := ⟨_, rfl⟩
    rw [← hM73]
    refine g_Run.ok fun hok74 => ?_
    replace h := h M72 hM73 hok74
    have hx75 := g_extW hM73
    replace hO50 := hO50.up hx75
    replace hA70 := hA70.up hx75
    exact r_retV x_186_180 rfl h
theorem m_X10_goes {d : Nat} {M : g_M} {Q : g_M → Prop} {a0 : Nat} {a1 : Nat} {v2 : Int} (hv2 : g_InR v2) {v3 : Int} (hv3 : g_InR v3) {v4 : Int} (hv4 : g_InR v4) (h : g_ok M → g_O M a0 10 ∧ g_Call d 178 [.ref a0, g_n (g_i M a0 18), .ref a1, g_n v2, g_n v3, g_n v4] M (g_qV fun M2 => g_ext M M2 → g_ok M2 → g_Call d 182 [.ref a0] M2 (g_qI fun r8 M5 => g_ext M2 M5 → g_ok M5 → g_InR r8 → ∃ b10, g_r M5 a0 10 = some b10 ∧ ∃ n12, g_A M5 b10 1 n12 ∧ ((0 : Int) ≤ r8 ∧ (r8 : Int) < n12) ∧ g_Run d 187 31 [(0, .ref a0), (1, .ref a1), (2, g_n v2), (3, g_n v3), (4, g_n v4), (5, g_n r8), (6, g_n (g_i M5 b10 r8)), (7, g_n 0)] [] M5 (g_qV Q)))) : g_Call (d + 1) 187 [.ref a0, .ref a1, g_n v2, g_n v3, g_n v4] M (g_qV Q) := by
  refine g_Call.ok fun hok0 => ?_
  replace h := h hok0
  refine r_body rfl (lv := [(0, .ref a0), (1, .ref a1), (2, g_n v2), (3, g_n v3), (4, g_n v4)]) rfl ?_
  refine g_Run.ok fun hok => ?_
  refine r_aload_n x_187_0 rfl ?_
  refine r_aload_n x_187_1 rfl ?_
  obtain ⟨hO1, h⟩ := h
  refine r_getI x_187_2 rfl (ci := 10) (k := 18) (ns := 0) (by decide +kernel) (by decide) rfl (kz := 18) rfl hO1 ?_
  refine r_aload_n x_187_5 rfl ?_
  refine r_iload_n x_187_6 rfl ?_
  refine r_iload_n x_187_7 rfl ?_
  refine r_iload x_187_8 rfl ?_
  refine r_invV x_187_10 (z := 178) (ns := 0) (by decide +kernel) (as := [g_n (g_i M a0 18), .ref a1, g_n v2, g_n v3, g_n v4]) (r := []) rfl rfl rfl hO1 rfl rfl ?_
  refine r_callV h fun M2 hx3 hok4 h => ?_
  replace h := h hx3 hok4
  replace hO1 := hO1.up hx3
  refine r_aload_n x_187_13 rfl ?_
  refine r_invV x_187_14 (z := 182) (ns := 0) (by decide +kernel) (as := []) (r := []) rfl rfl rfl hO1 rfl rfl ?_
  refine r_callI h fun r8 M5 hx6 hok7 hr9 h => ?_
  replace h := h hx6 hok7 hr9
  replace hO1 := hO1.up hx6
  refine r_istore x_187_17 (by decide +kernel) rfl (lv1 := [(0, .ref a0), (1, .ref a1), (2, g_n v2), (3, g_n v3), (4, g_n v4), (5, g_n r8)]) rfl ?_
  refine r_aload_n x_187_19 rfl ?_
  obtain ⟨b10, hb11, h⟩ := h
  refine r_getR x_187_20 rfl (ci := 10) (k := 10) (ns := 0) (by decide +kernel) (by decide) rfl (kz := 10) rfl hO1 hb11 ?_
  refine r_iload x_187_23 rfl ?_
  obtain ⟨n12, hA13, h⟩ := h
  obtain ⟨h14, h⟩ := h
  refine r_iald x_187_25 hA13 hr9 h14.1 h14.2 ?_
  refine r_istore x_187_26 (by decide +kernel) rfl (lv1 := [(0, .ref a0), (1, .ref a1), (2, g_n v2), (3, g_n v3), (4, g_n v4), (5, g_n r8), (6, g_n (g_i M5 b10 r8))]) rfl ?_
  refine r_iconst x_187_28 ?_
  refine r_istore x_187_29 (by decide +kernel) rfl (lv1 := [(0, .ref a0), (1, .ref a1), (2, g_n v2), (3, g_n v3), (4, g_n v4), (5, g_n r8), (6, g_n (g_i M5 b10 r8)), (7, g_n 0)]) rfl ?_
  exact h
theorem s_X10_goes_31 {d : Nat} {M : g_M} {Q : g_M → Prop} {a0 : Nat} {a1 : Nat} {v2 : Int} (hv2 : g_InR v2) {v3 : Int} (hv3 : g_InR v3) {v4 : Int} (hv4 : g_InR v4) {v5 : Int} (hv5 : g_InR v5) {v6 : Int} (hv6 : g_InR v6) {v7 : Int} (hv7 : g_InR v7) (h : g_ok M → g_O M a0 10 ∧ ∃ b2, g_r M a0 6 = some b2 ∧ ∃ n4, g_A M b2 1 n4 ∧ ((0 : Int) ≤ v6 ∧ (v6 : Int) < n4) ∧ ((v7 < g_i M b2 v6 → ∃ b7, g_r M a0 4 = some b7 ∧ g_InR (v6 * 9) ∧ g_InR ((v6 * 9) + v7) ∧ ∃ n11, g_A M b7 1 n11 ∧ ((0 : Int) ≤ (v6 * 9) + v7 ∧ ((v6 * 9) + v7 : Int) < n11) ∧ g_Call d 180 [.ref a0, g_n (g_i M b7 ((v6 * 9) + v7)), g_n (g_i M a0 18)] M (g_qI fun r17 M14 => g_ext M M14 → g_ok M14 → g_InR r17 → ((r17 = 0 → g_Call d 185 [.ref a0, g_n v6, g_n v7] M14 (g_qV fun M20 => g_ext M14 M20 → g_ok M20 → g_Call d 175 [.ref a0, g_n (g_i M b7 ((v6 * 9) + v7))] M20 (g_qV fun M23 => g_ext M20 M23 → g_ok M23 → g_InR ((g_i M23 a0 15) - 1) ∧ (∀ M27, M27 = g_wi M23 a0 15 ((g_i M23 a0 15) - 1) → g_ok M27 → g_Run d 187 108 [(0, .ref a0), (1, .ref a1), (2, g_n v2), (3, g_n v3), (4, g_n v4), (5, g_n v5), (6, g_n v6), (7, g_n v5)] [] M27 (g_qV Q))))) ∧ (¬ r17 = 0 → g_InR (v7 + 1) ∧ g_Run d 187 31 [(0, .ref a0), (1, .ref a1), (2, g_n v2), (3, g_n v3), (4, g_n v4), (5, g_n v5), (6, g_n v6), (7, g_n (v7 + 1))] [] M14 (g_qV Q))))) ∧ (¬ v7 < g_i M b2 v6 → g_Run d 187 108 [(0, .ref a0), (1, .ref a1), (2, g_n v2), (3, g_n v3), (4, g_n v4), (5, g_n v5), (6, g_n v6), (7, g_n v5)] [] M (g_qV Q)))) : g_Run d 187 31 [(0, .ref a0), (1, .ref a1), (2, g_n v2), (3, g_n v3), (4, g_n v4), (5, g_n v5), (6, g_n v6), (7, g_n v7)] [] M (g_qV Q) := by
  refine g_Run.ok fun hok => ?_
  replace h := h hok
  refine r_iload x_187_31 rfl ?_
  refine r_aload_n x_187_33 rfl ?_
  obtain ⟨hO1, h⟩ := h
  obtain ⟨b2, hb3, h⟩ := h
  refine r_getR x_187_34 rfl (ci := 10) (k := 6) (ns := 0) (by decide +kernel) (by decide) rfl (kz := 6) rfl hO1 hb3 ?_
  refine r_iload x_187_37 rfl ?_
  obtain ⟨n4, hA5, h⟩ := h
  obtain ⟨h6, h⟩ := h
  refine r_iald x_187_39 hA5 hv6 h6.1 h6.2 ?_
  refine r_ic_ge x_187_40 (t := 104) (by decide +kernel) hv7 (hok.1 _ _) (fun hc => ?_) (fun hc => ?_)
  · replace h := h.2 hc
    refine r_iload x_187_104 rfl ?_
    refine r_istore x_187_106 (by decide +kernel) rfl (lv1 := [(0, .ref a0), (1, .ref a1), (2, g_n v2), (3, g_n v3), (4, g_n v4), (5, g_n v5), (6, g_n v6), (7, g_n v5)]) rfl ?_
    exact h
  · replace h := h.1 hc
    refine r_aload_n x_187_43 rfl ?_
    obtain ⟨b7, hb8, h⟩ := h
    refine r_getR x_187_44 rfl (ci := 10) (k := 4) (ns := 0) (by decide +kernel) (by decide) rfl (kz := 4) rfl hO1 hb8 ?_
    refine r_iload x_187_47 rfl ?_
    refine r_bipush x_187_49 (x := 9) rfl ?_
    refine r_imul x_187_51 ?_
    obtain ⟨h9, h⟩ := h
    refine r_iload x_187_52 rfl ?_
    refine r_iadd x_187_54 ?_
    obtain ⟨h10, h⟩ := h
    obtain ⟨n11, hA12, h⟩ := h
    obtain ⟨h13, h⟩ := h
    refine r_iald x_187_55 hA12 h10 h13.1 h13.2 ?_
    refine r_istore x_187_56 (by decide +kernel) rfl (lv1 := [(0, .ref a0), (1, .ref a1), (2, g_n v2), (3, g_n v3), (4, g_n v4), (5, g_n v5), (6, g_n v6), (7, g_n v7), (8, g_n (g_i M b7 ((v6 * 9) + v7)))]) rfl ?_
    refine r_aload_n x_187_58 rfl ?_
    refine r_iload x_187_59 rfl ?_
    refine r_aload_n x_187_61 rfl ?_
    refine r_getI x_187_62 rfl (ci := 10) (k := 18) (ns := 0) (by decide +kernel) (by decide) rfl (kz := 18) rfl hO1 ?_
    refine r_invV x_187_65 (z := 180) (ns := 0) (by decide +kernel) (as := [g_n (g_i M b7 ((v6 * 9) + v7)), g_n (g_i M a0 18)]) (r := []) rfl rfl rfl hO1 rfl rfl ?_
    refine r_callI h fun r17 M14 hx15 hok16 hr18 h => ?_
    replace h := h hx15 hok16 hr18
    replace hO1 := hO1.up hx15
    replace hA5 := hA5.up hx15
    replace hA12 := hA12.up hx15
    refine r_if_ne x_187_68 (t := 98) (by decide +kernel) hr18 (fun hc => ?_) (fun hc => ?_)
    · replace h := h.2 hc
      obtain ⟨h19, h⟩ := h
      refine r_iinc x_187_98 (by decide +kernel) rfl rfl (lv1 := [(0, .ref a0), (1, .ref a1), (2, g_n v2), (3, g_n v3), (4, g_n v4), (5, g_n v5), (6, g_n v6), (7, g_n (v7 + 1)), (8, g_n (g_i M b7 ((v6 * 9) + v7)))]) rfl ?_
      refine r_goto x_187_101 (t := 31) (by decide +kernel) ?_
      refine g_drop [0, 1, 2, 3, 4, 5, 6, 7] (lv1 := [(0, .ref a0), (1, .ref a1), (2, g_n v2), (3, g_n v3), (4, g_n v4), (5, g_n v5), (6, g_n v6), (7, g_n (v7 + 1))]) rfl ?_
      exact h
    · replace h := h.1 hc
      refine r_aload_n x_187_71 rfl ?_
      refine r_iload x_187_72 rfl ?_
      refine r_iload x_187_74 rfl ?_
      refine r_invV x_187_76 (z := 185) (ns := 0) (by decide +kernel) (as := [g_n v6, g_n v7]) (r := []) rfl rfl rfl hO1 rfl rfl ?_
      refine r_callV h fun M20 hx21 hok22 h => ?_
      replace h := h hx21 hok22
      replace hO1 := hO1.up hx21
      replace hA5 := hA5.up hx21
      replace hA12 := hA12.up hx21
      refine r_aload_n x_187_79 rfl ?_
      refine r_iload x_187_80 rfl ?_
      refine r_invV x_187_82 (z := 175) (ns := 0) (by decide +kernel) (as := [g_n (g_i M b7 ((v6 * 9) + v7))]) (r := []) rfl rfl rfl hO1 rfl rfl ?_
      refine r_callV h fun M23 hx24 hok25 h => ?_
      replace h := h hx24 hok25
      replace hO1 := hO1.up hx24
      replace hA5 := hA5.up hx24
      replace hA12 := hA12.up hx24
      refine r_aload_n x_187_85 rfl ?_
      refine r_dup x_187_86 rfl ?_
      refine r_getI x_187_87 rfl (ci := 10) (k := 15) (ns := 0) (by decide +kernel) (by decide) rfl (kz := 15) rfl hO1 ?_
      refine r_iconst x_187_90 ?_
      refine r_isub x_187_91 ?_
      obtain ⟨h26, h⟩ := h
      refine r_putI x_187_92 (ci := 10) (k := 15) (ns := 0) (by decide +kernel) (by decide) (g_f0 (by decide +kernel)) rfl h26 trivial (kz := 15) rfl hO1 ?_
      obtain ⟨M27, hM28⟩ : ∃ Mz, Mz = g_wi M23 a0 15 ((g_i M23 a0 15) - 1) := ⟨_, rfl⟩
      rw [← hM28]
      refine g_Run.ok fun hok29 => ?_
      replace h := h M27 hM28 hok29
      have hx30 := g_extW hM28
      replace hO1 := hO1.up hx30
      replace hA5 := hA5.up hx30
      replace hA12 := hA12.up hx30
      refine r_goto x_187_95 (t := 104) (by decide +kernel) ?_
      refine r_iload x_187_104 rfl ?_
      refine r_istore x_187_106 (by decide +kernel) rfl (lv1 := [(0, .ref a0), (1, .ref a1), (2, g_n v2), (3, g_n v3), (4, g_n v4), (5, g_n v5), (6, g_n v6), (7, g_n v5), (8, g_n (g_i M b7 ((v6 * 9) + v7)))]) rfl ?_
      refine g_drop [0, 1, 2, 3, 4, 5, 6, 7] (lv1 := [(0, .ref a0), (1, .ref a1), (2, g_n v2), (3, g_n v3), (4, g_n v4), (5, g_n v5), (6, g_n v6), (7, g_n v5)]) rfl ?_
      exact h
theorem s_X10_goes_108 {d : Nat} {M : g_M} {Q : g_M → Prop} {a0 : Nat} {a1 : Nat} {v2 : Int} (hv2 : g_InR v2) {v3 : Int} (hv3 : g_InR v3) {v4 : Int} (hv4 : g_InR v4) {v5 : Int} (hv5 : g_InR v5) {v6 : Int} (hv6 : g_InR v6) {v7 : Int} (hv7 : g_InR v7) (h : g_ok M → ((0 < v7 → g_O M a0 10 ∧ ∃ b2, g_r M a0 6 = some b2 ∧ ∃ b4, g_r M a0 10 = some b4 ∧ ∃ n6, g_A M b4 1 n6 ∧ ((0 : Int) ≤ v7 ∧ (v7 : Int) < n6) ∧ ∃ n9, g_A M b2 1 n9 ∧ ((0 : Int) ≤ g_i M b4 v7 ∧ (g_i M b4 v7 : Int) < n9) ∧ ((g_i M b2 (g_i M b4 v7) < 4 → g_Call d 188 [.ref a0, g_n v7] M (g_qV fun M12 => g_ext M M12 → g_ok M12 → g_InR (v7 + (-1)) ∧ g_Run d 187 108 [(0, .ref a0), (1, .ref a1), (2, g_n v2), (3, g_n v3), (4, g_n v4), (5, g_n v5), (6, g_n v6), (7, g_n (v7 + (-1)))] [] M12 (g_qV Q))) ∧ (¬ g_i M b2 (g_i M b4 v7) < 4 → g_Run d 187 141 [(0, .ref a0), (1, .ref a1), (2, g_n v2), (3, g_n v3), (4, g_n v4), (5, g_n v5), (6, g_n v6), (7, g_n v7)] [] M (g_qV Q)))) ∧ (¬ 0 < v7 → g_Run d 187 141 [(0, .ref a0), (1, .ref a1), (2, g_n v2), (3, g_n v3), (4, g_n v4), (5, g_n v5), (6, g_n v6), (7, g_n v7)] [] M (g_qV Q)))) : g_Run d 187 108 [(0, .ref a0), (1, .ref a1), (2, g_n v2), (3, g_n v3), (4, g_n v4), (5, g_n v5), (6, g_n v6), (7, g_n v7)] [] M (g_qV Q) := by
  refine g_Run.ok fun hok => ?_
  replace h := h hok
  refine r_iload x_187_108 rfl ?_
  refine r_if_le x_187_110 (t := 141) (by decide +kernel) hv7 (fun hc => ?_) (fun hc => ?_)
  · replace h := h.2 hc
    exact h
  · replace h := h.1 hc
    refine r_aload_n x_187_113 rfl ?_
    obtain ⟨hO1, h⟩ := h
    obtain ⟨b2, hb3, h⟩ := h
    refine r_getR x_187_114 rfl (ci := 10) (k := 6) (ns := 0) (by decide +kernel) (by decide) rfl (kz := 6) rfl hO1 hb3 ?_
    refine r_aload_n x_187_117 rfl ?_
    obtain ⟨b4, hb5, h⟩ := h
    refine r_getR x_187_118 rfl (ci := 10) (k := 10) (ns := 0) (by decide +kernel) (by decide) rfl (kz := 10) rfl hO1 hb5 ?_
    refine r_iload x_187_121 rfl ?_
    obtain ⟨n6, hA7, h⟩ := h
    obtain ⟨h8, h⟩ := h
    refine r_iald x_187_123 hA7 hv7 h8.1 h8.2 ?_
    obtain ⟨n9, hA10, h⟩ := h
    obtain ⟨h11, h⟩ := h
    refine r_iald x_187_124 hA10 (hok.1 _ _) h11.1 h11.2 ?_
    refine r_iconst x_187_125 ?_
    refine r_ic_ge x_187_126 (t := 141) (by decide +kernel) (hok.1 _ _) (g_Rk rfl) (fun hc => ?_) (fun hc => ?_)
    · replace h := h.2 hc
      exact h
    · replace h := h.1 hc
      refine r_aload_n x_187_129 rfl ?_
      refine r_iload x_187_130 rfl ?_
      refine r_invV x_187_132 (z := 188) (ns := 0) (by decide +kernel) (as := [g_n v7]) (r := []) rfl rfl rfl hO1 rfl rfl ?_
      refine r_callV h fun M12 hx13 hok14 h => ?_
      replace h := h hx13 hok14
      replace hO1 := hO1.up hx13
      replace hA7 := hA7.up hx13
      replace hA10 := hA10.up hx13
      obtain ⟨h15, h⟩ := h
      refine r_iinc x_187_135 (by decide +kernel) rfl rfl (lv1 := [(0, .ref a0), (1, .ref a1), (2, g_n v2), (3, g_n v3), (4, g_n v4), (5, g_n v5), (6, g_n v6), (7, g_n (v7 + (-1)))]) rfl ?_
      refine r_goto x_187_138 (t := 108) (by decide +kernel) ?_
      exact h
theorem s_X10_goes_141 {d : Nat} {M : g_M} {Q : g_M → Prop} {a0 : Nat} {a1 : Nat} {v2 : Int} (hv2 : g_InR v2) {v3 : Int} (hv3 : g_InR v3) {v4 : Int} (hv4 : g_InR v4) {v5 : Int} (hv5 : g_InR v5) {v6 : Int} (hv6 : g_InR v6) {v7 : Int} (hv7 : g_InR v7) (h : g_ok M → g_O M a0 10 ∧ ∃ b2, g_r M a0 7 = some b2 ∧ ∃ n4, g_A M b2 2 n4 ∧ ((0 : Int) ≤ g_i M a0 14 ∧ (g_i M a0 14 : Int) < n4) ∧ ((g_i M b2 (g_i M a0 14) = 0 → ∃ b7, g_r M a0 6 = some b7 ∧ ∃ n9, g_A M b7 1 n9 ∧ ((0 : Int) ≤ g_i M a0 14 ∧ (g_i M a0 14 : Int) < n9) ∧ ((g_i M b7 (g_i M a0 14) = 1 → ∃ b12, g_r M a0 4 = some b12 ∧ g_InR ((g_i M a0 14) * 9) ∧ ∃ n15, g_A M b12 1 n15 ∧ ((0 : Int) ≤ (g_i M a0 14) * 9 ∧ ((g_i M a0 14) * 9 : Int) < n15) ∧ (∀ M18, M18 = g_wi M a0 14 (g_i M b12 ((g_i M a0 14) * 9)) → g_ok M18 → g_Call d 177 [.ref a0, g_n (g_i M a0 14)] M18 (g_qV fun M22 => g_ext M18 M22 → g_ok M22 → Q M22))) ∧ (¬ g_i M b7 (g_i M a0 14) = 1 → Q M))) ∧ (¬ g_i M b2 (g_i M a0 14) = 0 → Q M))) : g_Run d 187 141 [(0, .ref a0), (1, .ref a1), (2, g_n v2), (3, g_n v3), (4, g_n v4), (5, g_n v5), (6, g_n v6), (7, g_n v7)] [] M (g_qV Q) := by
  refine g_Run.ok fun hok => ?_
  replace h := h hok
  refine r_aload_n x_187_141 rfl ?_
  obtain ⟨hO1, h⟩ := h
  obtain ⟨b2, hb3, h⟩ := h
  refine r_getR x_187_142 rfl (ci := 10) (k := 7) (ns := 0) (by decide +kernel) (by decide) rfl (kz := 7) rfl hO1 hb3 ?_
  refine r_aload_n x_187_145 rfl ?_
  refine r_getI x_187_146 rfl (ci := 10) (k := 14) (ns := 0) (by decide +kernel) (by decide) rfl (kz := 14) rfl hO1 ?_
  obtain ⟨n4, hA5, h⟩ := h
  obtain ⟨h6, h⟩ := h
  refine r_bald x_187_149 (Or.inr rfl) hA5 (hok.1 _ _) h6.1 h6.2 ?_
  refine r_if_ne x_187_150 (t := 192) (by decide +kernel) (hok.1 _ _) (fun hc => ?_) (fun hc => ?_)
  · replace h := h.2 hc
    exact r_retV x_187_192 rfl h
  · replace h := h.1 hc
    refine r_aload_n x_187_153 rfl ?_
    obtain ⟨b7, hb8, h⟩ := h
    refine r_getR x_187_154 rfl (ci := 10) (k := 6) (ns := 0) (by decide +kernel) (by decide) rfl (kz := 6) rfl hO1 hb8 ?_
    refine r_aload_n x_187_157 rfl ?_
    refine r_getI x_187_158 rfl (ci := 10) (k := 14) (ns := 0) (by decide +kernel) (by decide) rfl (kz := 14) rfl hO1 ?_
    obtain ⟨n9, hA10, h⟩ := h
    obtain ⟨h11, h⟩ := h
    refine r_iald x_187_161 hA10 (hok.1 _ _) h11.1 h11.2 ?_
    refine r_iconst x_187_162 ?_
    refine r_ic_ne x_187_163 (t := 192) (by decide +kernel) (hok.1 _ _) (g_Rk rfl) (fun hc => ?_) (fun hc => ?_)
    · replace h := h.2 hc
      exact r_retV x_187_192 rfl h
    · replace h := h.1 hc
      refine r_aload_n x_187_166 rfl ?_
      refine r_getI x_187_167 rfl (ci := 10) (k := 14) (ns := 0) (by decide +kernel) (by decide) rfl (kz := 14) rfl hO1 ?_
      refine r_istore x_187_170 (by decide +kernel) rfl (lv1 := [(0, .ref a0), (1, .ref a1), (2, g_n v2), (3, g_n v3), (4, g_n v4), (5, g_n v5), (6, g_n v6), (7, g_n (g_i M a0 14))]) rfl ?_
      refine r_aload_n x_187_172 rfl ?_
      refine r_aload_n x_187_173 rfl ?_
      obtain ⟨b12, hb13, h⟩ := h
      refine r_getR x_187_174 rfl (ci := 10) (k := 4) (ns := 0) (by decide +kernel) (by decide) rfl (kz := 4) rfl hO1 hb13 ?_
      refine r_iload x_187_177 rfl ?_
      refine r_bipush x_187_179 (x := 9) rfl ?_
      refine r_imul x_187_181 ?_
      obtain ⟨h14, h⟩ := h
      obtain ⟨n15, hA16, h⟩ := h
      obtain ⟨h17, h⟩ := h
      refine r_iald x_187_182 hA16 h14 h17.1 h17.2 ?_
      refine r_putI x_187_183 (ci := 10) (k := 14) (ns := 0) (by decide +kernel) (by decide) (g_f0 (by decide +kernel)) rfl (hok.1 _ _) trivial (kz := 14) rfl hO1 ?_
      obtain ⟨M18, hM19⟩ : ∃ Mz, Mz = g_wi M a0 14 (g_i M b12 ((g_i M a0 14) * 9)) := ⟨_, rfl⟩
      rw [← hM19]
      refine g_Run.ok fun hok20 => ?_
      replace h := h M18 hM19 hok20
      have hx21 := g_extW hM19
      replace hO1 := hO1.up hx21
      replace hA5 := hA5.up hx21
      replace hA10 := hA10.up hx21
      replace hA16 := hA16.up hx21
      refine r_aload_n x_187_186 rfl ?_
      refine r_iload x_187_187 rfl ?_
      refine r_invV x_187_189 (z := 177) (ns := 0) (by decide +kernel) (as := [g_n (g_i M a0 14)]) (r := []) rfl rfl rfl hO1 rfl rfl ?_
      refine r_callV h fun M22 hx23 hok24 h => ?_
      replace h := h hx23 hok24
      replace hO1 := hO1.up hx23
      replace hA5 := hA5.up hx23
      replace hA10 := hA10.up hx23
      replace hA16 := hA16.up hx23
      exact r_retV x_187_192 rfl h
theorem m_X10_mend {d : Nat} {M : g_M} {Q : g_M → Prop} {a0 : Nat} {v1 : Int} (hv1 : g_InR v1) (h : g_ok M → g_O M a0 10 ∧ ∃ b2, g_r M a0 10 = some b2 ∧ g_InR (v1 - 1) ∧ ∃ n5, g_A M b2 1 n5 ∧ ((0 : Int) ≤ v1 - 1 ∧ (v1 - 1 : Int) < n5) ∧ ∃ b8, g_r M a0 11 = some b8 ∧ g_InR (v1 - 1) ∧ ∃ n11, g_A M b8 1 n11 ∧ ((0 : Int) ≤ v1 - 1 ∧ (v1 - 1 : Int) < n11) ∧ g_InR ((g_i M b2 (v1 - 1)) * 9) ∧ g_InR (((g_i M b2 (v1 - 1)) * 9) + (g_i M b8 (v1 - 1))) ∧ ((0 < g_i M b8 (v1 - 1) → g_Run d 188 35 [(0, .ref a0), (1, g_n v1), (2, g_n (g_i M b2 (v1 - 1))), (3, g_n (g_i M b8 (v1 - 1))), (4, g_n (((g_i M b2 (v1 - 1)) * 9) + (g_i M b8 (v1 - 1))))] [g_n 1] M (g_qV Q)) ∧ (¬ 0 < g_i M b8 (v1 - 1) → g_Run d 188 35 [(0, .ref a0), (1, g_n v1), (2, g_n (g_i M b2 (v1 - 1))), (3, g_n (g_i M b8 (v1 - 1))), (4, g_n (((g_i M b2 (v1 - 1)) * 9) + (g_i M b8 (v1 - 1))))] [g_n 0] M (g_qV Q)))) : g_Call (d + 1) 188 [.ref a0, g_n v1] M (g_qV Q) := by
  refine g_Call.ok fun hok0 => ?_
  replace h := h hok0
  refine r_body rfl (lv := [(0, .ref a0), (1, g_n v1)]) rfl ?_
  refine g_Run.ok fun hok => ?_
  refine r_aload_n x_188_0 rfl ?_
  obtain ⟨hO1, h⟩ := h
  obtain ⟨b2, hb3, h⟩ := h
  refine r_getR x_188_1 rfl (ci := 10) (k := 10) (ns := 0) (by decide +kernel) (by decide) rfl (kz := 10) rfl hO1 hb3 ?_
  refine r_iload_n x_188_4 rfl ?_
  refine r_iconst x_188_5 ?_
  refine r_isub x_188_6 ?_
  obtain ⟨h4, h⟩ := h
  obtain ⟨n5, hA6, h⟩ := h
  obtain ⟨h7, h⟩ := h
  refine r_iald x_188_7 hA6 h4 h7.1 h7.2 ?_
  refine r_istore_n x_188_8 (by decide +kernel) rfl (lv1 := [(0, .ref a0), (1, g_n v1), (2, g_n (g_i M b2 (v1 - 1)))]) rfl ?_
  refine r_aload_n x_188_9 rfl ?_
  obtain ⟨b8, hb9, h⟩ := h
  refine r_getR x_188_10 rfl (ci := 10) (k := 11) (ns := 0) (by decide +kernel) (by decide) rfl (kz := 11) rfl hO1 hb9 ?_
  refine r_iload_n x_188_13 rfl ?_
  refine r_iconst x_188_14 ?_
  refine r_isub x_188_15 ?_
  obtain ⟨h10, h⟩ := h
  obtain ⟨n11, hA12, h⟩ := h
  obtain ⟨h13, h⟩ := h
  refine r_iald x_188_16 hA12 h10 h13.1 h13.2 ?_
  refine r_istore_n x_188_17 (by decide +kernel) rfl (lv1 := [(0, .ref a0), (1, g_n v1), (2, g_n (g_i M b2 (v1 - 1))), (3, g_n (g_i M b8 (v1 - 1)))]) rfl ?_
  refine r_iload_n x_188_18 rfl ?_
  refine r_bipush x_188_19 (x := 9) rfl ?_
  refine r_imul x_188_21 ?_
  obtain ⟨h14, h⟩ := h
  refine r_iload_n x_188_22 rfl ?_
  refine r_iadd x_188_23 ?_
  obtain ⟨h15, h⟩ := h
  refine r_istore x_188_24 (by decide +kernel) rfl (lv1 := [(0, .ref a0), (1, g_n v1), (2, g_n (g_i M b2 (v1 - 1))), (3, g_n (g_i M b8 (v1 - 1))), (4, g_n (((g_i M b2 (v1 - 1)) * 9) + (g_i M b8 (v1 - 1))))]) rfl ?_
  refine r_iload_n x_188_26 rfl ?_
  refine r_if_le x_188_27 (t := 34) (by decide +kernel) (hok.1 _ _) (fun hc => ?_) (fun hc => ?_)
  · replace h := h.2 hc
    refine r_iconst x_188_34 ?_
    exact h
  · replace h := h.1 hc
    refine r_iconst x_188_30 ?_
    refine r_goto x_188_31 (t := 35) (by decide +kernel) ?_
    exact h
theorem s_X10_mend_35 {d : Nat} {M : g_M} {Q : g_M → Prop} {a0 : Nat} {v1 : Int} (hv1 : g_InR v1) {v2 : Int} (hv2 : g_InR v2) {v3 : Int} (hv3 : g_InR v3) {v4 : Int} (hv4 : g_InR v4) {w0 : Int} (hw0 : g_InR w0) (h : g_ok M → g_InR (v3 + 1) ∧ g_O M a0 10 ∧ ∃ b3, g_r M a0 6 = some b3 ∧ ∃ n5, g_A M b3 1 n5 ∧ ((0 : Int) ≤ v2 ∧ (v2 : Int) < n5) ∧ ((v3 + 1 < g_i M b3 v2 → g_Run d 188 54 [(0, .ref a0), (1, g_n v1), (2, g_n v2), (3, g_n v3), (4, g_n v4), (5, g_n w0)] [g_n 1] M (g_qV Q)) ∧ (¬ v3 + 1 < g_i M b3 v2 → g_Run d 188 54 [(0, .ref a0), (1, g_n v1), (2, g_n v2), (3, g_n v3), (4, g_n v4), (5, g_n w0)] [g_n 0] M (g_qV Q)))) : g_Run d 188 35 [(0, .ref a0), (1, g_n v1), (2, g_n v2), (3, g_n v3), (4, g_n v4)] [g_n w0] M (g_qV Q) := by
  refine g_Run.ok fun hok => ?_
  replace h := h hok
  refine r_istore x_188_35 (by decide +kernel) rfl (lv1 := [(0, .ref a0), (1, g_n v1), (2, g_n v2), (3, g_n v3), (4, g_n v4), (5, g_n w0)]) rfl ?_
  refine r_iload_n x_188_37 rfl ?_
  refine r_iconst x_188_38 ?_
  refine r_iadd x_188_39 ?_
  obtain ⟨h1, h⟩ := h
  refine r_aload_n x_188_40 rfl ?_
  obtain ⟨hO2, h⟩ := h
  obtain ⟨b3, hb4, h⟩ := h
  refine r_getR x_188_41 rfl (ci := 10) (k := 6) (ns := 0) (by decide +kernel) (by decide) rfl (kz := 6) rfl hO2 hb4 ?_
  refine r_iload_n x_188_44 rfl ?_
  obtain ⟨n5, hA6, h⟩ := h
  obtain ⟨h7, h⟩ := h
  refine r_iald x_188_45 hA6 hv2 h7.1 h7.2 ?_
  refine r_ic_ge x_188_46 (t := 53) (by decide +kernel) h1 (hok.1 _ _) (fun hc => ?_) (fun hc => ?_)
  · replace h := h.2 hc
    refine r_iconst x_188_53 ?_
    exact h
  · replace h := h.1 hc
    refine r_iconst x_188_49 ?_
    refine r_goto x_188_50 (t := 54) (by decide +kernel) ?_
    exact h
theorem s_X10_mend_54 {d : Nat} {M : g_M} {Q : g_M → Prop} {a0 : Nat} {v1 : Int} (hv1 : g_InR v1) {v2 : Int} (hv2 : g_InR v2) {v3 : Int} (hv3 : g_InR v3) {v4 : Int} (hv4 : g_InR v4) {v5 : Int} (hv5 : g_InR v5) {w0 : Int} (hw0 : g_InR w0) (h : g_ok M → ((v5 = 0 → g_Run d 188 106 [(0, .ref a0), (1, g_n v1), (2, g_n v2), (3, g_n v3), (4, g_n v4), (5, g_n v5), (6, g_n w0)] [] M (g_qV Q)) ∧ (¬ v5 = 0 → g_O M a0 10 ∧ ∃ b2, g_r M a0 6 = some b2 ∧ ∃ b4, g_r M a0 4 = some b4 ∧ g_InR (v4 - 1) ∧ ∃ n7, g_A M b4 1 n7 ∧ ((0 : Int) ≤ v4 - 1 ∧ (v4 - 1 : Int) < n7) ∧ ∃ n10, g_A M b2 1 n10 ∧ ((0 : Int) ≤ g_i M b4 (v4 - 1) ∧ (g_i M b4 (v4 - 1) : Int) < n10) ∧ ((4 < g_i M b2 (g_i M b4 (v4 - 1)) → ∃ b13, g_r M a0 4 = some b13 ∧ g_InR (v4 - 1) ∧ ∃ n16, g_A M b13 1 n16 ∧ ((0 : Int) ≤ v4 - 1 ∧ (v4 - 1 : Int) < n16) ∧ ∃ b19, g_r M a0 4 = some b19 ∧ ∃ n21, g_A M b19 1 n21 ∧ ((0 : Int) ≤ v4 ∧ (v4 : Int) < n21) ∧ g_InR (v4 - 1) ∧ g_Call d 189 [.ref a0, g_n (g_i M b13 (v4 - 1)), g_n (g_i M b19 v4), g_n (v4 - 1)] M (g_qV fun M25 => g_ext M M25 → g_ok M25 → Q M25)) ∧ (¬ 4 < g_i M b2 (g_i M b4 (v4 - 1)) → g_Run d 188 106 [(0, .ref a0), (1, g_n v1), (2, g_n v2), (3, g_n v3), (4, g_n v4), (5, g_n v5), (6, g_n w0)] [] M (g_qV Q)))))) : g_Run d 188 54 [(0, .ref a0), (1, g_n v1), (2, g_n v2), (3, g_n v3), (4, g_n v4), (5, g_n v5)] [g_n w0] M (g_qV Q) := by
  refine g_Run.ok fun hok => ?_
  replace h := h hok
  refine r_istore x_188_54 (by decide +kernel) rfl (lv1 := [(0, .ref a0), (1, g_n v1), (2, g_n v2), (3, g_n v3), (4, g_n v4), (5, g_n v5), (6, g_n w0)]) rfl ?_
  refine r_iload x_188_56 rfl ?_
  refine r_if_eq x_188_58 (t := 106) (by decide +kernel) hv5 (fun hc => ?_) (fun hc => ?_)
  · replace h := h.1 hc
    exact h
  · replace h := h.2 hc
    refine r_aload_n x_188_61 rfl ?_
    obtain ⟨hO1, h⟩ := h
    obtain ⟨b2, hb3, h⟩ := h
    refine r_getR x_188_62 rfl (ci := 10) (k := 6) (ns := 0) (by decide +kernel) (by decide) rfl (kz := 6) rfl hO1 hb3 ?_
    refine r_aload_n x_188_65 rfl ?_
    obtain ⟨b4, hb5, h⟩ := h
    refine r_getR x_188_66 rfl (ci := 10) (k := 4) (ns := 0) (by decide +kernel) (by decide) rfl (kz := 4) rfl hO1 hb5 ?_
    refine r_iload x_188_69 rfl ?_
    refine r_iconst x_188_71 ?_
    refine r_isub x_188_72 ?_
    obtain ⟨h6, h⟩ := h
    obtain ⟨n7, hA8, h⟩ := h
    obtain ⟨h9, h⟩ := h
    refine r_iald x_188_73 hA8 h6 h9.1 h9.2 ?_
    obtain ⟨n10, hA11, h⟩ := h
    obtain ⟨h12, h⟩ := h
    refine r_iald x_188_74 hA11 (hok.1 _ _) h12.1 h12.2 ?_
    refine r_iconst x_188_75 ?_
    refine r_ic_le x_188_76 (t := 106) (by decide +kernel) (hok.1 _ _) (g_Rk rfl) (fun hc => ?_) (fun hc => ?_)
    · replace h := h.2 hc
      exact h
    · replace h := h.1 hc
      refine r_aload_n x_188_79 rfl ?_
      refine r_aload_n x_188_80 rfl ?_
      obtain ⟨b13, hb14, h⟩ := h
      refine r_getR x_188_81 rfl (ci := 10) (k := 4) (ns := 0) (by decide +kernel) (by decide) rfl (kz := 4) rfl hO1 hb14 ?_
      refine r_iload x_188_84 rfl ?_
      refine r_iconst x_188_86 ?_
      refine r_isub x_188_87 ?_
      obtain ⟨h15, h⟩ := h
      obtain ⟨n16, hA17, h⟩ := h
      obtain ⟨h18, h⟩ := h
      refine r_iald x_188_88 hA17 h15 h18.1 h18.2 ?_
      refine r_aload_n x_188_89 rfl ?_
      obtain ⟨b19, hb20, h⟩ := h
      refine r_getR x_188_90 rfl (ci := 10) (k := 4) (ns := 0) (by decide +kernel) (by decide) rfl (kz := 4) rfl hO1 hb20 ?_
      refine r_iload x_188_93 rfl ?_
      obtain ⟨n21, hA22, h⟩ := h
      obtain ⟨h23, h⟩ := h
      refine r_iald x_188_95 hA22 hv4 h23.1 h23.2 ?_
      refine r_iload x_188_96 rfl ?_
      refine r_iconst x_188_98 ?_
      refine r_isub x_188_99 ?_
      obtain ⟨h24, h⟩ := h
      refine r_invV x_188_100 (z := 189) (ns := 0) (by decide +kernel) (as := [g_n (g_i M b13 (v4 - 1)), g_n (g_i M b19 v4), g_n (v4 - 1)]) (r := []) rfl rfl rfl hO1 rfl rfl ?_
      refine r_callV h fun M25 hx26 hok27 h => ?_
      replace h := h hx26 hok27
      replace hO1 := hO1.up hx26
      replace hA8 := hA8.up hx26
      replace hA11 := hA11.up hx26
      replace hA17 := hA17.up hx26
      replace hA22 := hA22.up hx26
      refine r_goto x_188_103 (t := 181) (by decide +kernel) ?_
      exact r_retV x_188_181 rfl h
theorem s_X10_mend_106 {d : Nat} {M : g_M} {Q : g_M → Prop} {a0 : Nat} {v1 : Int} (hv1 : g_InR v1) {v2 : Int} (hv2 : g_InR v2) {v3 : Int} (hv3 : g_InR v3) {v4 : Int} (hv4 : g_InR v4) {v5 : Int} (hv5 : g_InR v5) {v6 : Int} (hv6 : g_InR v6) (h : g_ok M → ((v6 = 0 → g_Run d 188 154 [(0, .ref a0), (1, g_n v1), (2, g_n v2), (3, g_n v3), (4, g_n v4), (5, g_n v5), (6, g_n v6)] [] M (g_qV Q)) ∧ (¬ v6 = 0 → g_O M a0 10 ∧ ∃ b2, g_r M a0 6 = some b2 ∧ ∃ b4, g_r M a0 4 = some b4 ∧ g_InR (v4 + 1) ∧ ∃ n7, g_A M b4 1 n7 ∧ ((0 : Int) ≤ v4 + 1 ∧ (v4 + 1 : Int) < n7) ∧ ∃ n10, g_A M b2 1 n10 ∧ ((0 : Int) ≤ g_i M b4 (v4 + 1) ∧ (g_i M b4 (v4 + 1) : Int) < n10) ∧ ((4 < g_i M b2 (g_i M b4 (v4 + 1)) → ∃ b13, g_r M a0 4 = some b13 ∧ ∃ n15, g_A M b13 1 n15 ∧ ((0 : Int) ≤ v4 ∧ (v4 : Int) < n15) ∧ ∃ b18, g_r M a0 4 = some b18 ∧ g_InR (v4 + 1) ∧ ∃ n21, g_A M b18 1 n21 ∧ ((0 : Int) ≤ v4 + 1 ∧ (v4 + 1 : Int) < n21) ∧ g_Call d 190 [.ref a0, g_n (g_i M b13 v4), g_n (g_i M b18 (v4 + 1)), g_n v4] M (g_qV fun M24 => g_ext M M24 → g_ok M24 → Q M24)) ∧ (¬ 4 < g_i M b2 (g_i M b4 (v4 + 1)) → g_Run d 188 154 [(0, .ref a0), (1, g_n v1), (2, g_n v2), (3, g_n v3), (4, g_n v4), (5, g_n v5), (6, g_n v6)] [] M (g_qV Q)))))) : g_Run d 188 106 [(0, .ref a0), (1, g_n v1), (2, g_n v2), (3, g_n v3), (4, g_n v4), (5, g_n v5), (6, g_n v6)] [] M (g_qV Q) := by
  refine g_Run.ok fun hok => ?_
  replace h := h hok
  refine r_iload x_188_106 rfl ?_
  refine r_if_eq x_188_108 (t := 154) (by decide +kernel) hv6 (fun hc => ?_) (fun hc => ?_)
  · replace h := h.1 hc
    exact h
  · replace h := h.2 hc
    refine r_aload_n x_188_111 rfl ?_
    obtain ⟨hO1, h⟩ := h
    obtain ⟨b2, hb3, h⟩ := h
    refine r_getR x_188_112 rfl (ci := 10) (k := 6) (ns := 0) (by decide +kernel) (by decide) rfl (kz := 6) rfl hO1 hb3 ?_
    refine r_aload_n x_188_115 rfl ?_
    obtain ⟨b4, hb5, h⟩ := h
    refine r_getR x_188_116 rfl (ci := 10) (k := 4) (ns := 0) (by decide +kernel) (by decide) rfl (kz := 4) rfl hO1 hb5 ?_
    refine r_iload x_188_119 rfl ?_
    refine r_iconst x_188_121 ?_
    refine r_iadd x_188_122 ?_
    obtain ⟨h6, h⟩ := h
    obtain ⟨n7, hA8, h⟩ := h
    obtain ⟨h9, h⟩ := h
    refine r_iald x_188_123 hA8 h6 h9.1 h9.2 ?_
    obtain ⟨n10, hA11, h⟩ := h
    obtain ⟨h12, h⟩ := h
    refine r_iald x_188_124 hA11 (hok.1 _ _) h12.1 h12.2 ?_
    refine r_iconst x_188_125 ?_
    refine r_ic_le x_188_126 (t := 154) (by decide +kernel) (hok.1 _ _) (g_Rk rfl) (fun hc => ?_) (fun hc => ?_)
    · replace h := h.2 hc
      exact h
    · replace h := h.1 hc
      refine r_aload_n x_188_129 rfl ?_
      refine r_aload_n x_188_130 rfl ?_
      obtain ⟨b13, hb14, h⟩ := h
      refine r_getR x_188_131 rfl (ci := 10) (k := 4) (ns := 0) (by decide +kernel) (by decide) rfl (kz := 4) rfl hO1 hb14 ?_
      refine r_iload x_188_134 rfl ?_
      obtain ⟨n15, hA16, h⟩ := h
      obtain ⟨h17, h⟩ := h
      refine r_iald x_188_136 hA16 hv4 h17.1 h17.2 ?_
      refine r_aload_n x_188_137 rfl ?_
      obtain ⟨b18, hb19, h⟩ := h
      refine r_getR x_188_138 rfl (ci := 10) (k := 4) (ns := 0) (by decide +kernel) (by decide) rfl (kz := 4) rfl hO1 hb19 ?_
      refine r_iload x_188_141 rfl ?_
      refine r_iconst x_188_143 ?_
      refine r_iadd x_188_144 ?_
      obtain ⟨h20, h⟩ := h
      obtain ⟨n21, hA22, h⟩ := h
      obtain ⟨h23, h⟩ := h
      refine r_iald x_188_145 hA22 h20 h23.1 h23.2 ?_
      refine r_iload x_188_146 rfl ?_
      refine r_invV x_188_148 (z := 190) (ns := 0) (by decide +kernel) (as := [g_n (g_i M b13 v4), g_n (g_i M b18 (v4 + 1)), g_n v4]) (r := []) rfl rfl rfl hO1 rfl rfl ?_
      refine r_callV h fun M24 hx25 hok26 h => ?_
      replace h := h hx25 hok26
      replace hO1 := hO1.up hx25
      replace hA8 := hA8.up hx25
      replace hA11 := hA11.up hx25
      replace hA16 := hA16.up hx25
      replace hA22 := hA22.up hx25
      refine r_goto x_188_151 (t := 181) (by decide +kernel) ?_
      exact r_retV x_188_181 rfl h
theorem s_X10_mend_154 {d : Nat} {M : g_M} {Q : g_M → Prop} {a0 : Nat} {v1 : Int} (hv1 : g_InR v1) {v2 : Int} (hv2 : g_InR v2) {v3 : Int} (hv3 : g_InR v3) {v4 : Int} (hv4 : g_InR v4) {v5 : Int} (hv5 : g_InR v5) {v6 : Int} (hv6 : g_InR v6) (h : g_ok M → ((v5 = 0 → ((v6 = 0 → Q M) ∧ (¬ v6 = 0 → g_O M a0 10 ∧ g_Call d 191 [.ref a0, g_n v2, g_n v3] M (g_qV fun M2 => g_ext M M2 → g_ok M2 → Q M2)))) ∧ (¬ v5 = 0 → g_InR (v3 - 1) ∧ g_O M a0 10 ∧ g_Call d 191 [.ref a0, g_n v2, g_n (v3 - 1)] M (g_qV fun M7 => g_ext M M7 → g_ok M7 → Q M7)))) : g_Run d 188 154 [(0, .ref a0), (1, g_n v1), (2, g_n v2), (3, g_n v3), (4, g_n v4), (5, g_n v5), (6, g_n v6)] [] M (g_qV Q) := by
  refine g_Run.ok fun hok => ?_
  replace h := h hok
  refine r_iload x_188_154 rfl ?_
  refine r_if_eq x_188_156 (t := 170) (by decide +kernel) hv5 (fun hc => ?_) (fun hc => ?_)
  · replace h := h.1 hc
    refine r_iload x_188_170 rfl ?_
    refine r_if_eq x_188_172 (t := 181) (by decide +kernel) hv6 (fun hc => ?_) (fun hc => ?_)
    · replace h := h.1 hc
      exact r_retV x_188_181 rfl h
    · replace h := h.2 hc
      refine r_aload_n x_188_175 rfl ?_
      refine r_iload_n x_188_176 rfl ?_
      refine r_iload_n x_188_177 rfl ?_
      obtain ⟨hO1, h⟩ := h
      refine r_invV x_188_178 (z := 191) (ns := 0) (by decide +kernel) (as := [g_n v2, g_n v3]) (r := []) rfl rfl rfl hO1 rfl rfl ?_
      refine r_callV h fun M2 hx3 hok4 h => ?_
      replace h := h hx3 hok4
      replace hO1 := hO1.up hx3
      exact r_retV x_188_181 rfl h
  · replace h := h.2 hc
    refine r_aload_n x_188_159 rfl ?_
    refine r_iload_n x_188_160 rfl ?_
    refine r_iload_n x_188_161 rfl ?_
    refine r_iconst x_188_162 ?_
    refine r_isub x_188_163 ?_
    obtain ⟨h5, h⟩ := h
    obtain ⟨hO6, h⟩ := h
    refine r_invV x_188_164 (z := 191) (ns := 0) (by decide +kernel) (as := [g_n v2, g_n (v3 - 1)]) (r := []) rfl rfl rfl hO6 rfl rfl ?_
    refine r_callV h fun M7 hx8 hok9 h => ?_
    replace h := h hx8 hok9
    replace hO6 := hO6.up hx8
    refine r_goto x_188_167 (t := 181) (by decide +kernel) ?_
    exact r_retV x_188_181 rfl h
theorem m_X10_takeLast {d : Nat} {M : g_M} {Q : g_M → Prop} {a0 : Nat} {v1 : Int} (hv1 : g_InR v1) {v2 : Int} (hv2 : g_InR v2) {v3 : Int} (hv3 : g_InR v3) (h : g_ok M → g_O M a0 10 ∧ ∃ b2, g_r M a0 6 = some b2 ∧ ∃ n4, g_A M b2 1 n4 ∧ ((0 : Int) ≤ v1 ∧ (v1 : Int) < n4) ∧ g_InR ((g_i M b2 v1) - 1) ∧ ∃ b8, g_r M a0 4 = some b8 ∧ g_InR (v1 * 9) ∧ g_InR ((v1 * 9) + ((g_i M b2 v1) - 1)) ∧ ∃ n12, g_A M b8 1 n12 ∧ ((0 : Int) ≤ (v1 * 9) + ((g_i M b2 v1) - 1) ∧ ((v1 * 9) + ((g_i M b2 v1) - 1) : Int) < n12) ∧ g_Call d 185 [.ref a0, g_n v1, g_n ((g_i M b2 v1) - 1)] M (g_qV fun M15 => g_ext M M15 → g_ok M15 → g_Call d 184 [.ref a0, g_n v2, g_n 0, g_n (g_i M b8 ((v1 * 9) + ((g_i M b2 v1) - 1)))] M15 (g_qV fun M18 => g_ext M15 M18 → g_ok M18 → ∃ b21, g_r M18 a0 7 = some b21 ∧ ∃ n23, g_A M18 b21 2 n23 ∧ ((0 : Int) ≤ v2 ∧ (v2 : Int) < n23) ∧ ((g_i M18 b21 v2 = 0 → ∃ b26, g_r M18 a0 5 = some b26 ∧ g_InR (v2 * 9) ∧ ∃ b29, g_r M18 a0 5 = some b29 ∧ g_InR (v2 * 9) ∧ g_InR ((v2 * 9) + 1) ∧ ∃ b33, g_r M18 a0 6 = some b33 ∧ ∃ n35, g_A M18 b33 1 n35 ∧ ((0 : Int) ≤ v2 ∧ (v2 : Int) < n35) ∧ g_InR ((g_i M18 b33 v2) - 2) ∧ ∃ n39, g_A M18 b26 1 n39 ∧ ∃ n41, g_A M18 b29 1 n41 ∧ ((0 : Int) ≤ v2 * 9 ∧ (0 : Int) ≤ (v2 * 9) + 1 ∧ (0 : Int) ≤ (g_i M18 b33 v2) - 2 ∧ ((v2 * 9) : Int) + ((g_i M18 b33 v2) - 2) ≤ n39 ∧ (((v2 * 9) + 1) : Int) + ((g_i M18 b33 v2) - 2) ≤ n41) ∧ (∀ M44, M44 = g_cp M18 b26 b29 (v2 * 9) ((v2 * 9) + 1) ((g_i M18 b33 v2) - 2) → g_ok M44 → ∃ b48, g_r M44 a0 5 = some b48 ∧ g_InR (v2 * 9) ∧ ∃ b51, g_r M44 a0 5 = some b51 ∧ ∃ n53, g_A M44 b51 1 n53 ∧ ((0 : Int) ≤ v3 ∧ (v3 : Int) < n53) ∧ ∃ n56, g_A M44 b48 1 n56 ∧ ((0 : Int) ≤ v2 * 9 ∧ (v2 * 9 : Int) < n56) ∧ (∀ M59, M59 = g_wi M44 b48 (v2 * 9) (g_i M44 b51 v3) → g_ok M59 → ∃ b63, g_r M59 a0 5 = some b63 ∧ ∃ b65, g_r M59 a0 5 = some b65 ∧ g_InR (v1 * 9) ∧ g_InR ((v1 * 9) + ((g_i M b2 v1) - 1)) ∧ g_InR (((v1 * 9) + ((g_i M b2 v1) - 1)) - 1) ∧ ∃ n70, g_A M59 b65 1 n70 ∧ ((0 : Int) ≤ ((v1 * 9) + ((g_i M b2 v1) - 1)) - 1 ∧ (((v1 * 9) + ((g_i M b2 v1) - 1)) - 1 : Int) < n70) ∧ ∃ n73, g_A M59 b63 1 n73 ∧ ((0 : Int) ≤ v3 ∧ (v3 : Int) < n73) ∧ (∀ M76, M76 = g_wi M59 b63 v3 (g_i M59 b65 (((v1 * 9) + ((g_i M b2 v1) - 1)) - 1)) → g_ok M76 → Q M76)))) ∧ (¬ g_i M18 b21 v2 = 0 → ∃ b80, g_r M18 a0 5 = some b80 ∧ ∃ n82, g_A M18 b80 1 n82 ∧ ((0 : Int) ≤ v3 ∧ (v3 : Int) < n82) ∧ g_Call d 175 [.ref a0, g_n (g_i M18 b80 v3)] M18 (g_qV fun M85 => g_ext M18 M85 → g_ok M85 → ∃ b88, g_r M85 a0 5 = some b88 ∧ g_Call d 179 [.ref a0, g_n (g_i M b8 ((v1 * 9) + ((g_i M b2 v1) - 1)))] M85 (g_qI fun r93 M90 => g_ext M85 M90 → g_ok M90 → g_InR r93 → ∃ n95, g_A M90 b88 1 n95 ∧ ((0 : Int) ≤ v3 ∧ (v3 : Int) < n95) ∧ (∀ M98, M98 = g_wi M90 b88 v3 r93 → g_ok M98 → Q M98)))))))) : g_Call (d + 1) 189 [.ref a0, g_n v1, g_n v2, g_n v3] M (g_qV Q) := by
  refine g_Call.ok fun hok0 => ?_
  replace h := h hok0
  refine r_body rfl (lv := [(0, .ref a0), (1, g_n v1), (2, g_n v2), (3, g_n v3)]) rfl ?_
  refine g_Run.ok fun hok => ?_
  refine r_aload_n x_189_0 rfl ?_
  obtain ⟨hO1, h⟩ := h
  obtain ⟨b2, hb3, h⟩ := h
  refine r_getR x_189_1 rfl (ci := 10) (k := 6) (ns := 0) (by decide +kernel) (by decide) rfl (kz := 6) rfl hO1 hb3 ?_
  refine r_iload_n x_189_4 rfl ?_
  obtain ⟨n4, hA5, h⟩ := h
  obtain ⟨h6, h⟩ := h
  refine r_iald x_189_5 hA5 hv1 h6.1 h6.2 ?_
  refine r_iconst x_189_6 ?_
  refine r_isub x_189_7 ?_
  obtain ⟨h7, h⟩ := h
  refine r_istore x_189_8 (by decide +kernel) rfl (lv1 := [(0, .ref a0), (1, g_n v1), (2, g_n v2), (3, g_n v3), (4, g_n ((g_i M b2 v1) - 1))]) rfl ?_
  refine r_aload_n x_189_10 rfl ?_
  obtain ⟨b8, hb9, h⟩ := h
  refine r_getR x_189_11 rfl (ci := 10) (k := 4) (ns := 0) (by decide +kernel) (by decide) rfl (kz := 4) rfl hO1 hb9 ?_
  refine r_iload_n x_189_14 rfl ?_
  refine r_bipush x_189_15 (x := 9) rfl ?_
  refine r_imul x_189_17 ?_
  obtain ⟨h10, h⟩ := h
  refine r_iload x_189_18 rfl ?_
  refine r_iadd x_189_20 ?_
  obtain ⟨h11, h⟩ := h
  obtain ⟨n12, hA13, h⟩ := h
  obtain ⟨h14, h⟩ := h
  refine r_iald x_189_21 hA13 h11 h14.1 h14.2 ?_
  refine r_istore x_189_22 (by decide +kernel) rfl (lv1 := [(0, .ref a0), (1, g_n v1), (2, g_n v2), (3, g_n v3), (4, g_n ((g_i M b2 v1) - 1)), (5, g_n (g_i M b8 ((v1 * 9) + ((g_i M b2 v1) - 1))))]) rfl ?_
  refine r_aload_n x_189_24 rfl ?_
  refine r_iload_n x_189_25 rfl ?_
  refine r_iload x_189_26 rfl ?_
  refine r_invV x_189_28 (z := 185) (ns := 0) (by decide +kernel) (as := [g_n v1, g_n ((g_i M b2 v1) - 1)]) (r := []) rfl rfl rfl hO1 rfl rfl ?_
  refine r_callV h fun M15 hx16 hok17 h => ?_
  replace h := h hx16 hok17
  replace hO1 := hO1.up hx16
  replace hA5 := hA5.up hx16
  replace hA13 := hA13.up hx16
  refine r_aload_n x_189_31 rfl ?_
  refine r_iload_n x_189_32 rfl ?_
  refine r_iconst x_189_33 ?_
  refine r_iload x_189_34 rfl ?_
  refine r_invV x_189_36 (z := 184) (ns := 0) (by decide +kernel) (as := [g_n v2, g_n 0, g_n (g_i M b8 ((v1 * 9) + ((g_i M b2 v1) - 1)))]) (r := []) rfl rfl rfl hO1 rfl rfl ?_
  refine r_callV h fun M18 hx19 hok20 h => ?_
  replace h := h hx19 hok20
  replace hO1 := hO1.up hx19
  replace hA5 := hA5.up hx19
  replace hA13 := hA13.up hx19
  refine r_aload_n x_189_39 rfl ?_
  obtain ⟨b21, hb22, h⟩ := h
  refine r_getR x_189_40 rfl (ci := 10) (k := 7) (ns := 0) (by decide +kernel) (by decide) rfl (kz := 7) rfl hO1 hb22 ?_
  refine r_iload_n x_189_43 rfl ?_
  obtain ⟨n23, hA24, h⟩ := h
  obtain ⟨h25, h⟩ := h
  refine r_bald x_189_44 (Or.inr rfl) hA24 hv2 h25.1 h25.2 ?_
  refine r_if_eq x_189_45 (t := 71) (by decide +kernel) (hok20.1 _ _) (fun hc => ?_) (fun hc => ?_)
  · replace h := h.1 hc
    refine r_aload_n x_189_71 rfl ?_
    obtain ⟨b26, hb27, h⟩ := h
    refine r_getR x_189_72 rfl (ci := 10) (k := 5) (ns := 0) (by decide +kernel) (by decide) rfl (kz := 5) rfl hO1 hb27 ?_
    refine r_iload_n x_189_75 rfl ?_
    refine r_bipush x_189_76 (x := 9) rfl ?_
    refine r_imul x_189_78 ?_
    obtain ⟨h28, h⟩ := h
    refine r_aload_n x_189_79 rfl ?_
    obtain ⟨b29, hb30, h⟩ := h
    refine r_getR x_189_80 rfl (ci := 10) (k := 5) (ns := 0) (by decide +kernel) (by decide) rfl (kz := 5) rfl hO1 hb30 ?_
    refine r_iload_n x_189_83 rfl ?_
    refine r_bipush x_189_84 (x := 9) rfl ?_
    refine r_imul x_189_86 ?_
    obtain ⟨h31, h⟩ := h
    refine r_iconst x_189_87 ?_
    refine r_iadd x_189_88 ?_
    obtain ⟨h32, h⟩ := h
    refine r_aload_n x_189_89 rfl ?_
    obtain ⟨b33, hb34, h⟩ := h
    refine r_getR x_189_90 rfl (ci := 10) (k := 6) (ns := 0) (by decide +kernel) (by decide) rfl (kz := 6) rfl hO1 hb34 ?_
    refine r_iload_n x_189_93 rfl ?_
    obtain ⟨n35, hA36, h⟩ := h
    obtain ⟨h37, h⟩ := h
    refine r_iald x_189_94 hA36 hv2 h37.1 h37.2 ?_
    refine r_iconst x_189_95 ?_
    refine r_isub x_189_96 ?_
    obtain ⟨h38, h⟩ := h
    obtain ⟨n39, hA40, h⟩ := h
    obtain ⟨n41, hA42, h⟩ := h
    obtain ⟨h43, h⟩ := h
    refine r_copy x_189_97 rfl rfl rfl rfl rfl rfl (by decide) hA40 hA42 h28 h32 h38 h43.1 h43.2.1 h43.2.2.1 h43.2.2.2.1 h43.2.2.2.2 ?_
    obtain ⟨M44, hM45⟩ : ∃ Mz, Mz = g_cp M18 b26 b29 (v2 * 9) ((v2 * 9) + 1) ((g_i M18 b33 v2) - 2) := ⟨_, rfl⟩
    rw [← hM45]
    refine g_Run.ok fun hok46 => ?_
    replace h := h M44 hM45 hok46
    have hx47 := g_extC hM45
    replace hO1 := hO1.up hx47
    replace hA5 := hA5.up hx47
    replace hA13 := hA13.up hx47
    replace hA24 := hA24.up hx47
    replace hA36 := hA36.up hx47
    replace hA40 := hA40.up hx47
    replace hA42 := hA42.up hx47
    refine r_aload_n x_189_100 rfl ?_
    obtain ⟨b48, hb49, h⟩ := h
    refine r_getR x_189_101 rfl (ci := 10) (k := 5) (ns := 0) (by decide +kernel) (by decide) rfl (kz := 5) rfl hO1 hb49 ?_
    refine r_iload_n x_189_104 rfl ?_
    refine r_bipush x_189_105 (x := 9) rfl ?_
    refine r_imul x_189_107 ?_
    obtain ⟨h50, h⟩ := h
    refine r_aload_n x_189_108 rfl ?_
    obtain ⟨b51, hb52, h⟩ := h
    refine r_getR x_189_109 rfl (ci := 10) (k := 5) (ns := 0) (by decide +kernel) (by decide) rfl (kz := 5) rfl hO1 hb52 ?_
    refine r_iload_n x_189_112 rfl ?_
    obtain ⟨n53, hA54, h⟩ := h
    obtain ⟨h55, h⟩ := h
    refine r_iald x_189_113 hA54 hv3 h55.1 h55.2 ?_
    obtain ⟨n56, hA57, h⟩ := h
    obtain ⟨h58, h⟩ := h
    refine r_iast x_189_114 hA57 h50 h58.1 h58.2 (hok46.1 _ _) ?_
    obtain ⟨M59, hM60⟩ : ∃ Mz, Mz = g_wi M44 b48 (v2 * 9) (g_i M44 b51 v3) := ⟨_, rfl⟩
    rw [← hM60]
    refine g_Run.ok fun hok61 => ?_
    replace h := h M59 hM60 hok61
    have hx62 := g_extW hM60
    replace hO1 := hO1.up hx62
    replace hA5 := hA5.up hx62
    replace hA13 := hA13.up hx62
    replace hA24 := hA24.up hx62
    replace hA36 := hA36.up hx62
    replace hA40 := hA40.up hx62
    replace hA42 := hA42.up hx62
    replace hA54 := hA54.up hx62
    replace hA57 := hA57.up hx62
    refine r_aload_n x_189_115 rfl ?_
    obtain ⟨b63, hb64, h⟩ := h
    refine r_getR x_189_116 rfl (ci := 10) (k := 5) (ns := 0) (by decide +kernel) (by decide) rfl (kz := 5) rfl hO1 hb64 ?_
    refine r_iload_n x_189_119 rfl ?_
    refine r_aload_n x_189_120 rfl ?_
    obtain ⟨b65, hb66, h⟩ := h
    refine r_getR x_189_121 rfl (ci := 10) (k := 5) (ns := 0) (by decide +kernel) (by decide) rfl (kz := 5) rfl hO1 hb66 ?_
    refine r_iload_n x_189_124 rfl ?_
    refine r_bipush x_189_125 (x := 9) rfl ?_
    refine r_imul x_189_127 ?_
    obtain ⟨h67, h⟩ := h
    refine r_iload x_189_128 rfl ?_
    refine r_iadd x_189_130 ?_
    obtain ⟨h68, h⟩ := h
    refine r_iconst x_189_131 ?_
    refine r_isub x_189_132 ?_
    obtain ⟨h69, h⟩ := h
    obtain ⟨n70, hA71, h⟩ := h
    obtain ⟨h72, h⟩ := h
    refine r_iald x_189_133 hA71 h69 h72.1 h72.2 ?_
    obtain ⟨n73, hA74, h⟩ := h
    obtain ⟨h75, h⟩ := h
    refine r_iast x_189_134 hA74 hv3 h75.1 h75.2 (hok61.1 _ _) ?_
    obtain ⟨M76, hM77⟩ : ∃ Mz, Mz = g_wi M59 b63 v3 (g_i M59 b65 (((v1 * 9) + ((g_i M b2 v1) - 1)) - 1)) := ⟨_, rfl⟩
    rw [← hM77]
    refine g_Run.ok fun hok78 => ?_
    replace h := h M76 hM77 hok78
    have hx79 := g_extW hM77
    replace hO1 := hO1.up hx79
    replace hA5 := hA5.up hx79
    replace hA13 := hA13.up hx79
    replace hA24 := hA24.up hx79
    replace hA36 := hA36.up hx79
    replace hA40 := hA40.up hx79
    replace hA42 := hA42.up hx79
    replace hA54 := hA54.up hx79
    replace hA57 := hA57.up hx79
    replace hA71 := hA71.up hx79
    replace hA74 := hA74.up hx79
    exact r_retV x_189_135 rfl h
  · replace h := h.2 hc
    refine r_aload_n x_189_48 rfl ?_
    refine r_aload_n x_189_49 rfl ?_
    obtain ⟨b80, hb81, h⟩ := h
    refine r_getR x_189_50 rfl (ci := 10) (k := 5) (ns := 0) (by decide +kernel) (by decide) rfl (kz := 5) rfl hO1 hb81 ?_
    refine r_iload_n x_189_53 rfl ?_
    obtain ⟨n82, hA83, h⟩ := h
    obtain ⟨h84, h⟩ := h
    refine r_iald x_189_54 hA83 hv3 h84.1 h84.2 ?_
    refine r_invV x_189_55 (z := 175) (ns := 0) (by decide +kernel) (as := [g_n (g_i M18 b80 v3)]) (r := []) rfl rfl rfl hO1 rfl rfl ?_
    refine r_callV h fun M85 hx86 hok87 h => ?_
    replace h := h hx86 hok87
    replace hO1 := hO1.up hx86
    replace hA5 := hA5.up hx86
    replace hA13 := hA13.up hx86
    replace hA24 := hA24.up hx86
    replace hA83 := hA83.up hx86
    refine r_aload_n x_189_58 rfl ?_
    obtain ⟨b88, hb89, h⟩ := h
    refine r_getR x_189_59 rfl (ci := 10) (k := 5) (ns := 0) (by decide +kernel) (by decide) rfl (kz := 5) rfl hO1 hb89 ?_
    refine r_iload_n x_189_62 rfl ?_
    refine r_aload_n x_189_63 rfl ?_
    refine r_iload x_189_64 rfl ?_
    refine r_invV x_189_66 (z := 179) (ns := 0) (by decide +kernel) (as := [g_n (g_i M b8 ((v1 * 9) + ((g_i M b2 v1) - 1)))]) (r := [g_n v3, .ref b88]) rfl rfl rfl hO1 rfl rfl ?_
    refine r_callI h fun r93 M90 hx91 hok92 hr94 h => ?_
    replace h := h hx91 hok92 hr94
    replace hO1 := hO1.up hx91
    replace hA5 := hA5.up hx91
    replace hA13 := hA13.up hx91
    replace hA24 := hA24.up hx91
    replace hA83 := hA83.up hx91
    obtain ⟨n95, hA96, h⟩ := h
    obtain ⟨h97, h⟩ := h
    refine r_iast x_189_69 hA96 hv3 h97.1 h97.2 hr94 ?_
    obtain ⟨M98, hM99⟩ : ∃ Mz, Mz = g_wi M90 b88 v3 r93 := ⟨_, rfl⟩
    rw [← hM99]
    refine g_Run.ok fun hok100 => ?_
    replace h := h M98 hM99 hok100
    have hx101 := g_extW hM99
    replace hO1 := hO1.up hx101
    replace hA5 := hA5.up hx101
    replace hA13 := hA13.up hx101
    replace hA24 := hA24.up hx101
    replace hA83 := hA83.up hx101
    replace hA96 := hA96.up hx101
    exact r_retV x_189_70 rfl h
theorem m_X10_takeFirst {d : Nat} {M : g_M} {Q : g_M → Prop} {a0 : Nat} {v1 : Int} (hv1 : g_InR v1) {v2 : Int} (hv2 : g_InR v2) {v3 : Int} (hv3 : g_InR v3) (h : g_ok M → g_O M a0 10 ∧ ∃ b2, g_r M a0 4 = some b2 ∧ g_InR (v2 * 9) ∧ ∃ n5, g_A M b2 1 n5 ∧ ((0 : Int) ≤ v2 * 9 ∧ (v2 * 9 : Int) < n5) ∧ g_Call d 185 [.ref a0, g_n v2, g_n 0] M (g_qV fun M8 => g_ext M M8 → g_ok M8 → ∃ b11, g_r M8 a0 6 = some b11 ∧ ∃ n13, g_A M8 b11 1 n13 ∧ ((0 : Int) ≤ v1 ∧ (v1 : Int) < n13) ∧ g_Call d 184 [.ref a0, g_n v1, g_n (g_i M8 b11 v1), g_n (g_i M b2 (v2 * 9))] M8 (g_qV fun M16 => g_ext M8 M16 → g_ok M16 → ∃ b19, g_r M16 a0 7 = some b19 ∧ ∃ n21, g_A M16 b19 2 n21 ∧ ((0 : Int) ≤ v1 ∧ (v1 : Int) < n21) ∧ ((g_i M16 b19 v1 = 0 → ∃ b24, g_r M16 a0 5 = some b24 ∧ g_InR (v1 * 9) ∧ ∃ b27, g_r M16 a0 6 = some b27 ∧ ∃ n29, g_A M16 b27 1 n29 ∧ ((0 : Int) ≤ v1 ∧ (v1 : Int) < n29) ∧ g_InR ((v1 * 9) + (g_i M16 b27 v1)) ∧ g_InR (((v1 * 9) + (g_i M16 b27 v1)) - 2) ∧ ∃ b34, g_r M16 a0 5 = some b34 ∧ ∃ n36, g_A M16 b34 1 n36 ∧ ((0 : Int) ≤ v3 ∧ (v3 : Int) < n36) ∧ ∃ n39, g_A M16 b24 1 n39 ∧ ((0 : Int) ≤ ((v1 * 9) + (g_i M16 b27 v1)) - 2 ∧ (((v1 * 9) + (g_i M16 b27 v1)) - 2 : Int) < n39) ∧ (∀ M42, M42 = g_wi M16 b24 (((v1 * 9) + (g_i M16 b27 v1)) - 2) (g_i M16 b34 v3) → g_ok M42 → ∃ b46, g_r M42 a0 5 = some b46 ∧ ∃ b48, g_r M42 a0 5 = some b48 ∧ g_InR (v2 * 9) ∧ ∃ n51, g_A M42 b48 1 n51 ∧ ((0 : Int) ≤ v2 * 9 ∧ (v2 * 9 : Int) < n51) ∧ ∃ n54, g_A M42 b46 1 n54 ∧ ((0 : Int) ≤ v3 ∧ (v3 : Int) < n54) ∧ (∀ M57, M57 = g_wi M42 b46 v3 (g_i M42 b48 (v2 * 9)) → g_ok M57 → ∃ b61, g_r M57 a0 5 = some b61 ∧ g_InR (v2 * 9) ∧ g_InR ((v2 * 9) + 1) ∧ ∃ b65, g_r M57 a0 5 = some b65 ∧ g_InR (v2 * 9) ∧ ∃ b68, g_r M57 a0 6 = some b68 ∧ ∃ n70, g_A M57 b68 1 n70 ∧ ((0 : Int) ≤ v2 ∧ (v2 : Int) < n70) ∧ g_InR ((g_i M57 b68 v2) - 1) ∧ ∃ n74, g_A M57 b61 1 n74 ∧ ∃ n76, g_A M57 b65 1 n76 ∧ ((0 : Int) ≤ (v2 * 9) + 1 ∧ (0 : Int) ≤ v2 * 9 ∧ (0 : Int) ≤ (g_i M57 b68 v2) - 1 ∧ (((v2 * 9) + 1) : Int) + ((g_i M57 b68 v2) - 1) ≤ n74 ∧ ((v2 * 9) : Int) + ((g_i M57 b68 v2) - 1) ≤ n76) ∧ (∀ M79, M79 = g_cp M57 b61 b65 ((v2 * 9) + 1) (v2 * 9) ((g_i M57 b68 v2) - 1) → g_ok M79 → Q M79)))) ∧ (¬ g_i M16 b19 v1 = 0 → ∃ b83, g_r M16 a0 5 = some b83 ∧ ∃ n85, g_A M16 b83 1 n85 ∧ ((0 : Int) ≤ v3 ∧ (v3 : Int) < n85) ∧ g_Call d 175 [.ref a0, g_n (g_i M16 b83 v3)] M16 (g_qV fun M88 => g_ext M16 M88 → g_ok M88 → ∃ b91, g_r M88 a0 5 = some b91 ∧ ∃ b93, g_r M88 a0 4 = some b93 ∧ g_InR (v2 * 9) ∧ ∃ n96, g_A M88 b93 1 n96 ∧ ((0 : Int) ≤ v2 * 9 ∧ (v2 * 9 : Int) < n96) ∧ g_Call d 179 [.ref a0, g_n (g_i M88 b93 (v2 * 9))] M88 (g_qI fun r102 M99 => g_ext M88 M99 → g_ok M99 → g_InR r102 → ∃ n104, g_A M99 b91 1 n104 ∧ ((0 : Int) ≤ v3 ∧ (v3 : Int) < n104) ∧ (∀ M107, M107 = g_wi M99 b91 v3 r102 → g_ok M107 → Q M107)))))))) : g_Call (d + 1) 190 [.ref a0, g_n v1, g_n v2, g_n v3] M (g_qV Q) := by
  refine g_Call.ok fun hok0 => ?_
  replace h := h hok0
  refine r_body rfl (lv := [(0, .ref a0), (1, g_n v1), (2, g_n v2), (3, g_n v3)]) rfl ?_
  refine g_Run.ok fun hok => ?_
  refine r_aload_n x_190_0 rfl ?_
  obtain ⟨hO1, h⟩ := h
  obtain ⟨b2, hb3, h⟩ := h
  refine r_getR x_190_1 rfl (ci := 10) (k := 4) (ns := 0) (by decide +kernel) (by decide) rfl (kz := 4) rfl hO1 hb3 ?_
  refine r_iload_n x_190_4 rfl ?_
  refine r_bipush x_190_5 (x := 9) rfl ?_
  refine r_imul x_190_7 ?_
  obtain ⟨h4, h⟩ := h
  obtain ⟨n5, hA6, h⟩ := h
  obtain ⟨h7, h⟩ := h
  refine r_iald x_190_8 hA6 h4 h7.1 h7.2 ?_
  refine r_istore x_190_9 (by decide +kernel) rfl (lv1 := [(0, .ref a0), (1, g_n v1), (2, g_n v2), (3, g_n v3), (4, g_n (g_i M b2 (v2 * 9)))]) rfl ?_
  refine r_aload_n x_190_11 rfl ?_
  refine r_iload_n x_190_12 rfl ?_
  refine r_iconst x_190_13 ?_
  refine r_invV x_190_14 (z := 185) (ns := 0) (by decide +kernel) (as := [g_n v2, g_n 0]) (r := []) rfl rfl rfl hO1 rfl rfl ?_
  refine r_callV h fun M8 hx9 hok10 h => ?_
  replace h := h hx9 hok10
  replace hO1 := hO1.up hx9
  replace hA6 := hA6.up hx9
  refine r_aload_n x_190_17 rfl ?_
  refine r_iload_n x_190_18 rfl ?_
  refine r_aload_n x_190_19 rfl ?_
  obtain ⟨b11, hb12, h⟩ := h
  refine r_getR x_190_20 rfl (ci := 10) (k := 6) (ns := 0) (by decide +kernel) (by decide) rfl (kz := 6) rfl hO1 hb12 ?_
  refine r_iload_n x_190_23 rfl ?_
  obtain ⟨n13, hA14, h⟩ := h
  obtain ⟨h15, h⟩ := h
  refine r_iald x_190_24 hA14 hv1 h15.1 h15.2 ?_
  refine r_iload x_190_25 rfl ?_
  refine r_invV x_190_27 (z := 184) (ns := 0) (by decide +kernel) (as := [g_n v1, g_n (g_i M8 b11 v1), g_n (g_i M b2 (v2 * 9))]) (r := []) rfl rfl rfl hO1 rfl rfl ?_
  refine r_callV h fun M16 hx17 hok18 h => ?_
  replace h := h hx17 hok18
  replace hO1 := hO1.up hx17
  replace hA6 := hA6.up hx17
  replace hA14 := hA14.up hx17
  refine r_aload_n x_190_30 rfl ?_
  obtain ⟨b19, hb20, h⟩ := h
  refine r_getR x_190_31 rfl (ci := 10) (k := 7) (ns := 0) (by decide +kernel) (by decide) rfl (kz := 7) rfl hO1 hb20 ?_
  refine r_iload_n x_190_34 rfl ?_
  obtain ⟨n21, hA22, h⟩ := h
  obtain ⟨h23, h⟩ := h
  refine r_bald x_190_35 (Or.inr rfl) hA22 hv1 h23.1 h23.2 ?_
  refine r_if_eq x_190_36 (t := 69) (by decide +kernel) (hok18.1 _ _) (fun hc => ?_) (fun hc => ?_)
  · replace h := h.1 hc
    refine r_aload_n x_190_69 rfl ?_
    obtain ⟨b24, hb25, h⟩ := h
    refine r_getR x_190_70 rfl (ci := 10) (k := 5) (ns := 0) (by decide +kernel) (by decide) rfl (kz := 5) rfl hO1 hb25 ?_
    refine r_iload_n x_190_73 rfl ?_
    refine r_bipush x_190_74 (x := 9) rfl ?_
    refine r_imul x_190_76 ?_
    obtain ⟨h26, h⟩ := h
    refine r_aload_n x_190_77 rfl ?_
    obtain ⟨b27, hb28, h⟩ := h
    refine r_getR x_190_78 rfl (ci := 10) (k := 6) (ns := 0) (by decide +kernel) (by decide) rfl (kz := 6) rfl hO1 hb28 ?_
    refine r_iload_n x_190_81 rfl ?_
    obtain ⟨n29, hA30, h⟩ := h
    obtain ⟨h31, h⟩ := h
    refine r_iald x_190_82 hA30 hv1 h31.1 h31.2 ?_
    refine r_iadd x_190_83 ?_
    obtain ⟨h32, h⟩ := h
    refine r_iconst x_190_84 ?_
    refine r_isub x_190_85 ?_
    obtain ⟨h33, h⟩ := h
    refine r_aload_n x_190_86 rfl ?_
    obtain ⟨b34, hb35, h⟩ := h
    refine r_getR x_190_87 rfl (ci := 10) (k := 5) (ns := 0) (by decide +kernel) (by decide) rfl (kz := 5) rfl hO1 hb35 ?_
    refine r_iload_n x_190_90 rfl ?_
    obtain ⟨n36, hA37, h⟩ := h
    obtain ⟨h38, h⟩ := h
    refine r_iald x_190_91 hA37 hv3 h38.1 h38.2 ?_
    obtain ⟨n39, hA40, h⟩ := h
    obtain ⟨h41, h⟩ := h
    refine r_iast x_190_92 hA40 h33 h41.1 h41.2 (hok18.1 _ _) ?_
    obtain ⟨M42, hM43⟩ : ∃ Mz, Mz = g_wi M16 b24 (((v1 * 9) + (g_i M16 b27 v1)) - 2) (g_i M16 b34 v3) := ⟨_, rfl⟩
    rw [← hM43]
    refine g_Run.ok fun hok44 => ?_
    replace h := h M42 hM43 hok44
    have hx45 := g_extW hM43
    replace hO1 := hO1.up hx45
    replace hA6 := hA6.up hx45
    replace hA14 := hA14.up hx45
    replace hA22 := hA22.up hx45
    replace hA30 := hA30.up hx45
    replace hA37 := hA37.up hx45
    replace hA40 := hA40.up hx45
    refine r_aload_n x_190_93 rfl ?_
    obtain ⟨b46, hb47, h⟩ := h
    refine r_getR x_190_94 rfl (ci := 10) (k := 5) (ns := 0) (by decide +kernel) (by decide) rfl (kz := 5) rfl hO1 hb47 ?_
    refine r_iload_n x_190_97 rfl ?_
    refine r_aload_n x_190_98 rfl ?_
    obtain ⟨b48, hb49, h⟩ := h
    refine r_getR x_190_99 rfl (ci := 10) (k := 5) (ns := 0) (by decide +kernel) (by decide) rfl (kz := 5) rfl hO1 hb49 ?_
    refine r_iload_n x_190_102 rfl ?_
    refine r_bipush x_190_103 (x := 9) rfl ?_
    refine r_imul x_190_105 ?_
    obtain ⟨h50, h⟩ := h
    obtain ⟨n51, hA52, h⟩ := h
    obtain ⟨h53, h⟩ := h
    refine r_iald x_190_106 hA52 h50 h53.1 h53.2 ?_
    obtain ⟨n54, hA55, h⟩ := h
    obtain ⟨h56, h⟩ := h
    refine r_iast x_190_107 hA55 hv3 h56.1 h56.2 (hok44.1 _ _) ?_
    obtain ⟨M57, hM58⟩ : ∃ Mz, Mz = g_wi M42 b46 v3 (g_i M42 b48 (v2 * 9)) := ⟨_, rfl⟩
    rw [← hM58]
    refine g_Run.ok fun hok59 => ?_
    replace h := h M57 hM58 hok59
    have hx60 := g_extW hM58
    replace hO1 := hO1.up hx60
    replace hA6 := hA6.up hx60
    replace hA14 := hA14.up hx60
    replace hA22 := hA22.up hx60
    replace hA30 := hA30.up hx60
    replace hA37 := hA37.up hx60
    replace hA40 := hA40.up hx60
    replace hA52 := hA52.up hx60
    replace hA55 := hA55.up hx60
    refine r_aload_n x_190_108 rfl ?_
    obtain ⟨b61, hb62, h⟩ := h
    refine r_getR x_190_109 rfl (ci := 10) (k := 5) (ns := 0) (by decide +kernel) (by decide) rfl (kz := 5) rfl hO1 hb62 ?_
    refine r_iload_n x_190_112 rfl ?_
    refine r_bipush x_190_113 (x := 9) rfl ?_
    refine r_imul x_190_115 ?_
    obtain ⟨h63, h⟩ := h
    refine r_iconst x_190_116 ?_
    refine r_iadd x_190_117 ?_
    obtain ⟨h64, h⟩ := h
    refine r_aload_n x_190_118 rfl ?_
    obtain ⟨b65, hb66, h⟩ := h
    refine r_getR x_190_119 rfl (ci := 10) (k := 5) (ns := 0) (by decide +kernel) (by decide) rfl (kz := 5) rfl hO1 hb66 ?_
    refine r_iload_n x_190_122 rfl ?_
    refine r_bipush x_190_123 (x := 9) rfl ?_
    refine r_imul x_190_125 ?_
    obtain ⟨h67, h⟩ := h
    refine r_aload_n x_190_126 rfl ?_
    obtain ⟨b68, hb69, h⟩ := h
    refine r_getR x_190_127 rfl (ci := 10) (k := 6) (ns := 0) (by decide +kernel) (by decide) rfl (kz := 6) rfl hO1 hb69 ?_
    refine r_iload_n x_190_130 rfl ?_
    obtain ⟨n70, hA71, h⟩ := h
    obtain ⟨h72, h⟩ := h
    refine r_iald x_190_131 hA71 hv2 h72.1 h72.2 ?_
    refine r_iconst x_190_132 ?_
    refine r_isub x_190_133 ?_
    obtain ⟨h73, h⟩ := h
    obtain ⟨n74, hA75, h⟩ := h
    obtain ⟨n76, hA77, h⟩ := h
    obtain ⟨h78, h⟩ := h
    refine r_copy x_190_134 rfl rfl rfl rfl rfl rfl (by decide) hA75 hA77 h64 h67 h73 h78.1 h78.2.1 h78.2.2.1 h78.2.2.2.1 h78.2.2.2.2 ?_
    obtain ⟨M79, hM80⟩ : ∃ Mz, Mz = g_cp M57 b61 b65 ((v2 * 9) + 1) (v2 * 9) ((g_i M57 b68 v2) - 1) := ⟨_, rfl⟩
    rw [← hM80]
    refine g_Run.ok fun hok81 => ?_
    replace h := h M79 hM80 hok81
    have hx82 := g_extC hM80
    replace hO1 := hO1.up hx82
    replace hA6 := hA6.up hx82
    replace hA14 := hA14.up hx82
    replace hA22 := hA22.up hx82
    replace hA30 := hA30.up hx82
    replace hA37 := hA37.up hx82
    replace hA40 := hA40.up hx82
    replace hA52 := hA52.up hx82
    replace hA55 := hA55.up hx82
    replace hA71 := hA71.up hx82
    replace hA75 := hA75.up hx82
    replace hA77 := hA77.up hx82
    exact r_retV x_190_137 rfl h
  · replace h := h.2 hc
    refine r_aload_n x_190_39 rfl ?_
    refine r_aload_n x_190_40 rfl ?_
    obtain ⟨b83, hb84, h⟩ := h
    refine r_getR x_190_41 rfl (ci := 10) (k := 5) (ns := 0) (by decide +kernel) (by decide) rfl (kz := 5) rfl hO1 hb84 ?_
    refine r_iload_n x_190_44 rfl ?_
    obtain ⟨n85, hA86, h⟩ := h
    obtain ⟨h87, h⟩ := h
    refine r_iald x_190_45 hA86 hv3 h87.1 h87.2 ?_
    refine r_invV x_190_46 (z := 175) (ns := 0) (by decide +kernel) (as := [g_n (g_i M16 b83 v3)]) (r := []) rfl rfl rfl hO1 rfl rfl ?_
    refine r_callV h fun M88 hx89 hok90 h => ?_
    replace h := h hx89 hok90
    replace hO1 := hO1.up hx89
    replace hA6 := hA6.up hx89
    replace hA14 := hA14.up hx89
    replace hA22 := hA22.up hx89
    replace hA86 := hA86.up hx89
    refine r_aload_n x_190_49 rfl ?_
    obtain ⟨b91, hb92, h⟩ := h
    refine r_getR x_190_50 rfl (ci := 10) (k := 5) (ns := 0) (by decide +kernel) (by decide) rfl (kz := 5) rfl hO1 hb92 ?_
    refine r_iload_n x_190_53 rfl ?_
    refine r_aload_n x_190_54 rfl ?_
    refine r_aload_n x_190_55 rfl ?_
    obtain ⟨b93, hb94, h⟩ := h
    refine r_getR x_190_56 rfl (ci := 10) (k := 4) (ns := 0) (by decide +kernel) (by decide) rfl (kz := 4) rfl hO1 hb94 ?_
    refine r_iload_n x_190_59 rfl ?_
    refine r_bipush x_190_60 (x := 9) rfl ?_
    refine r_imul x_190_62 ?_
    obtain ⟨h95, h⟩ := h
    obtain ⟨n96, hA97, h⟩ := h
    obtain ⟨h98, h⟩ := h
    refine r_iald x_190_63 hA97 h95 h98.1 h98.2 ?_
    refine r_invV x_190_64 (z := 179) (ns := 0) (by decide +kernel) (as := [g_n (g_i M88 b93 (v2 * 9))]) (r := [g_n v3, .ref b91]) rfl rfl rfl hO1 rfl rfl ?_
    refine r_callI h fun r102 M99 hx100 hok101 hr103 h => ?_
    replace h := h hx100 hok101 hr103
    replace hO1 := hO1.up hx100
    replace hA6 := hA6.up hx100
    replace hA14 := hA14.up hx100
    replace hA22 := hA22.up hx100
    replace hA86 := hA86.up hx100
    replace hA97 := hA97.up hx100
    obtain ⟨n104, hA105, h⟩ := h
    obtain ⟨h106, h⟩ := h
    refine r_iast x_190_67 hA105 hv3 h106.1 h106.2 hr103 ?_
    obtain ⟨M107, hM108⟩ : ∃ Mz, Mz = g_wi M99 b91 v3 r102 := ⟨_, rfl⟩
    rw [← hM108]
    refine g_Run.ok fun hok109 => ?_
    replace h := h M107 hM108 hok109
    have hx110 := g_extW hM108
    replace hO1 := hO1.up hx110
    replace hA6 := hA6.up hx110
    replace hA14 := hA14.up hx110
    replace hA22 := hA22.up hx110
    replace hA86 := hA86.up hx110
    replace hA97 := hA97.up hx110
    replace hA105 := hA105.up hx110
    exact r_retV x_190_68 rfl h
theorem m_X10_join {d : Nat} {M : g_M} {Q : g_M → Prop} {a0 : Nat} {v1 : Int} (hv1 : g_InR v1) {v2 : Int} (hv2 : g_InR v2) (h : g_ok M → g_InR (v1 * 9) ∧ g_InR ((v1 * 9) + v2) ∧ g_O M a0 10 ∧ ∃ b4, g_r M a0 4 = some b4 ∧ ∃ n6, g_A M b4 1 n6 ∧ ((0 : Int) ≤ (v1 * 9) + v2 ∧ ((v1 * 9) + v2 : Int) < n6) ∧ ∃ b9, g_r M a0 4 = some b9 ∧ g_InR (((v1 * 9) + v2) + 1) ∧ ∃ n12, g_A M b9 1 n12 ∧ ((0 : Int) ≤ ((v1 * 9) + v2) + 1 ∧ (((v1 * 9) + v2) + 1 : Int) < n12) ∧ ∃ b15, g_r M a0 6 = some b15 ∧ ∃ n17, g_A M b15 1 n17 ∧ ((0 : Int) ≤ g_i M b4 ((v1 * 9) + v2) ∧ (g_i M b4 ((v1 * 9) + v2) : Int) < n17) ∧ ∃ b20, g_r M a0 4 = some b20 ∧ g_InR ((g_i M b9 (((v1 * 9) + v2) + 1)) * 9) ∧ ∃ b23, g_r M a0 4 = some b23 ∧ g_InR ((g_i M b4 ((v1 * 9) + v2)) * 9) ∧ g_InR (((g_i M b4 ((v1 * 9) + v2)) * 9) + (g_i M b15 (g_i M b4 ((v1 * 9) + v2)))) ∧ ∃ b27, g_r M a0 6 = some b27 ∧ ∃ n29, g_A M b27 1 n29 ∧ ((0 : Int) ≤ g_i M b9 (((v1 * 9) + v2) + 1) ∧ (g_i M b9 (((v1 * 9) + v2) + 1) : Int) < n29) ∧ ∃ n32, g_A M b20 1 n32 ∧ ∃ n34, g_A M b23 1 n34 ∧ ((0 : Int) ≤ (g_i M b9 (((v1 * 9) + v2) + 1)) * 9 ∧ (0 : Int) ≤ ((g_i M b4 ((v1 * 9) + v2)) * 9) + (g_i M b15 (g_i M b4 ((v1 * 9) + v2))) ∧ (0 : Int) ≤ g_i M b27 (g_i M b9 (((v1 * 9) + v2) + 1)) ∧ (((g_i M b9 (((v1 * 9) + v2) + 1)) * 9) : Int) + (g_i M b27 (g_i M b9 (((v1 * 9) + v2) + 1))) ≤ n32 ∧ ((((g_i M b4 ((v1 * 9) + v2)) * 9) + (g_i M b15 (g_i M b4 ((v1 * 9) + v2)))) : Int) + (g_i M b27 (g_i M b9 (((v1 * 9) + v2) + 1))) ≤ n34) ∧ (∀ M37, M37 = g_cp M b20 b23 ((g_i M b9 (((v1 * 9) + v2) + 1)) * 9) (((g_i M b4 ((v1 * 9) + v2)) * 9) + (g_i M b15 (g_i M b4 ((v1 * 9) + v2)))) (g_i M b27 (g_i M b9 (((v1 * 9) + v2) + 1))) → g_ok M37 → ∃ b41, g_r M37 a0 7 = some b41 ∧ ∃ n43, g_A M37 b41 2 n43 ∧ ((0 : Int) ≤ g_i M b4 ((v1 * 9) + v2) ∧ (g_i M b4 ((v1 * 9) + v2) : Int) < n43) ∧ ((g_i M37 b41 (g_i M b4 ((v1 * 9) + v2)) = 0 → ∃ b46, g_r M37 a0 5 = some b46 ∧ g_InR ((g_i M b4 ((v1 * 9) + v2)) * 9) ∧ g_InR (((g_i M b4 ((v1 * 9) + v2)) * 9) + (g_i M b15 (g_i M b4 ((v1 * 9) + v2)))) ∧ g_InR ((((g_i M b4 ((v1 * 9) + v2)) * 9) + (g_i M b15 (g_i M b4 ((v1 * 9) + v2)))) - 1) ∧ ∃ b51, g_r M37 a0 5 = some b51 ∧ ∃ n53, g_A M37 b51 1 n53 ∧ ((0 : Int) ≤ (v1 * 9) + v2 ∧ ((v1 * 9) + v2 : Int) < n53) ∧ ∃ n56, g_A M37 b46 1 n56 ∧ ((0 : Int) ≤ (((g_i M b4 ((v1 * 9) + v2)) * 9) + (g_i M b15 (g_i M b4 ((v1 * 9) + v2)))) - 1 ∧ ((((g_i M b4 ((v1 * 9) + v2)) * 9) + (g_i M b15 (g_i M b4 ((v1 * 9) + v2)))) - 1 : Int) < n56) ∧ (∀ M59, M59 = g_wi M37 b46 ((((g_i M b4 ((v1 * 9) + v2)) * 9) + (g_i M b15 (g_i M b4 ((v1 * 9) + v2)))) - 1) (g_i M37 b51 ((v1 * 9) + v2)) → g_ok M59 → ∃ b63, g_r M59 a0 5 = some b63 ∧ g_InR ((g_i M b9 (((v1 * 9) + v2) + 1)) * 9) ∧ ∃ b66, g_r M59 a0 5 = some b66 ∧ g_InR ((g_i M b4 ((v1 * 9) + v2)) * 9) ∧ g_InR (((g_i M b4 ((v1 * 9) + v2)) * 9) + (g_i M b15 (g_i M b4 ((v1 * 9) + v2)))) ∧ ∃ b70, g_r M59 a0 6 = some b70 ∧ ∃ n72, g_A M59 b70 1 n72 ∧ ((0 : Int) ≤ g_i M b9 (((v1 * 9) + v2) + 1) ∧ (g_i M b9 (((v1 * 9) + v2) + 1) : Int) < n72) ∧ g_InR ((g_i M59 b70 (g_i M b9 (((v1 * 9) + v2) + 1))) - 1) ∧ ∃ n76, g_A M59 b63 1 n76 ∧ ∃ n78, g_A M59 b66 1 n78 ∧ ((0 : Int) ≤ (g_i M b9 (((v1 * 9) + v2) + 1)) * 9 ∧ (0 : Int) ≤ ((g_i M b4 ((v1 * 9) + v2)) * 9) + (g_i M b15 (g_i M b4 ((v1 * 9) + v2))) ∧ (0 : Int) ≤ (g_i M59 b70 (g_i M b9 (((v1 * 9) + v2) + 1))) - 1 ∧ (((g_i M b9 (((v1 * 9) + v2) + 1)) * 9) : Int) + ((g_i M59 b70 (g_i M b9 (((v1 * 9) + v2) + 1))) - 1) ≤ n76 ∧ ((((g_i M b4 ((v1 * 9) + v2)) * 9) + (g_i M b15 (g_i M b4 ((v1 * 9) + v2)))) : Int) + ((g_i M59 b70 (g_i M b9 (((v1 * 9) + v2) + 1))) - 1) ≤ n78) ∧ (∀ M81, M81 = g_cp M59 b63 b66 ((g_i M b9 (((v1 * 9) + v2) + 1)) * 9) (((g_i M b4 ((v1 * 9) + v2)) * 9) + (g_i M b15 (g_i M b4 ((v1 * 9) + v2)))) ((g_i M59 b70 (g_i M b9 (((v1 * 9) + v2) + 1))) - 1) → g_ok M81 → g_Run d 191 142 [(0, .ref a0), (1, g_n v1), (2, g_n v2), (3, g_n ((v1 * 9) + v2)), (4, g_n (g_i M b4 ((v1 * 9) + v2))), (5, g_n (g_i M b9 (((v1 * 9) + v2) + 1))), (6, g_n (g_i M b15 (g_i M b4 ((v1 * 9) + v2))))] [] M81 (g_qV Q)))) ∧ (¬ g_i M37 b41 (g_i M b4 ((v1 * 9) + v2)) = 0 → ∃ b85, g_r M37 a0 5 = some b85 ∧ ∃ n87, g_A M37 b85 1 n87 ∧ ((0 : Int) ≤ (v1 * 9) + v2 ∧ ((v1 * 9) + v2 : Int) < n87) ∧ g_Call d 175 [.ref a0, g_n (g_i M37 b85 ((v1 * 9) + v2))] M37 (g_qV fun M90 => g_ext M37 M90 → g_ok M90 → g_Run d 191 142 [(0, .ref a0), (1, g_n v1), (2, g_n v2), (3, g_n ((v1 * 9) + v2)), (4, g_n (g_i M b4 ((v1 * 9) + v2))), (5, g_n (g_i M b9 (((v1 * 9) + v2) + 1))), (6, g_n (g_i M b15 (g_i M b4 ((v1 * 9) + v2))))] [] M90 (g_qV Q)))))) : g_Call (d + 1) 191 [.ref a0, g_n v1, g_n v2] M (g_qV Q) := by
  refine g_Call.ok fun hok0 => ?_
  replace h := h hok0
  refine r_body rfl (lv := [(0, .ref a0), (1, g_n v1), (2, g_n v2)]) rfl ?_
  refine g_Run.ok fun hok => ?_
  refine r_iload_n x_191_0 rfl ?_
  refine r_bipush x_191_1 (x := 9) rfl ?_
  refine r_imul x_191_3 ?_
  obtain ⟨h1, h⟩ := h
  refine r_iload_n x_191_4 rfl ?_
  refine r_iadd x_191_5 ?_
  obtain ⟨h2, h⟩ := h
  refine r_istore_n x_191_6 (by decide +kernel) rfl (lv1 := [(0, .ref a0), (1, g_n v1), (2, g_n v2), (3, g_n ((v1 * 9) + v2))]) rfl ?_
  refine r_aload_n x_191_7 rfl ?_
  obtain ⟨hO3, h⟩ := h
  obtain ⟨b4, hb5, h⟩ := h
  refine r_getR x_191_8 rfl (ci := 10) (k := 4) (ns := 0) (by decide +kernel) (by decide) rfl (kz := 4) rfl hO3 hb5 ?_
  refine r_iload_n x_191_11 rfl ?_
  obtain ⟨n6, hA7, h⟩ := h
  obtain ⟨h8, h⟩ := h
  refine r_iald x_191_12 hA7 h2 h8.1 h8.2 ?_
  refine r_istore x_191_13 (by decide +kernel) rfl (lv1 := [(0, .ref a0), (1, g_n v1), (2, g_n v2), (3, g_n ((v1 * 9) + v2)), (4, g_n (g_i M b4 ((v1 * 9) + v2)))]) rfl ?_
  refine r_aload_n x_191_15 rfl ?_
  obtain ⟨b9, hb10, h⟩ := h
  refine r_getR x_191_16 rfl (ci := 10) (k := 4) (ns := 0) (by decide +kernel) (by decide) rfl (kz := 4) rfl hO3 hb10 ?_
  refine r_iload_n x_191_19 rfl ?_
  refine r_iconst x_191_20 ?_
  refine r_iadd x_191_21 ?_
  obtain ⟨h11, h⟩ := h
  obtain ⟨n12, hA13, h⟩ := h
  obtain ⟨h14, h⟩ := h
  refine r_iald x_191_22 hA13 h11 h14.1 h14.2 ?_
  refine r_istore x_191_23 (by decide +kernel) rfl (lv1 := [(0, .ref a0), (1, g_n v1), (2, g_n v2), (3, g_n ((v1 * 9) + v2)), (4, g_n (g_i M b4 ((v1 * 9) + v2))), (5, g_n (g_i M b9 (((v1 * 9) + v2) + 1)))]) rfl ?_
  refine r_aload_n x_191_25 rfl ?_
  obtain ⟨b15, hb16, h⟩ := h
  refine r_getR x_191_26 rfl (ci := 10) (k := 6) (ns := 0) (by decide +kernel) (by decide) rfl (kz := 6) rfl hO3 hb16 ?_
  refine r_iload x_191_29 rfl ?_
  obtain ⟨n17, hA18, h⟩ := h
  obtain ⟨h19, h⟩ := h
  refine r_iald x_191_31 hA18 (hok.1 _ _) h19.1 h19.2 ?_
  refine r_istore x_191_32 (by decide +kernel) rfl (lv1 := [(0, .ref a0), (1, g_n v1), (2, g_n v2), (3, g_n ((v1 * 9) + v2)), (4, g_n (g_i M b4 ((v1 * 9) + v2))), (5, g_n (g_i M b9 (((v1 * 9) + v2) + 1))), (6, g_n (g_i M b15 (g_i M b4 ((v1 * 9) + v2))))]) rfl ?_
  refine r_aload_n x_191_34 rfl ?_
  obtain ⟨b20, hb21, h⟩ := h
  refine r_getR x_191_35 rfl (ci := 10) (k := 4) (ns := 0) (by decide +kernel) (by decide) rfl (kz := 4) rfl hO3 hb21 ?_
  refine r_iload x_191_38 rfl ?_
  refine r_bipush x_191_40 (x := 9) rfl ?_
  refine r_imul x_191_42 ?_
  obtain ⟨h22, h⟩ := h
  refine r_aload_n x_191_43 rfl ?_
  obtain ⟨b23, hb24, h⟩ := h
  refine r_getR x_191_44 rfl (ci := 10) (k := 4) (ns := 0) (by decide +kernel) (by decide) rfl (kz := 4) rfl hO3 hb24 ?_
  refine r_iload x_191_47 rfl ?_
  refine r_bipush x_191_49 (x := 9) rfl ?_
  refine r_imul x_191_51 ?_
  obtain ⟨h25, h⟩ := h
  refine r_iload x_191_52 rfl ?_
  refine r_iadd x_191_54 ?_
  obtain ⟨h26, h⟩ := h
  refine r_aload_n x_191_55 rfl ?_
  obtain ⟨b27, hb28, h⟩ := h
  refine r_getR x_191_56 rfl (ci := 10) (k := 6) (ns := 0) (by decide +kernel) (by decide) rfl (kz := 6) rfl hO3 hb28 ?_
  refine r_iload x_191_59 rfl ?_
  obtain ⟨n29, hA30, h⟩ := h
  obtain ⟨h31, h⟩ := h
  refine r_iald x_191_61 hA30 (hok.1 _ _) h31.1 h31.2 ?_
  obtain ⟨n32, hA33, h⟩ := h
  obtain ⟨n34, hA35, h⟩ := h
  obtain ⟨h36, h⟩ := h
  refine r_copy x_191_62 rfl rfl rfl rfl rfl rfl (by decide) hA33 hA35 h22 h26 (hok.1 _ _) h36.1 h36.2.1 h36.2.2.1 h36.2.2.2.1 h36.2.2.2.2 ?_
  obtain ⟨M37, hM38⟩ : ∃ Mz, Mz = g_cp M b20 b23 ((g_i M b9 (((v1 * 9) + v2) + 1)) * 9) (((g_i M b4 ((v1 * 9) + v2)) * 9) + (g_i M b15 (g_i M b4 ((v1 * 9) + v2)))) (g_i M b27 (g_i M b9 (((v1 * 9) + v2) + 1))) := ⟨_, rfl⟩
  rw [← hM38]
  refine g_Run.ok fun hok39 => ?_
  replace h := h M37 hM38 hok39
  have hx40 := g_extC hM38
  replace hO3 := hO3.up hx40
  replace hA7 := hA7.up hx40
  replace hA13 := hA13.up hx40
  replace hA18 := hA18.up hx40
  replace hA30 := hA30.up hx40
  replace hA33 := hA33.up hx40
  replace hA35 := hA35.up hx40
  refine r_aload_n x_191_65 rfl ?_
  obtain ⟨b41, hb42, h⟩ := h
  refine r_getR x_191_66 rfl (ci := 10) (k := 7) (ns := 0) (by decide +kernel) (by decide) rfl (kz := 7) rfl hO3 hb42 ?_
  refine r_iload x_191_69 rfl ?_
  obtain ⟨n43, hA44, h⟩ := h
  obtain ⟨h45, h⟩ := h
  refine r_bald x_191_71 (Or.inr rfl) hA44 (hok.1 _ _) h45.1 h45.2 ?_
  refine r_if_eq x_191_72 (t := 88) (by decide +kernel) (hok39.1 _ _) (fun hc => ?_) (fun hc => ?_)
  · replace h := h.1 hc
    refine r_aload_n x_191_88 rfl ?_
    obtain ⟨b46, hb47, h⟩ := h
    refine r_getR x_191_89 rfl (ci := 10) (k := 5) (ns := 0) (by decide +kernel) (by decide) rfl (kz := 5) rfl hO3 hb47 ?_
    refine r_iload x_191_92 rfl ?_
    refine r_bipush x_191_94 (x := 9) rfl ?_
    refine r_imul x_191_96 ?_
    obtain ⟨h48, h⟩ := h
    refine r_iload x_191_97 rfl ?_
    refine r_iadd x_191_99 ?_
    obtain ⟨h49, h⟩ := h
    refine r_iconst x_191_100 ?_
    refine r_isub x_191_101 ?_
    obtain ⟨h50, h⟩ := h
    refine r_aload_n x_191_102 rfl ?_
    obtain ⟨b51, hb52, h⟩ := h
    refine r_getR x_191_103 rfl (ci := 10) (k := 5) (ns := 0) (by decide +kernel) (by decide) rfl (kz := 5) rfl hO3 hb52 ?_
    refine r_iload_n x_191_106 rfl ?_
    obtain ⟨n53, hA54, h⟩ := h
    obtain ⟨h55, h⟩ := h
    refine r_iald x_191_107 hA54 h2 h55.1 h55.2 ?_
    obtain ⟨n56, hA57, h⟩ := h
    obtain ⟨h58, h⟩ := h
    refine r_iast x_191_108 hA57 h50 h58.1 h58.2 (hok39.1 _ _) ?_
    obtain ⟨M59, hM60⟩ : ∃ Mz, Mz = g_wi M37 b46 ((((g_i M b4 ((v1 * 9) + v2)) * 9) + (g_i M b15 (g_i M b4 ((v1 * 9) + v2)))) - 1) (g_i M37 b51 ((v1 * 9) + v2)) := ⟨_, rfl⟩
    rw [← hM60]
    refine g_Run.ok fun hok61 => ?_
    replace h := h M59 hM60 hok61
    have hx62 := g_extW hM60
    replace hO3 := hO3.up hx62
    replace hA7 := hA7.up hx62
    replace hA13 := hA13.up hx62
    replace hA18 := hA18.up hx62
    replace hA30 := hA30.up hx62
    replace hA33 := hA33.up hx62
    replace hA35 := hA35.up hx62
    replace hA44 := hA44.up hx62
    replace hA54 := hA54.up hx62
    replace hA57 := hA57.up hx62
    refine r_aload_n x_191_109 rfl ?_
    obtain ⟨b63, hb64, h⟩ := h
    refine r_getR x_191_110 rfl (ci := 10) (k := 5) (ns := 0) (by decide +kernel) (by decide) rfl (kz := 5) rfl hO3 hb64 ?_
    refine r_iload x_191_113 rfl ?_
    refine r_bipush x_191_115 (x := 9) rfl ?_
    refine r_imul x_191_117 ?_
    obtain ⟨h65, h⟩ := h
    refine r_aload_n x_191_118 rfl ?_
    obtain ⟨b66, hb67, h⟩ := h
    refine r_getR x_191_119 rfl (ci := 10) (k := 5) (ns := 0) (by decide +kernel) (by decide) rfl (kz := 5) rfl hO3 hb67 ?_
    refine r_iload x_191_122 rfl ?_
    refine r_bipush x_191_124 (x := 9) rfl ?_
    refine r_imul x_191_126 ?_
    obtain ⟨h68, h⟩ := h
    refine r_iload x_191_127 rfl ?_
    refine r_iadd x_191_129 ?_
    obtain ⟨h69, h⟩ := h
    refine r_aload_n x_191_130 rfl ?_
    obtain ⟨b70, hb71, h⟩ := h
    refine r_getR x_191_131 rfl (ci := 10) (k := 6) (ns := 0) (by decide +kernel) (by decide) rfl (kz := 6) rfl hO3 hb71 ?_
    refine r_iload x_191_134 rfl ?_
    obtain ⟨n72, hA73, h⟩ := h
    obtain ⟨h74, h⟩ := h
    refine r_iald x_191_136 hA73 (hok.1 _ _) h74.1 h74.2 ?_
    refine r_iconst x_191_137 ?_
    refine r_isub x_191_138 ?_
    obtain ⟨h75, h⟩ := h
    obtain ⟨n76, hA77, h⟩ := h
    obtain ⟨n78, hA79, h⟩ := h
    obtain ⟨h80, h⟩ := h
    refine r_copy x_191_139 rfl rfl rfl rfl rfl rfl (by decide) hA77 hA79 h65 h69 h75 h80.1 h80.2.1 h80.2.2.1 h80.2.2.2.1 h80.2.2.2.2 ?_
    obtain ⟨M81, hM82⟩ : ∃ Mz, Mz = g_cp M59 b63 b66 ((g_i M b9 (((v1 * 9) + v2) + 1)) * 9) (((g_i M b4 ((v1 * 9) + v2)) * 9) + (g_i M b15 (g_i M b4 ((v1 * 9) + v2)))) ((g_i M59 b70 (g_i M b9 (((v1 * 9) + v2) + 1))) - 1) := ⟨_, rfl⟩
    rw [← hM82]
    refine g_Run.ok fun hok83 => ?_
    replace h := h M81 hM82 hok83
    have hx84 := g_extC hM82
    replace hO3 := hO3.up hx84
    replace hA7 := hA7.up hx84
    replace hA13 := hA13.up hx84
    replace hA18 := hA18.up hx84
    replace hA30 := hA30.up hx84
    replace hA33 := hA33.up hx84
    replace hA35 := hA35.up hx84
    replace hA44 := hA44.up hx84
    replace hA54 := hA54.up hx84
    replace hA57 := hA57.up hx84
    replace hA73 := hA73.up hx84
    replace hA77 := hA77.up hx84
    replace hA79 := hA79.up hx84
    exact h
  · replace h := h.2 hc
    refine r_aload_n x_191_75 rfl ?_
    refine r_aload_n x_191_76 rfl ?_
    obtain ⟨b85, hb86, h⟩ := h
    refine r_getR x_191_77 rfl (ci := 10) (k := 5) (ns := 0) (by decide +kernel) (by decide) rfl (kz := 5) rfl hO3 hb86 ?_
    refine r_iload_n x_191_80 rfl ?_
    obtain ⟨n87, hA88, h⟩ := h
    obtain ⟨h89, h⟩ := h
    refine r_iald x_191_81 hA88 h2 h89.1 h89.2 ?_
    refine r_invV x_191_82 (z := 175) (ns := 0) (by decide +kernel) (as := [g_n (g_i M37 b85 ((v1 * 9) + v2))]) (r := []) rfl rfl rfl hO3 rfl rfl ?_
    refine r_callV h fun M90 hx91 hok92 h => ?_
    replace h := h hx91 hok92
    replace hO3 := hO3.up hx91
    replace hA7 := hA7.up hx91
    replace hA13 := hA13.up hx91
    replace hA18 := hA18.up hx91
    replace hA30 := hA30.up hx91
    replace hA33 := hA33.up hx91
    replace hA35 := hA35.up hx91
    replace hA44 := hA44.up hx91
    replace hA88 := hA88.up hx91
    refine r_goto x_191_85 (t := 142) (by decide +kernel) ?_
    exact h
theorem s_X10_join_142 {d : Nat} {M : g_M} {Q : g_M → Prop} {a0 : Nat} {v1 : Int} (hv1 : g_InR v1) {v2 : Int} (hv2 : g_InR v2) {v3 : Int} (hv3 : g_InR v3) {v4 : Int} (hv4 : g_InR v4) {v5 : Int} (hv5 : g_InR v5) {v6 : Int} (hv6 : g_InR v6) (h : g_ok M → g_O M a0 10 ∧ ∃ b2, g_r M a0 6 = some b2 ∧ ∃ b4, g_r M a0 6 = some b4 ∧ ∃ n6, g_A M b4 1 n6 ∧ ((0 : Int) ≤ v5 ∧ (v5 : Int) < n6) ∧ g_InR (v6 + (g_i M b4 v5)) ∧ ∃ n10, g_A M b2 1 n10 ∧ ((0 : Int) ≤ v4 ∧ (v4 : Int) < n10) ∧ (∀ M13, M13 = g_wi M b2 v4 (v6 + (g_i M b4 v5)) → g_ok M13 → ∃ b17, g_r M13 a0 5 = some b17 ∧ g_InR (v3 + 1) ∧ ∃ b20, g_r M13 a0 5 = some b20 ∧ ∃ b22, g_r M13 a0 6 = some b22 ∧ ∃ n24, g_A M13 b22 1 n24 ∧ ((0 : Int) ≤ v1 ∧ (v1 : Int) < n24) ∧ g_InR ((g_i M13 b22 v1) - 2) ∧ g_InR (((g_i M13 b22 v1) - 2) - v2) ∧ ∃ n29, g_A M13 b17 1 n29 ∧ ∃ n31, g_A M13 b20 1 n31 ∧ ((0 : Int) ≤ v3 + 1 ∧ (0 : Int) ≤ v3 ∧ (0 : Int) ≤ ((g_i M13 b22 v1) - 2) - v2 ∧ ((v3 + 1) : Int) + (((g_i M13 b22 v1) - 2) - v2) ≤ n29 ∧ (v3 : Int) + (((g_i M13 b22 v1) - 2) - v2) ≤ n31) ∧ (∀ M34, M34 = g_cp M13 b17 b20 (v3 + 1) v3 (((g_i M13 b22 v1) - 2) - v2) → g_ok M34 → g_InR (v2 + 1) ∧ g_Call d 185 [.ref a0, g_n v1, g_n (v2 + 1)] M34 (g_qV fun M39 => g_ext M34 M39 → g_ok M39 → g_Call d 177 [.ref a0, g_n v5] M39 (g_qV fun M42 => g_ext M39 M42 → g_ok M42 → Q M42))))) : g_Run d 191 142 [(0, .ref a0), (1, g_n v1), (2, g_n v2), (3, g_n v3), (4, g_n v4), (5, g_n v5), (6, g_n v6)] [] M (g_qV Q) := by
  refine g_Run.ok fun hok => ?_
  replace h := h hok
  refine r_aload_n x_191_142 rfl ?_
  obtain ⟨hO1, h⟩ := h
  obtain ⟨b2, hb3, h⟩ := h
  refine r_getR x_191_143 rfl (ci := 10) (k := 6) (ns := 0) (by decide +kernel) (by decide) rfl (kz := 6) rfl hO1 hb3 ?_
  refine r_iload x_191_146 rfl ?_
  refine r_iload x_191_148 rfl ?_
  refine r_aload_n x_191_150 rfl ?_
  obtain ⟨b4, hb5, h⟩ := h
  refine r_getR x_191_151 rfl (ci := 10) (k := 6) (ns := 0) (by decide +kernel) (by decide) rfl (kz := 6) rfl hO1 hb5 ?_
  refine r_iload x_191_154 rfl ?_
  obtain ⟨n6, hA7, h⟩ := h
  obtain ⟨h8, h⟩ := h
  refine r_iald x_191_156 hA7 hv5 h8.1 h8.2 ?_
  refine r_iadd x_191_157 ?_
  obtain ⟨h9, h⟩ := h
  obtain ⟨n10, hA11, h⟩ := h
  obtain ⟨h12, h⟩ := h
  refine r_iast x_191_158 hA11 hv4 h12.1 h12.2 h9 ?_
  obtain ⟨M13, hM14⟩ : ∃ Mz, Mz = g_wi M b2 v4 (v6 + (g_i M b4 v5)) := ⟨_, rfl⟩
  rw [← hM14]
  refine g_Run.ok fun hok15 => ?_
  replace h := h M13 hM14 hok15
  have hx16 := g_extW hM14
  replace hO1 := hO1.up hx16
  replace hA7 := hA7.up hx16
  replace hA11 := hA11.up hx16
  refine r_aload_n x_191_159 rfl ?_
  obtain ⟨b17, hb18, h⟩ := h
  refine r_getR x_191_160 rfl (ci := 10) (k := 5) (ns := 0) (by decide +kernel) (by decide) rfl (kz := 5) rfl hO1 hb18 ?_
  refine r_iload_n x_191_163 rfl ?_
  refine r_iconst x_191_164 ?_
  refine r_iadd x_191_165 ?_
  obtain ⟨h19, h⟩ := h
  refine r_aload_n x_191_166 rfl ?_
  obtain ⟨b20, hb21, h⟩ := h
  refine r_getR x_191_167 rfl (ci := 10) (k := 5) (ns := 0) (by decide +kernel) (by decide) rfl (kz := 5) rfl hO1 hb21 ?_
  refine r_iload_n x_191_170 rfl ?_
  refine r_aload_n x_191_171 rfl ?_
  obtain ⟨b22, hb23, h⟩ := h
  refine r_getR x_191_172 rfl (ci := 10) (k := 6) (ns := 0) (by decide +kernel) (by decide) rfl (kz := 6) rfl hO1 hb23 ?_
  refine r_iload_n x_191_175 rfl ?_
  obtain ⟨n24, hA25, h⟩ := h
  obtain ⟨h26, h⟩ := h
  refine r_iald x_191_176 hA25 hv1 h26.1 h26.2 ?_
  refine r_iconst x_191_177 ?_
  refine r_isub x_191_178 ?_
  obtain ⟨h27, h⟩ := h
  refine r_iload_n x_191_179 rfl ?_
  refine r_isub x_191_180 ?_
  obtain ⟨h28, h⟩ := h
  obtain ⟨n29, hA30, h⟩ := h
  obtain ⟨n31, hA32, h⟩ := h
  obtain ⟨h33, h⟩ := h
  refine r_copy x_191_181 rfl rfl rfl rfl rfl rfl (by decide) hA30 hA32 h19 hv3 h28 h33.1 h33.2.1 h33.2.2.1 h33.2.2.2.1 h33.2.2.2.2 ?_
  obtain ⟨M34, hM35⟩ : ∃ Mz, Mz = g_cp M13 b17 b20 (v3 + 1) v3 (((g_i M13 b22 v1) - 2) - v2) := ⟨_, rfl⟩
  rw [← hM35]
  refine g_Run.ok fun hok36 => ?_
  replace h := h M34 hM35 hok36
  have hx37 := g_extC hM35
  replace hO1 := hO1.up hx37
  replace hA7 := hA7.up hx37
  replace hA11 := hA11.up hx37
  replace hA25 := hA25.up hx37
  replace hA30 := hA30.up hx37
  replace hA32 := hA32.up hx37
  refine r_aload_n x_191_184 rfl ?_
  refine r_iload_n x_191_185 rfl ?_
  refine r_iload_n x_191_186 rfl ?_
  refine r_iconst x_191_187 ?_
  refine r_iadd x_191_188 ?_
  obtain ⟨h38, h⟩ := h
  refine r_invV x_191_189 (z := 185) (ns := 0) (by decide +kernel) (as := [g_n v1, g_n (v2 + 1)]) (r := []) rfl rfl rfl hO1 rfl rfl ?_
  refine r_callV h fun M39 hx40 hok41 h => ?_
  replace h := h hx40 hok41
  replace hO1 := hO1.up hx40
  replace hA7 := hA7.up hx40
  replace hA11 := hA11.up hx40
  replace hA25 := hA25.up hx40
  replace hA30 := hA30.up hx40
  replace hA32 := hA32.up hx40
  refine r_aload_n x_191_192 rfl ?_
  refine r_iload x_191_193 rfl ?_
  refine r_invV x_191_195 (z := 177) (ns := 0) (by decide +kernel) (as := [g_n v5]) (r := []) rfl rfl rfl hO1 rfl rfl ?_
  refine r_callV h fun M42 hx43 hok44 h => ?_
  replace h := h hx43 hok44
  replace hO1 := hO1.up hx43
  replace hA7 := hA7.up hx43
  replace hA11 := hA11.up hx43
  replace hA25 := hA25.up hx43
  replace hA30 := hA30.up hx43
  replace hA32 := hA32.up hx43
  exact r_retV x_191_198 rfl h
