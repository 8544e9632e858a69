theorem x_129_0 : decode (q_code 129) 0 = .ok (.aload_n 0, 1) := by decide +kernel
theorem x_129_1 : decode (q_code 129) 1 = .ok (.getfield 15, 3) := by decide +kernel
theorem x_129_4 : decode (q_code 129) 4 = .ok (.iload_n 1, 1) := by decide +kernel
theorem x_129_5 : decode (q_code 129) 5 = .ok (.invokestatic 53, 3) := by decide +kernel
theorem x_129_8 : decode (q_code 129) 8 = .ok (.istore_n 2, 1) := by decide +kernel
theorem x_129_9 : decode (q_code 129) 9 = .ok (.aload_n 0, 1) := by decide +kernel
theorem x_129_10 : decode (q_code 129) 10 = .ok (.getfield 15, 3) := by decide +kernel
theorem x_129_13 : decode (q_code 129) 13 = .ok (.iload_n 2, 1) := by decide +kernel
theorem x_129_14 : decode (q_code 129) 14 = .ok (.invokestatic 57, 3) := by decide +kernel
theorem x_129_17 : decode (q_code 129) 17 = .ok (.istore_n 3, 1) := by decide +kernel
theorem x_129_18 : decode (q_code 129) 18 = .ok (.aload_n 0, 1) := by decide +kernel
theorem x_129_19 : decode (q_code 129) 19 = .ok (.getfield 60, 3) := by decide +kernel
theorem x_129_22 : decode (q_code 129) 22 = .ok (.sipush 199, 3) := by decide +kernel
theorem x_129_25 : decode (q_code 129) 25 = .ok (.invokestatic 63, 3) := by decide +kernel
theorem x_129_28 : decode (q_code 129) 28 = .ok (.istore 4, 2) := by decide +kernel
theorem x_129_30 : decode (q_code 129) 30 = .ok (.aload_n 0, 1) := by decide +kernel
theorem x_129_31 : decode (q_code 129) 31 = .ok (.getfield 27, 3) := by decide +kernel
theorem x_129_34 : decode (q_code 129) 34 = .ok (.iload 4, 2) := by decide +kernel
theorem x_129_36 : decode (q_code 129) 36 = .ok (.aload_n 0, 1) := by decide +kernel
theorem x_129_37 : decode (q_code 129) 37 = .ok (.getfield 24, 3) := by decide +kernel
theorem x_129_40 : decode (q_code 129) 40 = .ok (.iastore, 1) := by decide +kernel
theorem x_129_41 : decode (q_code 129) 41 = .ok (.aload_n 0, 1) := by decide +kernel
theorem x_129_42 : decode (q_code 129) 42 = .ok (.getfield 15, 3) := by decide +kernel
theorem x_129_45 : decode (q_code 129) 45 = .ok (.aload_n 0, 1) := by decide +kernel
theorem x_129_46 : decode (q_code 129) 46 = .ok (.getfield 24, 3) := by decide +kernel
theorem x_129_49 : decode (q_code 129) 49 = .ok (.iconst 3, 1) := by decide +kernel
theorem x_129_50 : decode (q_code 129) 50 = .ok (.bastore, 1) := by decide +kernel
theorem x_129_51 : decode (q_code 129) 51 = .ok (.aload_n 0, 1) := by decide +kernel
theorem x_129_52 : decode (q_code 129) 52 = .ok (.getfield 15, 3) := by decide +kernel
theorem x_129_55 : decode (q_code 129) 55 = .ok (.aload_n 0, 1) := by decide +kernel
theorem x_129_56 : decode (q_code 129) 56 = .ok (.getfield 24, 3) := by decide +kernel
theorem x_129_59 : decode (q_code 129) 59 = .ok (.iconst 1, 1) := by decide +kernel
theorem x_129_60 : decode (q_code 129) 60 = .ok (.iadd, 1) := by decide +kernel
theorem x_129_61 : decode (q_code 129) 61 = .ok (.iconst 0, 1) := by decide +kernel
theorem x_129_62 : decode (q_code 129) 62 = .ok (.bastore, 1) := by decide +kernel
theorem x_129_63 : decode (q_code 129) 63 = .ok (.aload_n 0, 1) := by decide +kernel
theorem x_129_64 : decode (q_code 129) 64 = .ok (.getfield 15, 3) := by decide +kernel
theorem x_129_67 : decode (q_code 129) 67 = .ok (.iload_n 2, 1) := by decide +kernel
theorem x_129_68 : decode (q_code 129) 68 = .ok (.aload_n 0, 1) := by decide +kernel
theorem x_129_69 : decode (q_code 129) 69 = .ok (.getfield 15, 3) := by decide +kernel
theorem x_129_72 : decode (q_code 129) 72 = .ok (.aload_n 0, 1) := by decide +kernel
theorem x_129_73 : decode (q_code 129) 73 = .ok (.getfield 24, 3) := by decide +kernel
theorem x_129_76 : decode (q_code 129) 76 = .ok (.iconst 2, 1) := by decide +kernel
theorem x_129_77 : decode (q_code 129) 77 = .ok (.iadd, 1) := by decide +kernel
theorem x_129_78 : decode (q_code 129) 78 = .ok (.iload_n 3, 1) := by decide +kernel
theorem x_129_79 : decode (q_code 129) 79 = .ok (.invokestatic 69, 3) := by decide +kernel
theorem x_129_82 : decode (q_code 129) 82 = .ok (.aload_n 0, 1) := by decide +kernel
theorem x_129_83 : decode (q_code 129) 83 = .ok (.dup, 1) := by decide +kernel
theorem x_129_84 : decode (q_code 129) 84 = .ok (.getfield 24, 3) := by decide +kernel
theorem x_129_87 : decode (q_code 129) 87 = .ok (.iconst 2, 1) := by decide +kernel
theorem x_129_88 : decode (q_code 129) 88 = .ok (.iload_n 3, 1) := by decide +kernel
theorem x_129_89 : decode (q_code 129) 89 = .ok (.iadd, 1) := by decide +kernel
theorem x_129_90 : decode (q_code 129) 90 = .ok (.iadd, 1) := by decide +kernel
theorem x_129_91 : decode (q_code 129) 91 = .ok (.putfield 24, 3) := by decide +kernel
theorem x_129_94 : decode (q_code 129) 94 = .ok (.aload_n 0, 1) := by decide +kernel
theorem x_129_95 : decode (q_code 129) 95 = .ok (.dup, 1) := by decide +kernel
theorem x_129_96 : decode (q_code 129) 96 = .ok (.getfield 75, 3) := by decide +kernel
theorem x_129_99 : decode (q_code 129) 99 = .ok (.iload_n 3, 1) := by decide +kernel
theorem x_129_100 : decode (q_code 129) 100 = .ok (.iadd, 1) := by decide +kernel
theorem x_129_101 : decode (q_code 129) 101 = .ok (.putfield 75, 3) := by decide +kernel
theorem x_129_104 : decode (q_code 129) 104 = .ok (.aload_n 0, 1) := by decide +kernel
theorem x_129_105 : decode (q_code 129) 105 = .ok (.dup, 1) := by decide +kernel
theorem x_129_106 : decode (q_code 129) 106 = .ok (.getfield 78, 3) := by decide +kernel
theorem x_129_109 : decode (q_code 129) 109 = .ok (.iconst 1, 1) := by decide +kernel
theorem x_129_110 : decode (q_code 129) 110 = .ok (.iadd, 1) := by decide +kernel
theorem x_129_111 : decode (q_code 129) 111 = .ok (.putfield 78, 3) := by decide +kernel
theorem x_129_114 : decode (q_code 129) 114 = .ok (.aload_n 0, 1) := by decide +kernel
theorem x_129_115 : decode (q_code 129) 115 = .ok (.getfield 31, 3) := by decide +kernel
theorem x_129_118 : decode (q_code 129) 118 = .ok (.iload 4, 2) := by decide +kernel
theorem x_129_120 : decode (q_code 129) 120 = .ok (.aload_n 0, 1) := by decide +kernel
theorem x_129_121 : decode (q_code 129) 121 = .ok (.getfield 78, 3) := by decide +kernel
theorem x_129_124 : decode (q_code 129) 124 = .ok (.iastore, 1) := by decide +kernel
theorem x_129_125 : decode (q_code 129) 125 = .ok (.aload_n 0, 1) := by decide +kernel
theorem x_129_126 : decode (q_code 129) 126 = .ok (.iload 4, 2) := by decide +kernel
theorem x_129_128 : decode (q_code 129) 128 = .ok (.iconst 1, 1) := by decide +kernel
theorem x_129_129 : decode (q_code 129) 129 = .ok (.iadd, 1) := by decide +kernel
theorem x_129_130 : decode (q_code 129) 130 = .ok (.putfield 60, 3) := by decide +kernel
theorem x_129_133 : decode (q_code 129) 133 = .ok (.iload 4, 2) := by decide +kernel
theorem x_129_135 : decode (q_code 129) 135 = .ok (.ireturn, 1) := by decide +kernel
theorem x_130_0 : decode (q_code 130) 0 = .ok (.iconst 0, 1) := by decide +kernel
theorem x_130_1 : decode (q_code 130) 1 = .ok (.istore_n 2, 1) := by decide +kernel
theorem x_130_2 : decode (q_code 130) 2 = .ok (.aload_n 0, 1) := by decide +kernel
theorem x_130_3 : decode (q_code 130) 3 = .ok (.aload_n 0, 1) := by decide +kernel
theorem x_130_4 : decode (q_code 130) 4 = .ok (.getfield 20, 3) := by decide +kernel
theorem x_130_7 : decode (q_code 130) 7 = .ok (.putfield 24, 3) := by decide +kernel
theorem x_130_10 : decode (q_code 130) 10 = .ok (.aload_n 0, 1) := by decide +kernel
theorem x_130_11 : decode (q_code 130) 11 = .ok (.iconst 0, 1) := by decide +kernel
theorem x_130_12 : decode (q_code 130) 12 = .ok (.putfield 75, 3) := by decide +kernel
theorem x_130_15 : decode (q_code 130) 15 = .ok (.iconst 0, 1) := by decide +kernel
theorem x_130_16 : decode (q_code 130) 16 = .ok (.istore_n 3, 1) := by decide +kernel
theorem x_130_17 : decode (q_code 130) 17 = .ok (.iload_n 3, 1) := by decide +kernel
theorem x_130_18 : decode (q_code 130) 18 = .ok (.aload_n 0, 1) := by decide +kernel
theorem x_130_19 : decode (q_code 130) 19 = .ok (.getfield 60, 3) := by decide +kernel
theorem x_130_22 : decode (q_code 130) 22 = .ok (.if_icmp .ge 118, 3) := by decide +kernel
theorem x_130_25 : decode (q_code 130) 25 = .ok (.iload_n 3, 1) := by decide +kernel
theorem x_130_26 : decode (q_code 130) 26 = .ok (.aload_n 1, 1) := by decide +kernel
theorem x_130_27 : decode (q_code 130) 27 = .ok (.arraylength, 1) := by decide +kernel
theorem x_130_28 : decode (q_code 130) 28 = .ok (.if_icmp .ge 112, 3) := by decide +kernel
theorem x_130_31 : decode (q_code 130) 31 = .ok (.aload_n 1, 1) := by decide +kernel
theorem x_130_32 : decode (q_code 130) 32 = .ok (.iload_n 3, 1) := by decide +kernel
theorem x_130_33 : decode (q_code 130) 33 = .ok (.baload, 1) := by decide +kernel
theorem x_130_34 : decode (q_code 130) 34 = .ok (.ifCond .eq 6, 3) := by decide +kernel
theorem x_130_37 : decode (q_code 130) 37 = .ok (.goto 97, 3) := by decide +kernel
theorem x_130_40 : decode (q_code 130) 40 = .ok (.aload_n 0, 1) := by decide +kernel
theorem x_130_41 : decode (q_code 130) 41 = .ok (.getfield 15, 3) := by decide +kernel
theorem x_130_44 : decode (q_code 130) 44 = .ok (.aload_n 0, 1) := by decide +kernel
theorem x_130_45 : decode (q_code 130) 45 = .ok (.getfield 27, 3) := by decide +kernel
theorem x_130_48 : decode (q_code 130) 48 = .ok (.iload_n 3, 1) := by decide +kernel
theorem x_130_49 : decode (q_code 130) 49 = .ok (.iaload, 1) := by decide +kernel
theorem x_130_50 : decode (q_code 130) 50 = .ok (.invokestatic 81, 3) := by decide +kernel
theorem x_130_53 : decode (q_code 130) 53 = .ok (.aload_n 0, 1) := by decide +kernel
theorem x_130_54 : decode (q_code 130) 54 = .ok (.getfield 27, 3) := by decide +kernel
theorem x_130_57 : decode (q_code 130) 57 = .ok (.iload_n 3, 1) := by decide +kernel
theorem x_130_58 : decode (q_code 130) 58 = .ok (.iaload, 1) := by decide +kernel
theorem x_130_59 : decode (q_code 130) 59 = .ok (.isub, 1) := by decide +kernel
theorem x_130_60 : decode (q_code 130) 60 = .ok (.istore 4, 2) := by decide +kernel
theorem x_130_62 : decode (q_code 130) 62 = .ok (.aload_n 0, 1) := by decide +kernel
theorem x_130_63 : decode (q_code 130) 63 = .ok (.getfield 15, 3) := by decide +kernel
theorem x_130_66 : decode (q_code 130) 66 = .ok (.aload_n 0, 1) := by decide +kernel
theorem x_130_67 : decode (q_code 130) 67 = .ok (.getfield 27, 3) := by decide +kernel
theorem x_130_70 : decode (q_code 130) 70 = .ok (.iload_n 3, 1) := by decide +kernel
theorem x_130_71 : decode (q_code 130) 71 = .ok (.iaload, 1) := by decide +kernel
theorem x_130_72 : decode (q_code 130) 72 = .ok (.aload_n 0, 1) := by decide +kernel
theorem x_130_73 : decode (q_code 130) 73 = .ok (.getfield 15, 3) := by decide +kernel
theorem x_130_76 : decode (q_code 130) 76 = .ok (.aload_n 0, 1) := by decide +kernel
theorem x_130_77 : decode (q_code 130) 77 = .ok (.getfield 24, 3) := by decide +kernel
theorem x_130_80 : decode (q_code 130) 80 = .ok (.iload 4, 2) := by decide +kernel
theorem x_130_82 : decode (q_code 130) 82 = .ok (.invokestatic 69, 3) := by decide +kernel
theorem x_130_85 : decode (q_code 130) 85 = .ok (.aload_n 0, 1) := by decide +kernel
theorem x_130_86 : decode (q_code 130) 86 = .ok (.getfield 27, 3) := by decide +kernel
theorem x_130_89 : decode (q_code 130) 89 = .ok (.iload_n 2, 1) := by decide +kernel
theorem x_130_90 : decode (q_code 130) 90 = .ok (.aload_n 0, 1) := by decide +kernel
theorem x_130_91 : decode (q_code 130) 91 = .ok (.getfield 24, 3) := by decide +kernel
theorem x_130_94 : decode (q_code 130) 94 = .ok (.iastore, 1) := by decide +kernel
theorem x_130_95 : decode (q_code 130) 95 = .ok (.aload_n 0, 1) := by decide +kernel
theorem x_130_96 : decode (q_code 130) 96 = .ok (.getfield 31, 3) := by decide +kernel
theorem x_130_99 : decode (q_code 130) 99 = .ok (.iload_n 2, 1) := by decide +kernel
theorem x_130_100 : decode (q_code 130) 100 = .ok (.aload_n 0, 1) := by decide +kernel
theorem x_130_101 : decode (q_code 130) 101 = .ok (.getfield 31, 3) := by decide +kernel
theorem x_130_104 : decode (q_code 130) 104 = .ok (.iload_n 3, 1) := by decide +kernel
theorem x_130_105 : decode (q_code 130) 105 = .ok (.iaload, 1) := by decide +kernel
theorem x_130_106 : decode (q_code 130) 106 = .ok (.iastore, 1) := by decide +kernel
theorem x_130_107 : decode (q_code 130) 107 = .ok (.aload_n 0, 1) := by decide +kernel
theorem x_130_108 : decode (q_code 130) 108 = .ok (.dup, 1) := by decide +kernel
theorem x_130_109 : decode (q_code 130) 109 = .ok (.getfield 24, 3) := by decide +kernel
theorem x_130_112 : decode (q_code 130) 112 = .ok (.iload 4, 2) := by decide +kernel
theorem x_130_114 : decode (q_code 130) 114 = .ok (.iadd, 1) := by decide +kernel
theorem x_130_115 : decode (q_code 130) 115 = .ok (.putfield 24, 3) := by decide +kernel
theorem x_130_118 : decode (q_code 130) 118 = .ok (.aload_n 0, 1) := by decide +kernel
theorem x_130_119 : decode (q_code 130) 119 = .ok (.dup, 1) := by decide +kernel
theorem x_130_120 : decode (q_code 130) 120 = .ok (.getfield 75, 3) := by decide +kernel
theorem x_130_123 : decode (q_code 130) 123 = .ok (.iload 4, 2) := by decide +kernel
theorem x_130_125 : decode (q_code 130) 125 = .ok (.iconst 2, 1) := by decide +kernel
theorem x_130_126 : decode (q_code 130) 126 = .ok (.isub, 1) := by decide +kernel
theorem x_130_127 : decode (q_code 130) 127 = .ok (.iadd, 1) := by decide +kernel
theorem x_130_128 : decode (q_code 130) 128 = .ok (.putfield 75, 3) := by decide +kernel
theorem x_130_131 : decode (q_code 130) 131 = .ok (.iinc 2 1, 3) := by decide +kernel
theorem x_130_134 : decode (q_code 130) 134 = .ok (.iinc 3 1, 3) := by decide +kernel
theorem x_130_137 : decode (q_code 130) 137 = .ok (.goto (-120), 3) := by decide +kernel
theorem x_130_140 : decode (q_code 130) 140 = .ok (.aload_n 0, 1) := by decide +kernel
theorem x_130_141 : decode (q_code 130) 141 = .ok (.iload_n 2, 1) := by decide +kernel
theorem x_130_142 : decode (q_code 130) 142 = .ok (.putfield 60, 3) := by decide +kernel
theorem x_130_145 : decode (q_code 130) 145 = .ok (.return_, 1) := by decide +kernel
theorem x_131_0 : decode (q_code 131) 0 = .ok (.aload_n 0, 1) := by decide +kernel
theorem x_131_1 : decode (q_code 131) 1 = .ok (.aload_n 0, 1) := by decide +kernel
theorem x_131_2 : decode (q_code 131) 2 = .ok (.getfield 20, 3) := by decide +kernel
theorem x_131_5 : decode (q_code 131) 5 = .ok (.putfield 24, 3) := by decide +kernel
theorem x_131_8 : decode (q_code 131) 8 = .ok (.aload_n 0, 1) := by decide +kernel
theorem x_131_9 : decode (q_code 131) 9 = .ok (.iconst 0, 1) := by decide +kernel
theorem x_131_10 : decode (q_code 131) 10 = .ok (.putfield 75, 3) := by decide +kernel
theorem x_131_13 : decode (q_code 131) 13 = .ok (.iconst 0, 1) := by decide +kernel
theorem x_131_14 : decode (q_code 131) 14 = .ok (.istore_n 2, 1) := by decide +kernel
theorem x_131_15 : decode (q_code 131) 15 = .ok (.iload_n 2, 1) := by decide +kernel
theorem x_131_16 : decode (q_code 131) 16 = .ok (.aload_n 0, 1) := by decide +kernel
theorem x_131_17 : decode (q_code 131) 17 = .ok (.getfield 60, 3) := by decide +kernel
theorem x_131_20 : decode (q_code 131) 20 = .ok (.if_icmp .ge 81, 3) := by decide +kernel
theorem x_131_23 : decode (q_code 131) 23 = .ok (.iload_n 2, 1) := by decide +kernel
theorem x_131_24 : decode (q_code 131) 24 = .ok (.aload_n 1, 1) := by decide +kernel
theorem x_131_25 : decode (q_code 131) 25 = .ok (.arraylength, 1) := by decide +kernel
theorem x_131_26 : decode (q_code 131) 26 = .ok (.if_icmp .ge 75, 3) := by decide +kernel
theorem x_131_29 : decode (q_code 131) 29 = .ok (.aload_n 0, 1) := by decide +kernel
theorem x_131_30 : decode (q_code 131) 30 = .ok (.getfield 15, 3) := by decide +kernel
theorem x_131_33 : decode (q_code 131) 33 = .ok (.aload_n 1, 1) := by decide +kernel
theorem x_131_34 : decode (q_code 131) 34 = .ok (.iload_n 2, 1) := by decide +kernel
theorem x_131_35 : decode (q_code 131) 35 = .ok (.iaload, 1) := by decide +kernel
theorem x_131_36 : decode (q_code 131) 36 = .ok (.invokestatic 81, 3) := by decide +kernel
theorem x_131_39 : decode (q_code 131) 39 = .ok (.aload_n 1, 1) := by decide +kernel
theorem x_131_40 : decode (q_code 131) 40 = .ok (.iload_n 2, 1) := by decide +kernel
theorem x_131_41 : decode (q_code 131) 41 = .ok (.iaload, 1) := by decide +kernel
theorem x_131_42 : decode (q_code 131) 42 = .ok (.isub, 1) := by decide +kernel
theorem x_131_43 : decode (q_code 131) 43 = .ok (.istore_n 3, 1) := by decide +kernel
theorem x_131_44 : decode (q_code 131) 44 = .ok (.aload_n 0, 1) := by decide +kernel
theorem x_131_45 : decode (q_code 131) 45 = .ok (.getfield 15, 3) := by decide +kernel
theorem x_131_48 : decode (q_code 131) 48 = .ok (.aload_n 1, 1) := by decide +kernel
theorem x_131_49 : decode (q_code 131) 49 = .ok (.iload_n 2, 1) := by decide +kernel
theorem x_131_50 : decode (q_code 131) 50 = .ok (.iaload, 1) := by decide +kernel
theorem x_131_51 : decode (q_code 131) 51 = .ok (.aload_n 0, 1) := by decide +kernel
theorem x_131_52 : decode (q_code 131) 52 = .ok (.getfield 15, 3) := by decide +kernel
theorem x_131_55 : decode (q_code 131) 55 = .ok (.aload_n 0, 1) := by decide +kernel
theorem x_131_56 : decode (q_code 131) 56 = .ok (.getfield 24, 3) := by decide +kernel
theorem x_131_59 : decode (q_code 131) 59 = .ok (.iload_n 3, 1) := by decide +kernel
theorem x_131_60 : decode (q_code 131) 60 = .ok (.invokestatic 69, 3) := by decide +kernel
theorem x_131_63 : decode (q_code 131) 63 = .ok (.aload_n 0, 1) := by decide +kernel
theorem x_131_64 : decode (q_code 131) 64 = .ok (.getfield 27, 3) := by decide +kernel
theorem x_131_67 : decode (q_code 131) 67 = .ok (.iload_n 2, 1) := by decide +kernel
theorem x_131_68 : decode (q_code 131) 68 = .ok (.aload_n 0, 1) := by decide +kernel
theorem x_131_69 : decode (q_code 131) 69 = .ok (.getfield 24, 3) := by decide +kernel
theorem x_131_72 : decode (q_code 131) 72 = .ok (.iastore, 1) := by decide +kernel
theorem x_131_73 : decode (q_code 131) 73 = .ok (.aload_n 0, 1) := by decide +kernel
theorem x_131_74 : decode (q_code 131) 74 = .ok (.dup, 1) := by decide +kernel
theorem x_131_75 : decode (q_code 131) 75 = .ok (.getfield 24, 3) := by decide +kernel
theorem x_131_78 : decode (q_code 131) 78 = .ok (.iload_n 3, 1) := by decide +kernel
theorem x_131_79 : decode (q_code 131) 79 = .ok (.iadd, 1) := by decide +kernel
theorem x_131_80 : decode (q_code 131) 80 = .ok (.putfield 24, 3) := by decide +kernel
theorem x_131_83 : decode (q_code 131) 83 = .ok (.aload_n 0, 1) := by decide +kernel
theorem x_131_84 : decode (q_code 131) 84 = .ok (.dup, 1) := by decide +kernel
theorem x_131_85 : decode (q_code 131) 85 = .ok (.getfield 75, 3) := by decide +kernel
theorem x_131_88 : decode (q_code 131) 88 = .ok (.iload_n 3, 1) := by decide +kernel
theorem x_131_89 : decode (q_code 131) 89 = .ok (.iconst 2, 1) := by decide +kernel
theorem x_131_90 : decode (q_code 131) 90 = .ok (.isub, 1) := by decide +kernel
theorem x_131_91 : decode (q_code 131) 91 = .ok (.iadd, 1) := by decide +kernel
theorem x_131_92 : decode (q_code 131) 92 = .ok (.putfield 75, 3) := by decide +kernel
theorem x_131_95 : decode (q_code 131) 95 = .ok (.iinc 2 1, 3) := by decide +kernel
theorem x_131_98 : decode (q_code 131) 98 = .ok (.goto (-83), 3) := by decide +kernel
theorem x_131_101 : decode (q_code 131) 101 = .ok (.return_, 1) := by decide +kernel
theorem x_132_0 : decode (q_code 132) 0 = .ok (.iconst 0, 1) := by decide +kernel
theorem x_132_1 : decode (q_code 132) 1 = .ok (.istore_n 1, 1) := by decide +kernel
theorem x_132_2 : decode (q_code 132) 2 = .ok (.iconst 0, 1) := by decide +kernel
theorem x_132_3 : decode (q_code 132) 3 = .ok (.istore_n 2, 1) := by decide +kernel
theorem x_132_4 : decode (q_code 132) 4 = .ok (.iload_n 2, 1) := by decide +kernel
theorem x_132_5 : decode (q_code 132) 5 = .ok (.iconst 4, 1) := by decide +kernel
theorem x_132_6 : decode (q_code 132) 6 = .ok (.if_icmp .ge 29, 3) := by decide +kernel
theorem x_132_9 : decode (q_code 132) 9 = .ok (.iload_n 1, 1) := by decide +kernel
theorem x_132_10 : decode (q_code 132) 10 = .ok (.aload_n 0, 1) := by decide +kernel
theorem x_132_11 : decode (q_code 132) 11 = .ok (.getfield 46, 3) := by decide +kernel
theorem x_132_14 : decode (q_code 132) 14 = .ok (.iload_n 2, 1) := by decide +kernel
theorem x_132_15 : decode (q_code 132) 15 = .ok (.aaload, 1) := by decide +kernel
theorem x_132_16 : decode (q_code 132) 16 = .ok (.getfield 84, 3) := by decide +kernel
theorem x_132_19 : decode (q_code 132) 19 = .ok (.ifCond .eq 7, 3) := by decide +kernel
theorem x_132_22 : decode (q_code 132) 22 = .ok (.iconst 1, 1) := by decide +kernel
theorem x_132_23 : decode (q_code 132) 23 = .ok (.goto 4, 3) := by decide +kernel
theorem x_132_26 : decode (q_code 132) 26 = .ok (.iconst 0, 1) := by decide +kernel
theorem x_132_27 : decode (q_code 132) 27 = .ok (.iadd, 1) := by decide +kernel
theorem x_132_28 : decode (q_code 132) 28 = .ok (.istore_n 1, 1) := by decide +kernel
theorem x_132_29 : decode (q_code 132) 29 = .ok (.iinc 2 1, 3) := by decide +kernel
theorem x_132_32 : decode (q_code 132) 32 = .ok (.goto (-28), 3) := by decide +kernel
theorem x_132_35 : decode (q_code 132) 35 = .ok (.iload_n 1, 1) := by decide +kernel
theorem x_132_36 : decode (q_code 132) 36 = .ok (.ireturn, 1) := by decide +kernel
theorem x_133_0 : decode (q_code 133) 0 = .ok (.iconst 0, 1) := by decide +kernel
theorem x_133_1 : decode (q_code 133) 1 = .ok (.istore_n 1, 1) := by decide +kernel
theorem x_133_2 : decode (q_code 133) 2 = .ok (.iload_n 1, 1) := by decide +kernel
theorem x_133_3 : decode (q_code 133) 3 = .ok (.iconst 4, 1) := by decide +kernel
theorem x_133_4 : decode (q_code 133) 4 = .ok (.if_icmp .ge 23, 3) := by decide +kernel
theorem x_133_7 : decode (q_code 133) 7 = .ok (.aload_n 0, 1) := by decide +kernel
theorem x_133_8 : decode (q_code 133) 8 = .ok (.getfield 46, 3) := by decide +kernel
theorem x_133_11 : decode (q_code 133) 11 = .ok (.iload_n 1, 1) := by decide +kernel
theorem x_133_12 : decode (q_code 133) 12 = .ok (.aaload, 1) := by decide +kernel
theorem x_133_13 : decode (q_code 133) 13 = .ok (.getfield 84, 3) := by decide +kernel
theorem x_133_16 : decode (q_code 133) 16 = .ok (.ifCond .ne 5, 3) := by decide +kernel
theorem x_133_19 : decode (q_code 133) 19 = .ok (.iload_n 1, 1) := by decide +kernel
theorem x_133_20 : decode (q_code 133) 20 = .ok (.ireturn, 1) := by decide +kernel
theorem x_133_21 : decode (q_code 133) 21 = .ok (.iinc 1 1, 3) := by decide +kernel
theorem x_133_24 : decode (q_code 133) 24 = .ok (.goto (-22), 3) := by decide +kernel
theorem x_133_27 : decode (q_code 133) 27 = .ok (.iconst (-1), 1) := by decide +kernel
theorem x_133_28 : decode (q_code 133) 28 = .ok (.ireturn, 1) := by decide +kernel
theorem m_X8_add {d : Nat} {M : g_M} {Q : Int → g_M → Prop} {a0 : Nat} {v1 : Int} (hv1 : g_InR v1) (h : g_ok M → g_O M a0 8 ∧ ∃ b2, g_r M a0 0 = some b2 ∧ g_Call d 110 [.ref b2, g_n v1] M (g_qI fun r7 M4 => g_ext M M4 → g_ok M4 → g_InR r7 → ∃ b9, g_r M4 a0 0 = some b9 ∧ g_Call d 109 [.ref b9, g_n r7] M4 (g_qI fun r14 M11 => g_ext M4 M11 → g_ok M11 → g_InR r14 → ∃ b16, g_r M11 a0 2 = some b16 ∧ ∃ n18, g_A M11 b16 1 n18 ∧ ((0 : Int) ≤ min (g_i M11 a0 6) 199 ∧ (min (g_i M11 a0 6) 199 : Int) < n18) ∧ (∀ M21, M21 = g_wi M11 b16 (min (g_i M11 a0 6) 199) (g_i M11 a0 9) → g_ok M21 → ∃ b25, g_r M21 a0 0 = some b25 ∧ ∃ n27, g_A M21 b25 0 n27 ∧ ((0 : Int) ≤ g_i M21 a0 9 ∧ (g_i M21 a0 9 : Int) < n27) ∧ (∀ M30, M30 = g_wi M21 b25 (g_i M21 a0 9) (g_w8 3) → g_ok M30 → ∃ b34, g_r M30 a0 0 = some b34 ∧ g_InR ((g_i M30 a0 9) + 1) ∧ ∃ n37, g_A M30 b34 0 n37 ∧ ((0 : Int) ≤ (g_i M30 a0 9) + 1 ∧ ((g_i M30 a0 9) + 1 : Int) < n37) ∧ (∀ M40, M40 = g_wi M30 b34 ((g_i M30 a0 9) + 1) (g_w8 0) → g_ok M40 → ∃ b44, g_r M40 a0 0 = some b44 ∧ ∃ b46, g_r M40 a0 0 = some b46 ∧ g_InR ((g_i M40 a0 9) + 2) ∧ ∃ n49, g_A M40 b44 0 n49 ∧ ∃ n51, g_A M40 b46 0 n51 ∧ ((0 : Int) ≤ r7 ∧ (0 : Int) ≤ (g_i M40 a0 9) + 2 ∧ (0 : Int) ≤ r14 ∧ (r7 : Int) + r14 ≤ n49 ∧ (((g_i M40 a0 9) + 2) : Int) + r14 ≤ n51) ∧ (∀ M54, M54 = g_cp M40 b44 b46 r7 ((g_i M40 a0 9) + 2) r14 → g_ok M54 → g_InR (2 + r14) ∧ g_InR ((g_i M54 a0 9) + (2 + r14)) ∧ (∀ M60, M60 = g_wi M54 a0 9 ((g_i M54 a0 9) + (2 + r14)) → g_ok M60 → g_InR ((g_i M60 a0 7) + r14) ∧ (∀ M65, M65 = g_wi M60 a0 7 ((g_i M60 a0 7) + r14) → g_ok M65 → g_InR ((g_i M65 a0 8) + 1) ∧ (∀ M70, M70 = g_wi M65 a0 8 ((g_i M65 a0 8) + 1) → g_ok M70 → ∃ b74, g_r M70 a0 3 = some b74 ∧ ∃ n76, g_A M70 b74 1 n76 ∧ ((0 : Int) ≤ min (g_i M11 a0 6) 199 ∧ (min (g_i M11 a0 6) 199 : Int) < n76) ∧ (∀ M79, M79 = g_wi M70 b74 (min (g_i M11 a0 6) 199) (g_i M70 a0 8) → g_ok M79 → g_InR ((min (g_i M11 a0 6) 199) + 1) ∧ (∀ M84, M84 = g_wi M79 a0 6 ((min (g_i M11 a0 6) 199) + 1) → g_ok M84 → Q (min (g_i M11 a0 6) 199) M84)))))))))))) : g_Call (d + 1) 129 [.ref a0, g_n v1] M (g_qI Q) := by
  refine g_Call.ok fun hok0 => ?_
  replace h := h hok0
  refine r_body rfl (lv := [(0, .ref a0), (1, g_n v1)]) rfl ?_
  refine g_Run.ok fun hok => ?_
  refine r_aload_n x_129_0 rfl ?_
  obtain ⟨hO1, h⟩ := h
  obtain ⟨b2, hb3, h⟩ := h
  refine r_getR x_129_1 rfl (ci := 8) (k := 0) (ns := 0) (by decide +kernel) (by decide) rfl (kz := 0) rfl hO1 hb3 ?_
  refine r_iload_n x_129_4 rfl ?_
  refine r_invS x_129_5 (z := 110) (ns := 1) (by decide +kernel) (as := [.ref b2, g_n v1]) (r := []) rfl rfl rfl ?_
  refine r_callI h fun r7 M4 hx5 hok6 hr8 h => ?_
  replace h := h hx5 hok6 hr8
  replace hO1 := hO1.up hx5
  refine r_istore_n x_129_8 (by decide +kernel) rfl (lv1 := [(0, .ref a0), (1, g_n v1), (2, g_n r7)]) rfl ?_
  refine r_aload_n x_129_9 rfl ?_
  obtain ⟨b9, hb10, h⟩ := h
  refine r_getR x_129_10 rfl (ci := 8) (k := 0) (ns := 0) (by decide +kernel) (by decide) rfl (kz := 0) rfl hO1 hb10 ?_
  refine r_iload_n x_129_13 rfl ?_
  refine r_invS x_129_14 (z := 109) (ns := 1) (by decide +kernel) (as := [.ref b9, g_n r7]) (r := []) rfl rfl rfl ?_
  refine r_callI h fun r14 M11 hx12 hok13 hr15 h => ?_
  replace h := h hx12 hok13 hr15
  replace hO1 := hO1.up hx12
  refine r_istore_n x_129_17 (by decide +kernel) rfl (lv1 := [(0, .ref a0), (1, g_n v1), (2, g_n r7), (3, g_n r14)]) rfl ?_
  refine r_aload_n x_129_18 rfl ?_
  refine r_getI x_129_19 rfl (ci := 8) (k := 6) (ns := 0) (by decide +kernel) (by decide) rfl (kz := 6) rfl hO1 ?_
  refine r_sipush x_129_22 (x := 199) rfl ?_
  refine r_min x_129_25 rfl rfl rfl rfl (hok13.1 _ _) (g_Rk rfl) ?_
  refine r_istore x_129_28 (by decide +kernel) rfl (lv1 := [(0, .ref a0), (1, g_n v1), (2, g_n r7), (3, g_n r14), (4, g_n (min (g_i M11 a0 6) 199))]) rfl ?_
  refine r_aload_n x_129_30 rfl ?_
  obtain ⟨b16, hb17, h⟩ := h
  refine r_getR x_129_31 rfl (ci := 8) (k := 2) (ns := 0) (by decide +kernel) (by decide) rfl (kz := 2) rfl hO1 hb17 ?_
  refine r_iload x_129_34 rfl ?_
  refine r_aload_n x_129_36 rfl ?_
  refine r_getI x_129_37 rfl (ci := 8) (k := 9) (ns := 0) (by decide +kernel) (by decide) rfl (kz := 9) rfl hO1 ?_
  obtain ⟨n18, hA19, h⟩ := h
  obtain ⟨h20, h⟩ := h
  refine r_iast x_129_40 hA19 (g_min_R (hok13.1 _ _) (g_Rk rfl)) h20.1 h20.2 (hok13.1 _ _) ?_
  obtain ⟨M21, hM22⟩ : ∃ Mz, Mz = g_wi M11 b16 (min (g_i M11 a0 6) 199) (g_i M11 a0 9) := ⟨_, rfl⟩
  rw [← hM22]
  refine g_Run.ok fun hok23 => ?_
  replace h := h M21 hM22 hok23
  have hx24 := g_extW hM22
  replace hO1 := hO1.up hx24
  replace hA19 := hA19.up hx24
  refine r_aload_n x_129_41 rfl ?_
  obtain ⟨b25, hb26, h⟩ := h
  refine r_getR x_129_42 rfl (ci := 8) (k := 0) (ns := 0) (by decide +kernel) (by decide) rfl (kz := 0) rfl hO1 hb26 ?_
  refine r_aload_n x_129_45 rfl ?_
  refine r_getI x_129_46 rfl (ci := 8) (k := 9) (ns := 0) (by decide +kernel) (by decide) rfl (kz := 9) rfl hO1 ?_
  refine r_iconst x_129_49 ?_
  obtain ⟨n27, hA28, h⟩ := h
  obtain ⟨h29, h⟩ := h
  refine r_bast0 x_129_50 hA28 (hok23.1 _ _) h29.1 h29.2 ?_
  obtain ⟨M30, hM31⟩ : ∃ Mz, Mz = g_wi M21 b25 (g_i M21 a0 9) (g_w8 3) := ⟨_, rfl⟩
  rw [← hM31]
  refine g_Run.ok fun hok32 => ?_
  replace h := h M30 hM31 hok32
  have hx33 := g_extW hM31
  replace hO1 := hO1.up hx33
  replace hA19 := hA19.up hx33
  replace hA28 := hA28.up hx33
  refine r_aload_n x_129_51 rfl ?_
  obtain ⟨b34, hb35, h⟩ := h
  refine r_getR x_129_52 rfl (ci := 8) (k := 0) (ns := 0) (by decide +kernel) (by decide) rfl (kz := 0) rfl hO1 hb35 ?_
  refine r_aload_n x_129_55 rfl ?_
  refine r_getI x_129_56 rfl (ci := 8) (k := 9) (ns := 0) (by decide +kernel) (by decide) rfl (kz := 9) rfl hO1 ?_
  refine r_iconst x_129_59 ?_
  refine r_iadd x_129_60 ?_
  obtain ⟨h36, h⟩ := h
  refine r_iconst x_129_61 ?_
  obtain ⟨n37, hA38, h⟩ := h
  obtain ⟨h39, h⟩ := h
  refine r_bast0 x_129_62 hA38 h36 h39.1 h39.2 ?_
  obtain ⟨M40, hM41⟩ : ∃ Mz, Mz = g_wi M30 b34 ((g_i M30 a0 9) + 1) (g_w8 0) := ⟨_, rfl⟩
  rw [← hM41]
  refine g_Run.ok fun hok42 => ?_
  replace h := h M40 hM41 hok42
  have hx43 := g_extW hM41
  replace hO1 := hO1.up hx43
  replace hA19 := hA19.up hx43
  replace hA28 := hA28.up hx43
  replace hA38 := hA38.up hx43
  refine r_aload_n x_129_63 rfl ?_
  obtain ⟨b44, hb45, h⟩ := h
  refine r_getR x_129_64 rfl (ci := 8) (k := 0) (ns := 0) (by decide +kernel) (by decide) rfl (kz := 0) rfl hO1 hb45 ?_
  refine r_iload_n x_129_67 rfl ?_
  refine r_aload_n x_129_68 rfl ?_
  obtain ⟨b46, hb47, h⟩ := h
  refine r_getR x_129_69 rfl (ci := 8) (k := 0) (ns := 0) (by decide +kernel) (by decide) rfl (kz := 0) rfl hO1 hb47 ?_
  refine r_aload_n x_129_72 rfl ?_
  refine r_getI x_129_73 rfl (ci := 8) (k := 9) (ns := 0) (by decide +kernel) (by decide) rfl (kz := 9) rfl hO1 ?_
  refine r_iconst x_129_76 ?_
  refine r_iadd x_129_77 ?_
  obtain ⟨h48, h⟩ := h
  refine r_iload_n x_129_78 rfl ?_
  obtain ⟨n49, hA50, h⟩ := h
  obtain ⟨n51, hA52, h⟩ := h
  obtain ⟨h53, h⟩ := h
  refine r_copy x_129_79 rfl rfl rfl rfl rfl rfl (by decide) hA50 hA52 hr8 h48 hr15 h53.1 h53.2.1 h53.2.2.1 h53.2.2.2.1 h53.2.2.2.2 ?_
  obtain ⟨M54, hM55⟩ : ∃ Mz, Mz = g_cp M40 b44 b46 r7 ((g_i M40 a0 9) + 2) r14 := ⟨_, rfl⟩
  rw [← hM55]
  refine g_Run.ok fun hok56 => ?_
  replace h := h M54 hM55 hok56
  have hx57 := g_extC hM55
  replace hO1 := hO1.up hx57
  replace hA19 := hA19.up hx57
  replace hA28 := hA28.up hx57
  replace hA38 := hA38.up hx57
  replace hA50 := hA50.up hx57
  replace hA52 := hA52.up hx57
  refine r_aload_n x_129_82 rfl ?_
  refine r_dup x_129_83 rfl ?_
  refine r_getI x_129_84 rfl (ci := 8) (k := 9) (ns := 0) (by decide +kernel) (by decide) rfl (kz := 9) rfl hO1 ?_
  refine r_iconst x_129_87 ?_
  refine r_iload_n x_129_88 rfl ?_
  refine r_iadd x_129_89 ?_
  obtain ⟨h58, h⟩ := h
  refine r_iadd x_129_90 ?_
  obtain ⟨h59, h⟩ := h
  refine r_putI x_129_91 (ci := 8) (k := 9) (ns := 0) (by decide +kernel) (by decide) (g_f0 (by decide +kernel)) rfl h59 trivial (kz := 9) rfl hO1 ?_
  obtain ⟨M60, hM61⟩ : ∃ Mz, Mz = g_wi M54 a0 9 ((g_i M54 a0 9) + (2 + r14)) := ⟨_, rfl⟩
  rw [← hM61]
  refine g_Run.ok fun hok62 => ?_
  replace h := h M60 hM61 hok62
  have hx63 := g_extW hM61
  replace hO1 := hO1.up hx63
  replace hA19 := hA19.up hx63
  replace hA28 := hA28.up hx63
  replace hA38 := hA38.up hx63
  replace hA50 := hA50.up hx63
  replace hA52 := hA52.up hx63
  refine r_aload_n x_129_94 rfl ?_
  refine r_dup x_129_95 rfl ?_
  refine r_getI x_129_96 rfl (ci := 8) (k := 7) (ns := 0) (by decide +kernel) (by decide) rfl (kz := 7) rfl hO1 ?_
  refine r_iload_n x_129_99 rfl ?_
  refine r_iadd x_129_100 ?_
  obtain ⟨h64, h⟩ := h
  refine r_putI x_129_101 (ci := 8) (k := 7) (ns := 0) (by decide +kernel) (by decide) (g_f0 (by decide +kernel)) rfl h64 trivial (kz := 7) rfl hO1 ?_
  obtain ⟨M65, hM66⟩ : ∃ Mz, Mz = g_wi M60 a0 7 ((g_i M60 a0 7) + r14) := ⟨_, rfl⟩
  rw [← hM66]
  refine g_Run.ok fun hok67 => ?_
  replace h := h M65 hM66 hok67
  have hx68 := g_extW hM66
  replace hO1 := hO1.up hx68
  replace hA19 := hA19.up hx68
  replace hA28 := hA28.up hx68
  replace hA38 := hA38.up hx68
  replace hA50 := hA50.up hx68
  replace hA52 := hA52.up hx68
  refine r_aload_n x_129_104 rfl ?_
  refine r_dup x_129_105 rfl ?_
  refine r_getI x_129_106 rfl (ci := 8) (k := 8) (ns := 0) (by decide +kernel) (by decide) rfl (kz := 8) rfl hO1 ?_
  refine r_iconst x_129_109 ?_
  refine r_iadd x_129_110 ?_
  obtain ⟨h69, h⟩ := h
  refine r_putI x_129_111 (ci := 8) (k := 8) (ns := 0) (by decide +kernel) (by decide) (g_f0 (by decide +kernel)) rfl h69 trivial (kz := 8) rfl hO1 ?_
  obtain ⟨M70, hM71⟩ : ∃ Mz, Mz = g_wi M65 a0 8 ((g_i M65 a0 8) + 1) := ⟨_, rfl⟩
  rw [← hM71]
  refine g_Run.ok fun hok72 => ?_
  replace h := h M70 hM71 hok72
  have hx73 := g_extW hM71
  replace hO1 := hO1.up hx73
  replace hA19 := hA19.up hx73
  replace hA28 := hA28.up hx73
  replace hA38 := hA38.up hx73
  replace hA50 := hA50.up hx73
  replace hA52 := hA52.up hx73
  refine r_aload_n x_129_114 rfl ?_
  obtain ⟨b74, hb75, h⟩ := h
  refine r_getR x_129_115 rfl (ci := 8) (k := 3) (ns := 0) (by decide +kernel) (by decide) rfl (kz := 3) rfl hO1 hb75 ?_
  refine r_iload x_129_118 rfl ?_
  refine r_aload_n x_129_120 rfl ?_
  refine r_getI x_129_121 rfl (ci := 8) (k := 8) (ns := 0) (by decide +kernel) (by decide) rfl (kz := 8) rfl hO1 ?_
  obtain ⟨n76, hA77, h⟩ := h
  obtain ⟨h78, h⟩ := h
  refine r_iast x_129_124 hA77 (g_min_R (hok13.1 _ _) (g_Rk rfl)) h78.1 h78.2 (hok72.1 _ _) ?_
  obtain ⟨M79, hM80⟩ : ∃ Mz, Mz = g_wi M70 b74 (min (g_i M11 a0 6) 199) (g_i M70 a0 8) := ⟨_, rfl⟩
  rw [← hM80]
  refine g_Run.ok fun hok81 => ?_
  replace h := h M79 hM80 hok81
  have hx82 := g_extW hM80
  replace hO1 := hO1.up hx82
  replace hA19 := hA19.up hx82
  replace hA28 := hA28.up hx82
  replace hA38 := hA38.up hx82
  replace hA50 := hA50.up hx82
  replace hA52 := hA52.up hx82
  replace hA77 := hA77.up hx82
  refine r_aload_n x_129_125 rfl ?_
  refine r_iload x_129_126 rfl ?_
  refine r_iconst x_129_128 ?_
  refine r_iadd x_129_129 ?_
  obtain ⟨h83, h⟩ := h
  refine r_putI x_129_130 (ci := 8) (k := 6) (ns := 0) (by decide +kernel) (by decide) (g_f0 (by decide +kernel)) rfl h83 trivial (kz := 6) rfl hO1 ?_
  obtain ⟨M84, hM85⟩ : ∃ Mz, Mz = g_wi M79 a0 6 ((min (g_i M11 a0 6) 199) + 1) := ⟨_, rfl⟩
  rw [← hM85]
  refine g_Run.ok fun hok86 => ?_
  replace h := h M84 hM85 hok86
  have hx87 := g_extW hM85
  replace hO1 := hO1.up hx87
  replace hA19 := hA19.up hx87
  replace hA28 := hA28.up hx87
  replace hA38 := hA38.up hx87
  replace hA50 := hA50.up hx87
  replace hA52 := hA52.up hx87
  replace hA77 := hA77.up hx87
  refine r_iload x_129_133 rfl ?_
  exact r_retI x_129_135 rfl (g_min_R (hok13.1 _ _) (g_Rk rfl)) h
theorem m_X8_remove {d : Nat} {M : g_M} {Q : g_M → Prop} {a0 : Nat} {a1 : Nat} (h : g_ok M → g_O M a0 8 ∧ (∀ M2, M2 = g_wi M a0 9 (g_i M a0 1) → g_ok M2 → (∀ M6, M6 = g_wi M2 a0 7 0 → g_ok M6 → g_Run d 130 17 [(0, .ref a0), (1, .ref a1), (2, g_n 0), (3, g_n 0)] [] M6 (g_qV Q)))) : g_Call (d + 1) 130 [.ref a0, .ref a1] M (g_qV Q) := by
  refine g_Call.ok fun hok0 => ?_
  replace h := h hok0
  refine r_body rfl (lv := [(0, .ref a0), (1, .ref a1)]) rfl ?_
  refine g_Run.ok fun hok => ?_
  refine r_iconst x_130_0 ?_
  refine r_istore_n x_130_1 (by decide +kernel) rfl (lv1 := [(0, .ref a0), (1, .ref a1), (2, g_n 0)]) rfl ?_
  refine r_aload_n x_130_2 rfl ?_
  refine r_aload_n x_130_3 rfl ?_
  obtain ⟨hO1, h⟩ := h
  refine r_getI x_130_4 rfl (ci := 8) (k := 1) (ns := 0) (by decide +kernel) (by decide) rfl (kz := 1) rfl hO1 ?_
  refine r_putI x_130_7 (ci := 8) (k := 9) (ns := 0) (by decide +kernel) (by decide) (g_f0 (by decide +kernel)) rfl (hok.1 _ _) trivial (kz := 9) rfl hO1 ?_
  obtain ⟨M2, hM3⟩ : ∃ Mz, Mz = g_wi M a0 9 (g_i M a0 1) := ⟨_, rfl⟩
  rw [← hM3]
  refine g_Run.ok fun hok4 => ?_
  replace h := h M2 hM3 hok4
  have hx5 := g_extW hM3
  replace hO1 := hO1.up hx5
  refine r_aload_n x_130_10 rfl ?_
  refine r_iconst x_130_11 ?_
  refine r_putI x_130_12 (ci := 8) (k := 7) (ns := 0) (by decide +kernel) (by decide) (g_f0 (by decide +kernel)) rfl (g_Rk rfl) trivial (kz := 7) rfl hO1 ?_
  obtain ⟨M6, hM7⟩ : ∃ Mz, Mz = g_wi M2 a0 7 0 := ⟨_, rfl⟩
  rw [← hM7]
  refine g_Run.ok fun hok8 => ?_
  replace h := h M6 hM7 hok8
  have hx9 := g_extW hM7
  replace hO1 := hO1.up hx9
  refine r_iconst x_130_15 ?_
  refine r_istore_n x_130_16 (by decide +kernel) rfl (lv1 := [(0, .ref a0), (1, .ref a1), (2, g_n 0), (3, g_n 0)]) rfl ?_
  exact h
theorem s_X8_remove_17 {d : Nat} {M : g_M} {Q : g_M → Prop} {a0 : Nat} {a1 : Nat} {v2 : Int} (hv2 : g_InR v2) {v3 : Int} (hv3 : g_InR v3) (h : g_ok M → g_O M a0 8 ∧ ((v3 < g_i M a0 6 → ∃ n6, g_A M a1 2 n6 ∧ g_InR n6 ∧ ((v3 < n6 → ((0 : Int) ≤ v3 ∧ (v3 : Int) < n6) ∧ ((g_i M a1 v3 = 0 → ∃ b14, g_r M a0 0 = some b14 ∧ ∃ b16, g_r M a0 2 = some b16 ∧ ∃ n18, g_A M b16 1 n18 ∧ ((0 : Int) ≤ v3 ∧ (v3 : Int) < n18) ∧ g_Call d 111 [.ref b14, g_n (g_i M b16 v3)] M (g_qI fun r24 M21 => g_ext M M21 → g_ok M21 → g_InR r24 → ∃ b26, g_r M21 a0 2 = some b26 ∧ ∃ n28, g_A M21 b26 1 n28 ∧ ((0 : Int) ≤ v3 ∧ (v3 : Int) < n28) ∧ g_InR (r24 - (g_i M21 b26 v3)) ∧ ∃ b32, g_r M21 a0 0 = some b32 ∧ ∃ b34, g_r M21 a0 2 = some b34 ∧ ∃ n36, g_A M21 b34 1 n36 ∧ ((0 : Int) ≤ v3 ∧ (v3 : Int) < n36) ∧ ∃ b39, g_r M21 a0 0 = some b39 ∧ ∃ n41, g_A M21 b32 0 n41 ∧ ∃ n43, g_A M21 b39 0 n43 ∧ ((0 : Int) ≤ g_i M21 b34 v3 ∧ (0 : Int) ≤ g_i M21 a0 9 ∧ (0 : Int) ≤ r24 - (g_i M21 b26 v3) ∧ ((g_i M21 b34 v3) : Int) + (r24 - (g_i M21 b26 v3)) ≤ n41 ∧ ((g_i M21 a0 9) : Int) + (r24 - (g_i M21 b26 v3)) ≤ n43) ∧ (∀ M46, M46 = g_cp M21 b32 b39 (g_i M21 b34 v3) (g_i M21 a0 9) (r24 - (g_i M21 b26 v3)) → g_ok M46 → ∃ b50, g_r M46 a0 2 = some b50 ∧ ∃ n52, g_A M46 b50 1 n52 ∧ ((0 : Int) ≤ v2 ∧ (v2 : Int) < n52) ∧ (∀ M55, M55 = g_wi M46 b50 v2 (g_i M46 a0 9) → g_ok M55 → ∃ b59, g_r M55 a0 3 = some b59 ∧ ∃ b61, g_r M55 a0 3 = some b61 ∧ ∃ n63, g_A M55 b61 1 n63 ∧ ((0 : Int) ≤ v3 ∧ (v3 : Int) < n63) ∧ ∃ n66, g_A M55 b59 1 n66 ∧ ((0 : Int) ≤ v2 ∧ (v2 : Int) < n66) ∧ (∀ M69, M69 = g_wi M55 b59 v2 (g_i M55 b61 v3) → g_ok M69 → g_InR ((g_i M69 a0 9) + (r24 - (g_i M21 b26 v3))) ∧ (∀ M74, M74 = g_wi M69 a0 9 ((g_i M69 a0 9) + (r24 - (g_i M21 b26 v3))) → g_ok M74 → g_InR ((r24 - (g_i M21 b26 v3)) - 2) ∧ g_InR ((g_i M74 a0 7) + ((r24 - (g_i M21 b26 v3)) - 2)) ∧ (∀ M80, M80 = g_wi M74 a0 7 ((g_i M74 a0 7) + ((r24 - (g_i M21 b26 v3)) - 2)) → g_ok M80 → g_InR (v2 + 1) ∧ g_InR (v3 + 1) ∧ g_Run d 130 17 [(0, .ref a0), (1, .ref a1), (2, g_n (v2 + 1)), (3, g_n (v3 + 1))] [] M80 (g_qV Q)))))))) ∧ (¬ g_i M a1 v3 = 0 → g_InR (v3 + 1) ∧ g_Run d 130 17 [(0, .ref a0), (1, .ref a1), (2, g_n v2), (3, g_n (v3 + 1))] [] M (g_qV Q)))) ∧ (¬ v3 < n6 → (∀ M9, M9 = g_wi M a0 6 v2 → g_ok M9 → Q M9)))) ∧ (¬ v3 < g_i M a0 6 → (∀ M2, M2 = g_wi M a0 6 v2 → g_ok M2 → Q M2)))) : g_Run d 130 17 [(0, .ref a0), (1, .ref a1), (2, g_n v2), (3, g_n v3)] [] M (g_qV Q) := by
  refine g_Run.ok fun hok => ?_
  replace h := h hok
  refine r_iload_n x_130_17 rfl ?_
  refine r_aload_n x_130_18 rfl ?_
  obtain ⟨hO1, h⟩ := h
  refine r_getI x_130_19 rfl (ci := 8) (k := 6) (ns := 0) (by decide +kernel) (by decide) rfl (kz := 6) rfl hO1 ?_
  refine r_ic_ge x_130_22 (t := 140) (by decide +kernel) hv3 (hok.1 _ _) (fun hc => ?_) (fun hc => ?_)
  · replace h := h.2 hc
    refine r_aload_n x_130_140 rfl ?_
    refine r_iload_n x_130_141 rfl ?_
    refine r_putI x_130_142 (ci := 8) (k := 6) (ns := 0) (by decide +kernel) (by decide) (g_f0 (by decide +kernel)) rfl hv2 trivial (kz := 6) rfl hO1 ?_
    obtain ⟨M2, hM3⟩ : ∃ Mz, Mz = g_wi M a0 6 v2 := ⟨_, rfl⟩
    rw [← hM3]
    refine g_Run.ok fun hok4 => ?_
    replace h := h M2 hM3 hok4
    have hx5 := g_extW hM3
    replace hO1 := hO1.up hx5
    exact r_retV x_130_145 rfl h
  · replace h := h.1 hc
    refine r_iload_n x_130_25 rfl ?_
    refine r_aload_n x_130_26 rfl ?_
    obtain ⟨n6, hA7, h⟩ := h
    refine r_alen x_130_27 hA7 ?_
    obtain ⟨h8, h⟩ := h
    refine r_ic_ge x_130_28 (t := 140) (by decide +kernel) hv3 h8 (fun hc => ?_) (fun hc => ?_)
    · replace h := h.2 hc
      refine r_aload_n x_130_140 rfl ?_
      refine r_iload_n x_130_141 rfl ?_
      refine r_putI x_130_142 (ci := 8) (k := 6) (ns := 0) (by decide +kernel) (by decide) (g_f0 (by decide +kernel)) rfl hv2 trivial (kz := 6) rfl hO1 ?_
      obtain ⟨M9, hM10⟩ : ∃ Mz, Mz = g_wi M a0 6 v2 := ⟨_, rfl⟩
      rw [← hM10]
      refine g_Run.ok fun hok11 => ?_
      replace h := h M9 hM10 hok11
      have hx12 := g_extW hM10
      replace hO1 := hO1.up hx12
      replace hA7 := hA7.up hx12
      exact r_retV x_130_145 rfl h
    · replace h := h.1 hc
      refine r_aload_n x_130_31 rfl ?_
      refine r_iload_n x_130_32 rfl ?_
      obtain ⟨h13, h⟩ := h
      refine r_bald x_130_33 (Or.inr rfl) hA7 hv3 h13.1 h13.2 ?_
      refine r_if_eq x_130_34 (t := 40) (by decide +kernel) (hok.1 _ _) (fun hc => ?_) (fun hc => ?_)
      · replace h := h.1 hc
        refine r_aload_n x_130_40 rfl ?_
        obtain ⟨b14, hb15, h⟩ := h
        refine r_getR x_130_41 rfl (ci := 8) (k := 0) (ns := 0) (by decide +kernel) (by decide) rfl (kz := 0) rfl hO1 hb15 ?_
        refine r_aload_n x_130_44 rfl ?_
        obtain ⟨b16, hb17, h⟩ := h
        refine r_getR x_130_45 rfl (ci := 8) (k := 2) (ns := 0) (by decide +kernel) (by decide) rfl (kz := 2) rfl hO1 hb17 ?_
        refine r_iload_n x_130_48 rfl ?_
        obtain ⟨n18, hA19, h⟩ := h
        obtain ⟨h20, h⟩ := h
        refine r_iald x_130_49 hA19 hv3 h20.1 h20.2 ?_
        refine r_invS x_130_50 (z := 111) (ns := 1) (by decide +kernel) (as := [.ref b14, g_n (g_i M b16 v3)]) (r := []) rfl rfl rfl ?_
        refine r_callI h fun r24 M21 hx22 hok23 hr25 h => ?_
        replace h := h hx22 hok23 hr25
        replace hO1 := hO1.up hx22
        replace hA7 := hA7.up hx22
        replace hA19 := hA19.up hx22
        refine r_aload_n x_130_53 rfl ?_
        obtain ⟨b26, hb27, h⟩ := h
        refine r_getR x_130_54 rfl (ci := 8) (k := 2) (ns := 0) (by decide +kernel) (by decide) rfl (kz := 2) rfl hO1 hb27 ?_
        refine r_iload_n x_130_57 rfl ?_
        obtain ⟨n28, hA29, h⟩ := h
        obtain ⟨h30, h⟩ := h
        refine r_iald x_130_58 hA29 hv3 h30.1 h30.2 ?_
        refine r_isub x_130_59 ?_
        obtain ⟨h31, h⟩ := h
        refine r_istore x_130_60 (by decide +kernel) rfl (lv1 := [(0, .ref a0), (1, .ref a1), (2, g_n v2), (3, g_n v3), (4, g_n (r24 - (g_i M21 b26 v3)))]) rfl ?_
        refine r_aload_n x_130_62 rfl ?_
        obtain ⟨b32, hb33, h⟩ := h
        refine r_getR x_130_63 rfl (ci := 8) (k := 0) (ns := 0) (by decide +kernel) (by decide) rfl (kz := 0) rfl hO1 hb33 ?_
        refine r_aload_n x_130_66 rfl ?_
        obtain ⟨b34, hb35, h⟩ := h
        refine r_getR x_130_67 rfl (ci := 8) (k := 2) (ns := 0) (by decide +kernel) (by decide) rfl (kz := 2) rfl hO1 hb35 ?_
        refine r_iload_n x_130_70 rfl ?_
        obtain ⟨n36, hA37, h⟩ := h
        obtain ⟨h38, h⟩ := h
        refine r_iald x_130_71 hA37 hv3 h38.1 h38.2 ?_
        refine r_aload_n x_130_72 rfl ?_
        obtain ⟨b39, hb40, h⟩ := h
        refine r_getR x_130_73 rfl (ci := 8) (k := 0) (ns := 0) (by decide +kernel) (by decide) rfl (kz := 0) rfl hO1 hb40 ?_
        refine r_aload_n x_130_76 rfl ?_
        refine r_getI x_130_77 rfl (ci := 8) (k := 9) (ns := 0) (by decide +kernel) (by decide) rfl (kz := 9) rfl hO1 ?_
        refine r_iload x_130_80 rfl ?_
        obtain ⟨n41, hA42, h⟩ := h
        obtain ⟨n43, hA44, h⟩ := h
        obtain ⟨h45, h⟩ := h
        refine r_copy x_130_82 rfl rfl rfl rfl rfl rfl (by decide) hA42 hA44 (hok23.1 _ _) (hok23.1 _ _) h31 h45.1 h45.2.1 h45.2.2.1 h45.2.2.2.1 h45.2.2.2.2 ?_
        obtain ⟨M46, hM47⟩ : ∃ Mz, Mz = g_cp M21 b32 b39 (g_i M21 b34 v3) (g_i M21 a0 9) (r24 - (g_i M21 b26 v3)) := ⟨_, rfl⟩
        rw [← hM47]
        refine g_Run.ok fun hok48 => ?_
        replace h := h M46 hM47 hok48
        have hx49 := g_extC hM47
        replace hO1 := hO1.up hx49
        replace hA7 := hA7.up hx49
        replace hA19 := hA19.up hx49
        replace hA29 := hA29.up hx49
        replace hA37 := hA37.up hx49
        replace hA42 := hA42.up hx49
        replace hA44 := hA44.up hx49
        refine r_aload_n x_130_85 rfl ?_
        obtain ⟨b50, hb51, h⟩ := h
        refine r_getR x_130_86 rfl (ci := 8) (k := 2) (ns := 0) (by decide +kernel) (by decide) rfl (kz := 2) rfl hO1 hb51 ?_
        refine r_iload_n x_130_89 rfl ?_
        refine r_aload_n x_130_90 rfl ?_
        refine r_getI x_130_91 rfl (ci := 8) (k := 9) (ns := 0) (by decide +kernel) (by decide) rfl (kz := 9) rfl hO1 ?_
        obtain ⟨n52, hA53, h⟩ := h
        obtain ⟨h54, h⟩ := h
        refine r_iast x_130_94 hA53 hv2 h54.1 h54.2 (hok48.1 _ _) ?_
        obtain ⟨M55, hM56⟩ : ∃ Mz, Mz = g_wi M46 b50 v2 (g_i M46 a0 9) := ⟨_, rfl⟩
        rw [← hM56]
        refine g_Run.ok fun hok57 => ?_
        replace h := h M55 hM56 hok57
        have hx58 := g_extW hM56
        replace hO1 := hO1.up hx58
        replace hA7 := hA7.up hx58
        replace hA19 := hA19.up hx58
        replace hA29 := hA29.up hx58
        replace hA37 := hA37.up hx58
        replace hA42 := hA42.up hx58
        replace hA44 := hA44.up hx58
        replace hA53 := hA53.up hx58
        refine r_aload_n x_130_95 rfl ?_
        obtain ⟨b59, hb60, h⟩ := h
        refine r_getR x_130_96 rfl (ci := 8) (k := 3) (ns := 0) (by decide +kernel) (by decide) rfl (kz := 3) rfl hO1 hb60 ?_
        refine r_iload_n x_130_99 rfl ?_
        refine r_aload_n x_130_100 rfl ?_
        obtain ⟨b61, hb62, h⟩ := h
        refine r_getR x_130_101 rfl (ci := 8) (k := 3) (ns := 0) (by decide +kernel) (by decide) rfl (kz := 3) rfl hO1 hb62 ?_
        refine r_iload_n x_130_104 rfl ?_
        obtain ⟨n63, hA64, h⟩ := h
        obtain ⟨h65, h⟩ := h
        refine r_iald x_130_105 hA64 hv3 h65.1 h65.2 ?_
        obtain ⟨n66, hA67, h⟩ := h
        obtain ⟨h68, h⟩ := h
        refine r_iast x_130_106 hA67 hv2 h68.1 h68.2 (hok57.1 _ _) ?_
        obtain ⟨M69, hM70⟩ : ∃ Mz, Mz = g_wi M55 b59 v2 (g_i M55 b61 v3) := ⟨_, rfl⟩
        rw [← hM70]
        refine g_Run.ok fun hok71 => ?_
        replace h := h M69 hM70 hok71
        have hx72 := g_extW hM70
        replace hO1 := hO1.up hx72
        replace hA7 := hA7.up hx72
        replace hA19 := hA19.up hx72
        replace hA29 := hA29.up hx72
        replace hA37 := hA37.up hx72
        replace hA42 := hA42.up hx72
        replace hA44 := hA44.up hx72
        replace hA53 := hA53.up hx72
        replace hA64 := hA64.up hx72
        replace hA67 := hA67.up hx72
        refine r_aload_n x_130_107 rfl ?_
        refine r_dup x_130_108 rfl ?_
        refine r_getI x_130_109 rfl (ci := 8) (k := 9) (ns := 0) (by decide +kernel) (by decide) rfl (kz := 9) rfl hO1 ?_
        refine r_iload x_130_112 rfl ?_
        refine r_iadd x_130_114 ?_
        obtain ⟨h73, h⟩ := h
        refine r_putI x_130_115 (ci := 8) (k := 9) (ns := 0) (by decide +kernel) (by decide) (g_f0 (by decide +kernel)) rfl h73 trivial (kz := 9) rfl hO1 ?_
        obtain ⟨M74, hM75⟩ : ∃ Mz, Mz = g_wi M69 a0 9 ((g_i M69 a0 9) + (r24 - (g_i M21 b26 v3))) := ⟨_, rfl⟩
        rw [← hM75]
        refine g_Run.ok fun hok76 => ?_
        replace h := h M74 hM75 hok76
        have hx77 := g_extW hM75
        replace hO1 := hO1.up hx77
        replace hA7 := hA7.up hx77
        replace hA19 := hA19.up hx77
        replace hA29 := hA29.up hx77
        replace hA37 := hA37.up hx77
        replace hA42 := hA42.up hx77
        replace hA44 := hA44.up hx77
        replace hA53 := hA53.up hx77
        replace hA64 := hA64.up hx77
        replace hA67 := hA67.up hx77
        refine r_aload_n x_130_118 rfl ?_
        refine r_dup x_130_119 rfl ?_
        refine r_getI x_130_120 rfl (ci := 8) (k := 7) (ns := 0) (by decide +kernel) (by decide) rfl (kz := 7) rfl hO1 ?_
        refine r_iload x_130_123 rfl ?_
        refine r_iconst x_130_125 ?_
        refine r_isub x_130_126 ?_
        obtain ⟨h78, h⟩ := h
        refine r_iadd x_130_127 ?_
        obtain ⟨h79, h⟩ := h
        refine r_putI x_130_128 (ci := 8) (k := 7) (ns := 0) (by decide +kernel) (by decide) (g_f0 (by decide +kernel)) rfl h79 trivial (kz := 7) rfl hO1 ?_
        obtain ⟨M80, hM81⟩ : ∃ Mz, Mz = g_wi M74 a0 7 ((g_i M74 a0 7) + ((r24 - (g_i M21 b26 v3)) - 2)) := ⟨_, rfl⟩
        rw [← hM81]
        refine g_Run.ok fun hok82 => ?_
        replace h := h M80 hM81 hok82
        have hx83 := g_extW hM81
        replace hO1 := hO1.up hx83
        replace hA7 := hA7.up hx83
        replace hA19 := hA19.up hx83
        replace hA29 := hA29.up hx83
        replace hA37 := hA37.up hx83
        replace hA42 := hA42.up hx83
        replace hA44 := hA44.up hx83
        replace hA53 := hA53.up hx83
        replace hA64 := hA64.up hx83
        replace hA67 := hA67.up hx83
        obtain ⟨h84, h⟩ := h
        refine r_iinc x_130_131 (by decide +kernel) rfl rfl (lv1 := [(0, .ref a0), (1, .ref a1), (2, g_n (v2 + 1)), (3, g_n v3), (4, g_n (r24 - (g_i M21 b26 v3)))]) rfl ?_
        obtain ⟨h85, h⟩ := h
        refine r_iinc x_130_134 (by decide +kernel) rfl rfl (lv1 := [(0, .ref a0), (1, .ref a1), (2, g_n (v2 + 1)), (3, g_n (v3 + 1)), (4, g_n (r24 - (g_i M21 b26 v3)))]) rfl ?_
        refine r_goto x_130_137 (t := 17) (by decide +kernel) ?_
        refine g_drop [0, 1, 2, 3] (lv1 := [(0, .ref a0), (1, .ref a1), (2, g_n (v2 + 1)), (3, g_n (v3 + 1))]) rfl ?_
        exact h
      · replace h := h.2 hc
        refine r_goto x_130_37 (t := 134) (by decide +kernel) ?_
        obtain ⟨h86, h⟩ := h
        refine r_iinc x_130_134 (by decide +kernel) rfl rfl (lv1 := [(0, .ref a0), (1, .ref a1), (2, g_n v2), (3, g_n (v3 + 1))]) rfl ?_
        refine r_goto x_130_137 (t := 17) (by decide +kernel) ?_
        exact h
theorem m_X8_renew {d : Nat} {M : g_M} {Q : g_M → Prop} {a0 : Nat} {a1 : Nat} (h : g_ok M → g_O M a0 8 ∧ (∀ M2, M2 = g_wi M a0 9 (g_i M a0 1) → g_ok M2 → (∀ M6, M6 = g_wi M2 a0 7 0 → g_ok M6 → g_Run d 131 15 [(0, .ref a0), (1, .ref a1), (2, g_n 0)] [] M6 (g_qV Q)))) : g_Call (d + 1) 131 [.ref a0, .ref a1] M (g_qV Q) := by
  refine g_Call.ok fun hok0 => ?_
  replace h := h hok0
  refine r_body rfl (lv := [(0, .ref a0), (1, .ref a1)]) rfl ?_
  refine g_Run.ok fun hok => ?_
  refine r_aload_n x_131_0 rfl ?_
  refine r_aload_n x_131_1 rfl ?_
  obtain ⟨hO1, h⟩ := h
  refine r_getI x_131_2 rfl (ci := 8) (k := 1) (ns := 0) (by decide +kernel) (by decide) rfl (kz := 1) rfl hO1 ?_
  refine r_putI x_131_5 (ci := 8) (k := 9) (ns := 0) (by decide +kernel) (by decide) (g_f0 (by decide +kernel)) rfl (hok.1 _ _) trivial (kz := 9) rfl hO1 ?_
  obtain ⟨M2, hM3⟩ : ∃ Mz, Mz = g_wi M a0 9 (g_i M a0 1) := ⟨_, rfl⟩
  rw [← hM3]
  refine g_Run.ok fun hok4 => ?_
  replace h := h M2 hM3 hok4
  have hx5 := g_extW hM3
  replace hO1 := hO1.up hx5
  refine r_aload_n x_131_8 rfl ?_
  refine r_iconst x_131_9 ?_
  refine r_putI x_131_10 (ci := 8) (k := 7) (ns := 0) (by decide +kernel) (by decide) (g_f0 (by decide +kernel)) rfl (g_Rk rfl) trivial (kz := 7) rfl hO1 ?_
  obtain ⟨M6, hM7⟩ : ∃ Mz, Mz = g_wi M2 a0 7 0 := ⟨_, rfl⟩
  rw [← hM7]
  refine g_Run.ok fun hok8 => ?_
  replace h := h M6 hM7 hok8
  have hx9 := g_extW hM7
  replace hO1 := hO1.up hx9
  refine r_iconst x_131_13 ?_
  refine r_istore_n x_131_14 (by decide +kernel) rfl (lv1 := [(0, .ref a0), (1, .ref a1), (2, g_n 0)]) rfl ?_
  exact h
theorem s_X8_renew_15 {d : Nat} {M : g_M} {Q : g_M → Prop} {a0 : Nat} {a1 : Nat} {v2 : Int} (hv2 : g_InR v2) (h : g_ok M → g_O M a0 8 ∧ ((v2 < g_i M a0 6 → ∃ n2, g_A M a1 1 n2 ∧ g_InR n2 ∧ ((v2 < n2 → ∃ b5, g_r M a0 0 = some b5 ∧ ((0 : Int) ≤ v2 ∧ (v2 : Int) < n2) ∧ g_Call d 111 [.ref b5, g_n (g_i M a1 v2)] M (g_qI fun r11 M8 => g_ext M M8 → g_ok M8 → g_InR r11 → ((0 : Int) ≤ v2 ∧ (v2 : Int) < n2) ∧ g_InR (r11 - (g_i M8 a1 v2)) ∧ ∃ b15, g_r M8 a0 0 = some b15 ∧ ((0 : Int) ≤ v2 ∧ (v2 : Int) < n2) ∧ ∃ b18, g_r M8 a0 0 = some b18 ∧ ∃ n20, g_A M8 b15 0 n20 ∧ ∃ n22, g_A M8 b18 0 n22 ∧ ((0 : Int) ≤ g_i M8 a1 v2 ∧ (0 : Int) ≤ g_i M8 a0 9 ∧ (0 : Int) ≤ r11 - (g_i M8 a1 v2) ∧ ((g_i M8 a1 v2) : Int) + (r11 - (g_i M8 a1 v2)) ≤ n20 ∧ ((g_i M8 a0 9) : Int) + (r11 - (g_i M8 a1 v2)) ≤ n22) ∧ (∀ M25, M25 = g_cp M8 b15 b18 (g_i M8 a1 v2) (g_i M8 a0 9) (r11 - (g_i M8 a1 v2)) → g_ok M25 → ∃ b29, g_r M25 a0 2 = some b29 ∧ ∃ n31, g_A M25 b29 1 n31 ∧ ((0 : Int) ≤ v2 ∧ (v2 : Int) < n31) ∧ (∀ M34, M34 = g_wi M25 b29 v2 (g_i M25 a0 9) → g_ok M34 → g_InR ((g_i M34 a0 9) + (r11 - (g_i M8 a1 v2))) ∧ (∀ M39, M39 = g_wi M34 a0 9 ((g_i M34 a0 9) + (r11 - (g_i M8 a1 v2))) → g_ok M39 → g_InR ((r11 - (g_i M8 a1 v2)) - 2) ∧ g_InR ((g_i M39 a0 7) + ((r11 - (g_i M8 a1 v2)) - 2)) ∧ (∀ M45, M45 = g_wi M39 a0 7 ((g_i M39 a0 7) + ((r11 - (g_i M8 a1 v2)) - 2)) → g_ok M45 → g_InR (v2 + 1) ∧ g_Run d 131 15 [(0, .ref a0), (1, .ref a1), (2, g_n (v2 + 1))] [] M45 (g_qV Q))))))) ∧ (¬ v2 < n2 → Q M))) ∧ (¬ v2 < g_i M a0 6 → Q M))) : g_Run d 131 15 [(0, .ref a0), (1, .ref a1), (2, g_n v2)] [] M (g_qV Q) := by
  refine g_Run.ok fun hok => ?_
  replace h := h hok
  refine r_iload_n x_131_15 rfl ?_
  refine r_aload_n x_131_16 rfl ?_
  obtain ⟨hO1, h⟩ := h
  refine r_getI x_131_17 rfl (ci := 8) (k := 6) (ns := 0) (by decide +kernel) (by decide) rfl (kz := 6) rfl hO1 ?_
  refine r_ic_ge x_131_20 (t := 101) (by decide +kernel) hv2 (hok.1 _ _) (fun hc => ?_) (fun hc => ?_)
  · replace h := h.2 hc
    exact r_retV x_131_101 rfl h
  · replace h := h.1 hc
    refine r_iload_n x_131_23 rfl ?_
    refine r_aload_n x_131_24 rfl ?_
    obtain ⟨n2, hA3, h⟩ := h
    refine r_alen x_131_25 hA3 ?_
    obtain ⟨h4, h⟩ := h
    refine r_ic_ge x_131_26 (t := 101) (by decide +kernel) hv2 h4 (fun hc => ?_) (fun hc => ?_)
    · replace h := h.2 hc
      exact r_retV x_131_101 rfl h
    · replace h := h.1 hc
      refine r_aload_n x_131_29 rfl ?_
      obtain ⟨b5, hb6, h⟩ := h
      refine r_getR x_131_30 rfl (ci := 8) (k := 0) (ns := 0) (by decide +kernel) (by decide) rfl (kz := 0) rfl hO1 hb6 ?_
      refine r_aload_n x_131_33 rfl ?_
      refine r_iload_n x_131_34 rfl ?_
      obtain ⟨h7, h⟩ := h
      refine r_iald x_131_35 hA3 hv2 h7.1 h7.2 ?_
      refine r_invS x_131_36 (z := 111) (ns := 1) (by decide +kernel) (as := [.ref b5, g_n (g_i M a1 v2)]) (r := []) rfl rfl rfl ?_
      refine r_callI h fun r11 M8 hx9 hok10 hr12 h => ?_
      replace h := h hx9 hok10 hr12
      replace hO1 := hO1.up hx9
      replace hA3 := hA3.up hx9
      refine r_aload_n x_131_39 rfl ?_
      refine r_iload_n x_131_40 rfl ?_
      obtain ⟨h13, h⟩ := h
      refine r_iald x_131_41 hA3 hv2 h13.1 h13.2 ?_
      refine r_isub x_131_42 ?_
      obtain ⟨h14, h⟩ := h
      refine r_istore_n x_131_43 (by decide +kernel) rfl (lv1 := [(0, .ref a0), (1, .ref a1), (2, g_n v2), (3, g_n (r11 - (g_i M8 a1 v2)))]) rfl ?_
      refine r_aload_n x_131_44 rfl ?_
      obtain ⟨b15, hb16, h⟩ := h
      refine r_getR x_131_45 rfl (ci := 8) (k := 0) (ns := 0) (by decide +kernel) (by decide) rfl (kz := 0) rfl hO1 hb16 ?_
      refine r_aload_n x_131_48 rfl ?_
      refine r_iload_n x_131_49 rfl ?_
      obtain ⟨h17, h⟩ := h
      refine r_iald x_131_50 hA3 hv2 h17.1 h17.2 ?_
      refine r_aload_n x_131_51 rfl ?_
      obtain ⟨b18, hb19, h⟩ := h
      refine r_getR x_131_52 rfl (ci := 8) (k := 0) (ns := 0) (by decide +kernel) (by decide) rfl (kz := 0) rfl hO1 hb19 ?_
      refine r_aload_n x_131_55 rfl ?_
      refine r_getI x_131_56 rfl (ci := 8) (k := 9) (ns := 0) (by decide +kernel) (by decide) rfl (kz := 9) rfl hO1 ?_
      refine r_iload_n x_131_59 rfl ?_
      obtain ⟨n20, hA21, h⟩ := h
      obtain ⟨n22, hA23, h⟩ := h
      obtain ⟨h24, h⟩ := h
      refine r_copy x_131_60 rfl rfl rfl rfl rfl rfl (by decide) hA21 hA23 (hok10.1 _ _) (hok10.1 _ _) h14 h24.1 h24.2.1 h24.2.2.1 h24.2.2.2.1 h24.2.2.2.2 ?_
      obtain ⟨M25, hM26⟩ : ∃ Mz, Mz = g_cp M8 b15 b18 (g_i M8 a1 v2) (g_i M8 a0 9) (r11 - (g_i M8 a1 v2)) := ⟨_, rfl⟩
      rw [← hM26]
      refine g_Run.ok fun hok27 => ?_
      replace h := h M25 hM26 hok27
      have hx28 := g_extC hM26
      replace hO1 := hO1.up hx28
      replace hA3 := hA3.up hx28
      replace hA21 := hA21.up hx28
      replace hA23 := hA23.up hx28
      refine r_aload_n x_131_63 rfl ?_
      obtain ⟨b29, hb30, h⟩ := h
      refine r_getR x_131_64 rfl (ci := 8) (k := 2) (ns := 0) (by decide +kernel) (by decide) rfl (kz := 2) rfl hO1 hb30 ?_
      refine r_iload_n x_131_67 rfl ?_
      refine r_aload_n x_131_68 rfl ?_
      refine r_getI x_131_69 rfl (ci := 8) (k := 9) (ns := 0) (by decide +kernel) (by decide) rfl (kz := 9) rfl hO1 ?_
      obtain ⟨n31, hA32, h⟩ := h
      obtain ⟨h33, h⟩ := h
      refine r_iast x_131_72 hA32 hv2 h33.1 h33.2 (hok27.1 _ _) ?_
      obtain ⟨M34, hM35⟩ : ∃ Mz, Mz = g_wi M25 b29 v2 (g_i M25 a0 9) := ⟨_, rfl⟩
      rw [← hM35]
      refine g_Run.ok fun hok36 => ?_
      replace h := h M34 hM35 hok36
      have hx37 := g_extW hM35
      replace hO1 := hO1.up hx37
      replace hA3 := hA3.up hx37
      replace hA21 := hA21.up hx37
      replace hA23 := hA23.up hx37
      replace hA32 := hA32.up hx37
      refine r_aload_n x_131_73 rfl ?_
      refine r_dup x_131_74 rfl ?_
      refine r_getI x_131_75 rfl (ci := 8) (k := 9) (ns := 0) (by decide +kernel) (by decide) rfl (kz := 9) rfl hO1 ?_
      refine r_iload_n x_131_78 rfl ?_
      refine r_iadd x_131_79 ?_
      obtain ⟨h38, h⟩ := h
      refine r_putI x_131_80 (ci := 8) (k := 9) (ns := 0) (by decide +kernel) (by decide) (g_f0 (by decide +kernel)) rfl h38 trivial (kz := 9) rfl hO1 ?_
      obtain ⟨M39, hM40⟩ : ∃ Mz, Mz = g_wi M34 a0 9 ((g_i M34 a0 9) + (r11 - (g_i M8 a1 v2))) := ⟨_, rfl⟩
      rw [← hM40]
      refine g_Run.ok fun hok41 => ?_
      replace h := h M39 hM40 hok41
      have hx42 := g_extW hM40
      replace hO1 := hO1.up hx42
      replace hA3 := hA3.up hx42
      replace hA21 := hA21.up hx42
      replace hA23 := hA23.up hx42
      replace hA32 := hA32.up hx42
      refine r_aload_n x_131_83 rfl ?_
      refine r_dup x_131_84 rfl ?_
      refine r_getI x_131_85 rfl (ci := 8) (k := 7) (ns := 0) (by decide +kernel) (by decide) rfl (kz := 7) rfl hO1 ?_
      refine r_iload_n x_131_88 rfl ?_
      refine r_iconst x_131_89 ?_
      refine r_isub x_131_90 ?_
      obtain ⟨h43, h⟩ := h
      refine r_iadd x_131_91 ?_
      obtain ⟨h44, h⟩ := h
      refine r_putI x_131_92 (ci := 8) (k := 7) (ns := 0) (by decide +kernel) (by decide) (g_f0 (by decide +kernel)) rfl h44 trivial (kz := 7) rfl hO1 ?_
      obtain ⟨M45, hM46⟩ : ∃ Mz, Mz = g_wi M39 a0 7 ((g_i M39 a0 7) + ((r11 - (g_i M8 a1 v2)) - 2)) := ⟨_, rfl⟩
      rw [← hM46]
      refine g_Run.ok fun hok47 => ?_
      replace h := h M45 hM46 hok47
      have hx48 := g_extW hM46
      replace hO1 := hO1.up hx48
      replace hA3 := hA3.up hx48
      replace hA21 := hA21.up hx48
      replace hA23 := hA23.up hx48
      replace hA32 := hA32.up hx48
      obtain ⟨h49, h⟩ := h
      refine r_iinc x_131_95 (by decide +kernel) rfl rfl (lv1 := [(0, .ref a0), (1, .ref a1), (2, g_n (v2 + 1)), (3, g_n (r11 - (g_i M8 a1 v2)))]) rfl ?_
      refine r_goto x_131_98 (t := 15) (by decide +kernel) ?_
      refine g_drop [0, 1, 2] (lv1 := [(0, .ref a0), (1, .ref a1), (2, g_n (v2 + 1))]) rfl ?_
      exact h
theorem m_X8_indexCount {d : Nat} {M : g_M} {Q : Int → g_M → Prop} {a0 : Nat} (h : g_ok M → g_Run d 132 4 [(0, .ref a0), (1, g_n 0), (2, g_n 0)] [] M (g_qI Q)) : g_Call (d + 1) 132 [.ref a0] M (g_qI Q) := by
  refine g_Call.ok fun hok0 => ?_
  replace h := h hok0
  refine r_body rfl (lv := [(0, .ref a0)]) rfl ?_
  refine g_Run.ok fun hok => ?_
  refine r_iconst x_132_0 ?_
  refine r_istore_n x_132_1 (by decide +kernel) rfl (lv1 := [(0, .ref a0), (1, g_n 0)]) rfl ?_
  refine r_iconst x_132_2 ?_
  refine r_istore_n x_132_3 (by decide +kernel) rfl (lv1 := [(0, .ref a0), (1, g_n 0), (2, g_n 0)]) rfl ?_
  exact h
theorem s_X8_indexCount_4 {d : Nat} {M : g_M} {Q : Int → g_M → Prop} {a0 : Nat} {v1 : Int} (hv1 : g_InR v1) {v2 : Int} (hv2 : g_InR v2) (h : g_ok M → ((v2 < 4 → g_O M a0 8 ∧ ∃ b2, g_r M a0 4 = some b2 ∧ ∃ n4, g_A M b2 3 n4 ∧ ((0 : Int) ≤ v2 ∧ (v2 : Int) < n4) ∧ ∃ b7, g_r M b2 v2 = some b7 ∧ g_O M b7 3 ∧ ((g_i M b7 9 = 0 → g_InR (v1 + 0) ∧ g_InR (v2 + 1) ∧ g_Run d 132 4 [(0, .ref a0), (1, g_n (v1 + 0)), (2, g_n (v2 + 1))] [] M (g_qI Q)) ∧ (¬ g_i M b7 9 = 0 → g_InR (v1 + 1) ∧ g_InR (v2 + 1) ∧ g_Run d 132 4 [(0, .ref a0), (1, g_n (v1 + 1)), (2, g_n (v2 + 1))] [] M (g_qI Q)))) ∧ (¬ v2 < 4 → Q v1 M))) : g_Run d 132 4 [(0, .ref a0), (1, g_n v1), (2, g_n v2)] [] M (g_qI Q) := by
  refine g_Run.ok fun hok => ?_
  replace h := h hok
  refine r_iload_n x_132_4 rfl ?_
  refine r_iconst x_132_5 ?_
  refine r_ic_ge x_132_6 (t := 35) (by decide +kernel) hv2 (g_Rk rfl) (fun hc => ?_) (fun hc => ?_)
  · replace h := h.2 hc
    refine r_iload_n x_132_35 rfl ?_
    exact r_retI x_132_36 rfl hv1 h
  · replace h := h.1 hc
    refine r_iload_n x_132_9 rfl ?_
    refine r_aload_n x_132_10 rfl ?_
    obtain ⟨hO1, h⟩ := h
    obtain ⟨b2, hb3, h⟩ := h
    refine r_getR x_132_11 rfl (ci := 8) (k := 4) (ns := 0) (by decide +kernel) (by decide) rfl (kz := 4) rfl hO1 hb3 ?_
    refine r_iload_n x_132_14 rfl ?_
    obtain ⟨n4, hA5, h⟩ := h
    obtain ⟨h6, h⟩ := h
    obtain ⟨b7, hb8, h⟩ := h
    refine r_aald x_132_15 (by decide) hA5 hv2 h6.1 h6.2 hb8 ?_
    obtain ⟨hO9, h⟩ := h
    refine r_getI x_132_16 rfl (ci := 3) (k := 9) (ns := 1) (by decide +kernel) (by decide) rfl (kz := 9) rfl hO9 ?_
    refine r_if_eq x_132_19 (t := 26) (by decide +kernel) (hok.1 _ _) (fun hc => ?_) (fun hc => ?_)
    · replace h := h.1 hc
      refine r_iconst x_132_26 ?_
      refine r_iadd x_132_27 ?_
      obtain ⟨h10, h⟩ := h
      refine r_istore_n x_132_28 (by decide +kernel) rfl (lv1 := [(0, .ref a0), (1, g_n (v1 + 0)), (2, g_n v2)]) rfl ?_
      obtain ⟨h11, h⟩ := h
      refine r_iinc x_132_29 (by decide +kernel) rfl rfl (lv1 := [(0, .ref a0), (1, g_n (v1 + 0)), (2, g_n (v2 + 1))]) rfl ?_
      refine r_goto x_132_32 (t := 4) (by decide +kernel) ?_
      exact h
    · replace h := h.2 hc
      refine r_iconst x_132_22 ?_
      refine r_goto x_132_23 (t := 27) (by decide +kernel) ?_
      refine r_iadd x_132_27 ?_
      obtain ⟨h12, h⟩ := h
      refine r_istore_n x_132_28 (by decide +kernel) rfl (lv1 := [(0, .ref a0), (1, g_n (v1 + 1)), (2, g_n v2)]) rfl ?_
      obtain ⟨h13, h⟩ := h
      refine r_iinc x_132_29 (by decide +kernel) rfl rfl (lv1 := [(0, .ref a0), (1, g_n (v1 + 1)), (2, g_n (v2 + 1))]) rfl ?_
      refine r_goto x_132_32 (t := 4) (by decide +kernel) ?_
      exact h
theorem m_X8_freeIndex {d : Nat} {M : g_M} {Q : Int → g_M → Prop} {a0 : Nat} (h : g_ok M → g_Run d 133 2 [(0, .ref a0), (1, g_n 0)] [] M (g_qI Q)) : g_Call (d + 1) 133 [.ref a0] M (g_qI Q) := by
  refine g_Call.ok fun hok0 => ?_
  replace h := h hok0
  refine r_body rfl (lv := [(0, .ref a0)]) rfl ?_
  refine g_Run.ok fun hok => ?_
  refine r_iconst x_133_0 ?_
  refine r_istore_n x_133_1 (by decide +kernel) rfl (lv1 := [(0, .ref a0), (1, g_n 0)]) rfl ?_
  exact h
theorem s_X8_freeIndex_2 {d : Nat} {M : g_M} {Q : Int → g_M → Prop} {a0 : Nat} {v1 : Int} (hv1 : g_InR v1) (h : g_ok M → ((v1 < 4 → g_O M a0 8 ∧ ∃ b2, g_r M a0 4 = some b2 ∧ ∃ n4, g_A M b2 3 n4 ∧ ((0 : Int) ≤ v1 ∧ (v1 : Int) < n4) ∧ ∃ b7, g_r M b2 v1 = some b7 ∧ g_O M b7 3 ∧ ((g_i M b7 9 = 0 → Q v1 M) ∧ (¬ g_i M b7 9 = 0 → g_InR (v1 + 1) ∧ g_Run d 133 2 [(0, .ref a0), (1, g_n (v1 + 1))] [] M (g_qI Q)))) ∧ (¬ v1 < 4 → Q ((-1)) M))) : g_Run d 133 2 [(0, .ref a0), (1, g_n v1)] [] M (g_qI Q) := by
  refine g_Run.ok fun hok => ?_
  replace h := h hok
  refine r_iload_n x_133_2 rfl ?_
  refine r_iconst x_133_3 ?_
  refine r_ic_ge x_133_4 (t := 27) (by decide +kernel) hv1 (g_Rk rfl) (fun hc => ?_) (fun hc => ?_)
  · replace h := h.2 hc
    refine r_iconst x_133_27 ?_
    exact r_retI x_133_28 rfl (g_Rk rfl) h
  · replace h := h.1 hc
    refine r_aload_n x_133_7 rfl ?_
    obtain ⟨hO1, h⟩ := h
    obtain ⟨b2, hb3, h⟩ := h
    refine r_getR x_133_8 rfl (ci := 8) (k := 4) (ns := 0) (by decide +kernel) (by decide) rfl (kz := 4) rfl hO1 hb3 ?_
    refine r_iload_n x_133_11 rfl ?_
    obtain ⟨n4, hA5, h⟩ := h
    obtain ⟨h6, h⟩ := h
    obtain ⟨b7, hb8, h⟩ := h
    refine r_aald x_133_12 (by decide) hA5 hv1 h6.1 h6.2 hb8 ?_
    obtain ⟨hO9, h⟩ := h
    refine r_getI x_133_13 rfl (ci := 3) (k := 9) (ns := 1) (by decide +kernel) (by decide) rfl (kz := 9) rfl hO9 ?_
    refine r_if_ne x_133_16 (t := 21) (by decide +kernel) (hok.1 _ _) (fun hc => ?_) (fun hc => ?_)
    · replace h := h.2 hc
      obtain ⟨h10, h⟩ := h
      refine r_iinc x_133_21 (by decide +kernel) rfl rfl (lv1 := [(0, .ref a0), (1, g_n (v1 + 1))]) rfl ?_
      refine r_goto x_133_24 (t := 2) (by decide +kernel) ?_
      exact h
    · replace h := h.1 hc
      refine r_iload_n x_133_19 rfl ?_
      exact r_retI x_133_20 rfl hv1 h
