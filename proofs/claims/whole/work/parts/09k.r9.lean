theorem x_135_0 : decode (q_code 135) 0 = .ok (.aload_n 0, 1) := by decide +kernel
theorem x_135_1 : decode (q_code 135) 1 = .ok (.aload_n 1, 1) := by decide +kernel
theorem x_135_2 : decode (q_code 135) 2 = .ok (.getfield 72, 3) := by decide +kernel
theorem x_135_5 : decode (q_code 135) 5 = .ok (.aload_n 0, 1) := by decide +kernel
theorem x_135_6 : decode (q_code 135) 6 = .ok (.getfield 48, 3) := by decide +kernel
theorem x_135_9 : decode (q_code 135) 9 = .ok (.arraylength, 1) := by decide +kernel
theorem x_135_10 : decode (q_code 135) 10 = .ok (.invokestatic 78, 3) := by decide +kernel
theorem x_135_13 : decode (q_code 135) 13 = .ok (.putfield 84, 3) := by decide +kernel
theorem x_135_16 : decode (q_code 135) 16 = .ok (.aload_n 1, 1) := by decide +kernel
theorem x_135_17 : decode (q_code 135) 17 = .ok (.getfield 85, 3) := by decide +kernel
theorem x_135_20 : decode (q_code 135) 20 = .ok (.iconst 0, 1) := by decide +kernel
theorem x_135_21 : decode (q_code 135) 21 = .ok (.aload_n 0, 1) := by decide +kernel
theorem x_135_22 : decode (q_code 135) 22 = .ok (.getfield 48, 3) := by decide +kernel
theorem x_135_25 : decode (q_code 135) 25 = .ok (.iconst 0, 1) := by decide +kernel
theorem x_135_26 : decode (q_code 135) 26 = .ok (.aload_n 0, 1) := by decide +kernel
theorem x_135_27 : decode (q_code 135) 27 = .ok (.getfield 84, 3) := by decide +kernel
theorem x_135_30 : decode (q_code 135) 30 = .ok (.invokestatic 88, 3) := by decide +kernel
theorem x_135_33 : decode (q_code 135) 33 = .ok (.aload_n 0, 1) := by decide +kernel
theorem x_135_34 : decode (q_code 135) 34 = .ok (.aload_n 2, 1) := by decide +kernel
theorem x_135_35 : decode (q_code 135) 35 = .ok (.putfield 94, 3) := by decide +kernel
theorem x_135_38 : decode (q_code 135) 38 = .ok (.aload_n 0, 1) := by decide +kernel
theorem x_135_39 : decode (q_code 135) 39 = .ok (.iconst 0, 1) := by decide +kernel
theorem x_135_40 : decode (q_code 135) 40 = .ok (.putfield 98, 3) := by decide +kernel
theorem x_135_43 : decode (q_code 135) 43 = .ok (.return_, 1) := by decide +kernel
theorem x_136_0 : decode (q_code 136) 0 = .ok (.aload_n 0, 1) := by decide +kernel
theorem x_136_1 : decode (q_code 136) 1 = .ok (.getfield 21, 3) := by decide +kernel
theorem x_136_4 : decode (q_code 136) 4 = .ok (.iload_n 1, 1) := by decide +kernel
theorem x_136_5 : decode (q_code 136) 5 = .ok (.invokestatic 101, 3) := by decide +kernel
theorem x_136_8 : decode (q_code 136) 8 = .ok (.istore_n 2, 1) := by decide +kernel
theorem x_136_9 : decode (q_code 136) 9 = .ok (.aload_n 0, 1) := by decide +kernel
theorem x_136_10 : decode (q_code 136) 10 = .ok (.getfield 21, 3) := by decide +kernel
theorem x_136_13 : decode (q_code 136) 13 = .ok (.iload_n 2, 1) := by decide +kernel
theorem x_136_14 : decode (q_code 136) 14 = .ok (.invokestatic 105, 3) := by decide +kernel
theorem x_136_17 : decode (q_code 136) 17 = .ok (.iconst 3, 1) := by decide +kernel
theorem x_136_18 : decode (q_code 136) 18 = .ok (.if_icmp .ne 38, 3) := by decide +kernel
theorem x_136_21 : decode (q_code 136) 21 = .ok (.aload_n 0, 1) := by decide +kernel
theorem x_136_22 : decode (q_code 136) 22 = .ok (.getfield 21, 3) := by decide +kernel
theorem x_136_25 : decode (q_code 136) 25 = .ok (.iload_n 2, 1) := by decide +kernel
theorem x_136_26 : decode (q_code 136) 26 = .ok (.ldc 108, 2) := by decide +kernel
theorem x_136_28 : decode (q_code 136) 28 = .ok (.invokestatic 110, 3) := by decide +kernel
theorem x_136_31 : decode (q_code 136) 31 = .ok (.ifCond .eq 25, 3) := by decide +kernel
theorem x_136_34 : decode (q_code 136) 34 = .ok (.aload_n 0, 1) := by decide +kernel
theorem x_136_35 : decode (q_code 136) 35 = .ok (.getfield 21, 3) := by decide +kernel
theorem x_136_38 : decode (q_code 136) 38 = .ok (.aload_n 0, 1) := by decide +kernel
theorem x_136_39 : decode (q_code 136) 39 = .ok (.getfield 21, 3) := by decide +kernel
theorem x_136_42 : decode (q_code 136) 42 = .ok (.iload_n 2, 1) := by decide +kernel
theorem x_136_43 : decode (q_code 136) 43 = .ok (.invokestatic 114, 3) := by decide +kernel
theorem x_136_46 : decode (q_code 136) 46 = .ok (.invokestatic 105, 3) := by decide +kernel
theorem x_136_49 : decode (q_code 136) 49 = .ok (.ifCond .ne 7, 3) := by decide +kernel
theorem x_136_52 : decode (q_code 136) 52 = .ok (.iconst 1, 1) := by decide +kernel
theorem x_136_53 : decode (q_code 136) 53 = .ok (.goto 4, 3) := by decide +kernel
theorem x_136_56 : decode (q_code 136) 56 = .ok (.iconst 0, 1) := by decide +kernel
theorem x_136_57 : decode (q_code 136) 57 = .ok (.ireturn, 1) := by decide +kernel
theorem x_137_0 : decode (q_code 137) 0 = .ok (.iconst 0, 1) := by decide +kernel
theorem x_137_1 : decode (q_code 137) 1 = .ok (.istore_n 3, 1) := by decide +kernel
theorem x_137_2 : decode (q_code 137) 2 = .ok (.iconst 0, 1) := by decide +kernel
theorem x_137_3 : decode (q_code 137) 3 = .ok (.istore 4, 2) := by decide +kernel
theorem x_137_5 : decode (q_code 137) 5 = .ok (.iload 4, 2) := by decide +kernel
theorem x_137_7 : decode (q_code 137) 7 = .ok (.aload_n 0, 1) := by decide +kernel
theorem x_137_8 : decode (q_code 137) 8 = .ok (.getfield 84, 3) := by decide +kernel
theorem x_137_11 : decode (q_code 137) 11 = .ok (.if_icmp .ge 41, 3) := by decide +kernel
theorem x_137_14 : decode (q_code 137) 14 = .ok (.aload_n 1, 1) := by decide +kernel
theorem x_137_15 : decode (q_code 137) 15 = .ok (.iload_n 2, 1) := by decide +kernel
theorem x_137_16 : decode (q_code 137) 16 = .ok (.aload_n 0, 1) := by decide +kernel
theorem x_137_17 : decode (q_code 137) 17 = .ok (.getfield 48, 3) := by decide +kernel
theorem x_137_20 : decode (q_code 137) 20 = .ok (.iload 4, 2) := by decide +kernel
theorem x_137_22 : decode (q_code 137) 22 = .ok (.iaload, 1) := by decide +kernel
theorem x_137_23 : decode (q_code 137) 23 = .ok (.iconst 0, 1) := by decide +kernel
theorem x_137_24 : decode (q_code 137) 24 = .ok (.invokevirtual 117, 3) := by decide +kernel
theorem x_137_27 : decode (q_code 137) 27 = .ok (.ifCond .eq 19, 3) := by decide +kernel
theorem x_137_30 : decode (q_code 137) 30 = .ok (.aload_n 0, 1) := by decide +kernel
theorem x_137_31 : decode (q_code 137) 31 = .ok (.getfield 48, 3) := by decide +kernel
theorem x_137_34 : decode (q_code 137) 34 = .ok (.iload_n 3, 1) := by decide +kernel
theorem x_137_35 : decode (q_code 137) 35 = .ok (.aload_n 0, 1) := by decide +kernel
theorem x_137_36 : decode (q_code 137) 36 = .ok (.getfield 48, 3) := by decide +kernel
theorem x_137_39 : decode (q_code 137) 39 = .ok (.iload 4, 2) := by decide +kernel
theorem x_137_41 : decode (q_code 137) 41 = .ok (.iaload, 1) := by decide +kernel
theorem x_137_42 : decode (q_code 137) 42 = .ok (.iastore, 1) := by decide +kernel
theorem x_137_43 : decode (q_code 137) 43 = .ok (.iinc 3 1, 3) := by decide +kernel
theorem x_137_46 : decode (q_code 137) 46 = .ok (.iinc 4 1, 3) := by decide +kernel
theorem x_137_49 : decode (q_code 137) 49 = .ok (.goto (-44), 3) := by decide +kernel
theorem x_137_52 : decode (q_code 137) 52 = .ok (.aload_n 0, 1) := by decide +kernel
theorem x_137_53 : decode (q_code 137) 53 = .ok (.iload_n 3, 1) := by decide +kernel
theorem x_137_54 : decode (q_code 137) 54 = .ok (.putfield 84, 3) := by decide +kernel
theorem x_137_57 : decode (q_code 137) 57 = .ok (.return_, 1) := by decide +kernel
theorem x_138_0 : decode (q_code 138) 0 = .ok (.aload_n 0, 1) := by decide +kernel
theorem x_138_1 : decode (q_code 138) 1 = .ok (.iload_n 1, 1) := by decide +kernel
theorem x_138_2 : decode (q_code 138) 2 = .ok (.ldc 123, 2) := by decide +kernel
theorem x_138_4 : decode (q_code 138) 4 = .ok (.invokestatic 110, 3) := by decide +kernel
theorem x_138_7 : decode (q_code 138) 7 = .ok (.ifCond .eq 7, 3) := by decide +kernel
theorem x_138_10 : decode (q_code 138) 10 = .ok (.iconst 1, 1) := by decide +kernel
theorem x_138_11 : decode (q_code 138) 11 = .ok (.goto 90, 3) := by decide +kernel
theorem x_138_14 : decode (q_code 138) 14 = .ok (.aload_n 0, 1) := by decide +kernel
theorem x_138_15 : decode (q_code 138) 15 = .ok (.iload_n 1, 1) := by decide +kernel
theorem x_138_16 : decode (q_code 138) 16 = .ok (.ldc 125, 2) := by decide +kernel
theorem x_138_18 : decode (q_code 138) 18 = .ok (.invokestatic 110, 3) := by decide +kernel
theorem x_138_21 : decode (q_code 138) 21 = .ok (.ifCond .eq 7, 3) := by decide +kernel
theorem x_138_24 : decode (q_code 138) 24 = .ok (.iconst 2, 1) := by decide +kernel
theorem x_138_25 : decode (q_code 138) 25 = .ok (.goto 76, 3) := by decide +kernel
theorem x_138_28 : decode (q_code 138) 28 = .ok (.aload_n 0, 1) := by decide +kernel
theorem x_138_29 : decode (q_code 138) 29 = .ok (.iload_n 1, 1) := by decide +kernel
theorem x_138_30 : decode (q_code 138) 30 = .ok (.ldc 127, 2) := by decide +kernel
theorem x_138_32 : decode (q_code 138) 32 = .ok (.invokestatic 110, 3) := by decide +kernel
theorem x_138_35 : decode (q_code 138) 35 = .ok (.ifCond .eq 7, 3) := by decide +kernel
theorem x_138_38 : decode (q_code 138) 38 = .ok (.iconst 3, 1) := by decide +kernel
theorem x_138_39 : decode (q_code 138) 39 = .ok (.goto 62, 3) := by decide +kernel
theorem x_138_42 : decode (q_code 138) 42 = .ok (.aload_n 0, 1) := by decide +kernel
theorem x_138_43 : decode (q_code 138) 43 = .ok (.iload_n 1, 1) := by decide +kernel
theorem x_138_44 : decode (q_code 138) 44 = .ok (.ldc 129, 2) := by decide +kernel
theorem x_138_46 : decode (q_code 138) 46 = .ok (.invokestatic 110, 3) := by decide +kernel
theorem x_138_49 : decode (q_code 138) 49 = .ok (.ifCond .eq 7, 3) := by decide +kernel
theorem x_138_52 : decode (q_code 138) 52 = .ok (.iconst 4, 1) := by decide +kernel
theorem x_138_53 : decode (q_code 138) 53 = .ok (.goto 48, 3) := by decide +kernel
theorem x_138_56 : decode (q_code 138) 56 = .ok (.aload_n 0, 1) := by decide +kernel
theorem x_138_57 : decode (q_code 138) 57 = .ok (.iload_n 1, 1) := by decide +kernel
theorem x_138_58 : decode (q_code 138) 58 = .ok (.ldc 131, 2) := by decide +kernel
theorem x_138_60 : decode (q_code 138) 60 = .ok (.invokestatic 110, 3) := by decide +kernel
theorem x_138_63 : decode (q_code 138) 63 = .ok (.ifCond .eq 7, 3) := by decide +kernel
theorem x_138_66 : decode (q_code 138) 66 = .ok (.iconst 5, 1) := by decide +kernel
theorem x_138_67 : decode (q_code 138) 67 = .ok (.goto 34, 3) := by decide +kernel
theorem x_138_70 : decode (q_code 138) 70 = .ok (.aload_n 0, 1) := by decide +kernel
theorem x_138_71 : decode (q_code 138) 71 = .ok (.iload_n 1, 1) := by decide +kernel
theorem x_138_72 : decode (q_code 138) 72 = .ok (.ldc 133, 2) := by decide +kernel
theorem x_138_74 : decode (q_code 138) 74 = .ok (.invokestatic 110, 3) := by decide +kernel
theorem x_138_77 : decode (q_code 138) 77 = .ok (.ifCond .eq 8, 3) := by decide +kernel
theorem x_138_80 : decode (q_code 138) 80 = .ok (.bipush 6, 2) := by decide +kernel
theorem x_138_82 : decode (q_code 138) 82 = .ok (.goto 19, 3) := by decide +kernel
theorem x_138_85 : decode (q_code 138) 85 = .ok (.aload_n 0, 1) := by decide +kernel
theorem x_138_86 : decode (q_code 138) 86 = .ok (.iload_n 1, 1) := by decide +kernel
theorem x_138_87 : decode (q_code 138) 87 = .ok (.ldc 135, 2) := by decide +kernel
theorem x_138_89 : decode (q_code 138) 89 = .ok (.invokestatic 110, 3) := by decide +kernel
theorem x_138_92 : decode (q_code 138) 92 = .ok (.ifCond .eq 8, 3) := by decide +kernel
theorem x_138_95 : decode (q_code 138) 95 = .ok (.bipush 7, 2) := by decide +kernel
theorem x_138_97 : decode (q_code 138) 97 = .ok (.goto 4, 3) := by decide +kernel
theorem x_138_100 : decode (q_code 138) 100 = .ok (.iconst 0, 1) := by decide +kernel
theorem x_138_101 : decode (q_code 138) 101 = .ok (.ireturn, 1) := by decide +kernel
theorem x_139_0 : decode (q_code 139) 0 = .ok (.aload_n 0, 1) := by decide +kernel
theorem x_139_1 : decode (q_code 139) 1 = .ok (.getfield 21, 3) := by decide +kernel
theorem x_139_4 : decode (q_code 139) 4 = .ok (.iload_n 1, 1) := by decide +kernel
theorem x_139_5 : decode (q_code 139) 5 = .ok (.invokestatic 101, 3) := by decide +kernel
theorem x_139_8 : decode (q_code 139) 8 = .ok (.istore_n 2, 1) := by decide +kernel
theorem x_139_9 : decode (q_code 139) 9 = .ok (.aload_n 0, 1) := by decide +kernel
theorem x_139_10 : decode (q_code 139) 10 = .ok (.getfield 21, 3) := by decide +kernel
theorem x_139_13 : decode (q_code 139) 13 = .ok (.iload_n 2, 1) := by decide +kernel
theorem x_139_14 : decode (q_code 139) 14 = .ok (.invokestatic 105, 3) := by decide +kernel
theorem x_139_17 : decode (q_code 139) 17 = .ok (.ifCond .eq 21, 3) := by decide +kernel
theorem x_139_20 : decode (q_code 139) 20 = .ok (.aload_n 0, 1) := by decide +kernel
theorem x_139_21 : decode (q_code 139) 21 = .ok (.getfield 21, 3) := by decide +kernel
theorem x_139_24 : decode (q_code 139) 24 = .ok (.aload_n 0, 1) := by decide +kernel
theorem x_139_25 : decode (q_code 139) 25 = .ok (.getfield 21, 3) := by decide +kernel
theorem x_139_28 : decode (q_code 139) 28 = .ok (.iload_n 2, 1) := by decide +kernel
theorem x_139_29 : decode (q_code 139) 29 = .ok (.invokestatic 114, 3) := by decide +kernel
theorem x_139_32 : decode (q_code 139) 32 = .ok (.invokestatic 105, 3) := by decide +kernel
theorem x_139_35 : decode (q_code 139) 35 = .ok (.ifCond .eq 5, 3) := by decide +kernel
theorem x_139_38 : decode (q_code 139) 38 = .ok (.iconst 1, 1) := by decide +kernel
theorem x_139_39 : decode (q_code 139) 39 = .ok (.ireturn, 1) := by decide +kernel
theorem x_139_40 : decode (q_code 139) 40 = .ok (.aload_n 0, 1) := by decide +kernel
theorem x_139_41 : decode (q_code 139) 41 = .ok (.getfield 21, 3) := by decide +kernel
theorem x_139_44 : decode (q_code 139) 44 = .ok (.iload_n 2, 1) := by decide +kernel
theorem x_139_45 : decode (q_code 139) 45 = .ok (.invokestatic 137, 3) := by decide +kernel
theorem x_139_48 : decode (q_code 139) 48 = .ok (.tableswitch 86 1 7 #[44, 50, 56, 62, 68, 74, 80], 44) := by decide +kernel
theorem x_139_92 : decode (q_code 139) 92 = .ok (.aload_n 0, 1) := by decide +kernel
theorem x_139_93 : decode (q_code 139) 93 = .ok (.iload_n 2, 1) := by decide +kernel
theorem x_139_94 : decode (q_code 139) 94 = .ok (.invokevirtual 140, 3) := by decide +kernel
theorem x_139_97 : decode (q_code 139) 97 = .ok (.ireturn, 1) := by decide +kernel
theorem x_139_98 : decode (q_code 139) 98 = .ok (.aload_n 0, 1) := by decide +kernel
theorem x_139_99 : decode (q_code 139) 99 = .ok (.iload_n 2, 1) := by decide +kernel
theorem x_139_100 : decode (q_code 139) 100 = .ok (.invokevirtual 144, 3) := by decide +kernel
theorem x_139_103 : decode (q_code 139) 103 = .ok (.ireturn, 1) := by decide +kernel
theorem x_139_104 : decode (q_code 139) 104 = .ok (.aload_n 0, 1) := by decide +kernel
theorem x_139_105 : decode (q_code 139) 105 = .ok (.iload_n 2, 1) := by decide +kernel
theorem x_139_106 : decode (q_code 139) 106 = .ok (.invokevirtual 147, 3) := by decide +kernel
theorem x_139_109 : decode (q_code 139) 109 = .ok (.ireturn, 1) := by decide +kernel
theorem x_139_110 : decode (q_code 139) 110 = .ok (.aload_n 0, 1) := by decide +kernel
theorem x_139_111 : decode (q_code 139) 111 = .ok (.iload_n 2, 1) := by decide +kernel
theorem x_139_112 : decode (q_code 139) 112 = .ok (.invokevirtual 150, 3) := by decide +kernel
theorem x_139_115 : decode (q_code 139) 115 = .ok (.ireturn, 1) := by decide +kernel
theorem x_139_116 : decode (q_code 139) 116 = .ok (.aload_n 0, 1) := by decide +kernel
theorem x_139_117 : decode (q_code 139) 117 = .ok (.iload_n 2, 1) := by decide +kernel
theorem x_139_118 : decode (q_code 139) 118 = .ok (.invokevirtual 153, 3) := by decide +kernel
theorem x_139_121 : decode (q_code 139) 121 = .ok (.ireturn, 1) := by decide +kernel
theorem x_139_122 : decode (q_code 139) 122 = .ok (.aload_n 0, 1) := by decide +kernel
theorem x_139_123 : decode (q_code 139) 123 = .ok (.iload_n 2, 1) := by decide +kernel
theorem x_139_124 : decode (q_code 139) 124 = .ok (.invokevirtual 156, 3) := by decide +kernel
theorem x_139_127 : decode (q_code 139) 127 = .ok (.ireturn, 1) := by decide +kernel
theorem x_139_128 : decode (q_code 139) 128 = .ok (.aload_n 0, 1) := by decide +kernel
theorem x_139_129 : decode (q_code 139) 129 = .ok (.iload_n 2, 1) := by decide +kernel
theorem x_139_130 : decode (q_code 139) 130 = .ok (.invokevirtual 159, 3) := by decide +kernel
theorem x_139_133 : decode (q_code 139) 133 = .ok (.ireturn, 1) := by decide +kernel
theorem x_139_134 : decode (q_code 139) 134 = .ok (.iconst 1, 1) := by decide +kernel
theorem x_139_135 : decode (q_code 139) 135 = .ok (.ireturn, 1) := by decide +kernel
theorem x_140_0 : decode (q_code 140) 0 = .ok (.aload_n 0, 1) := by decide +kernel
theorem x_140_1 : decode (q_code 140) 1 = .ok (.iconst 1, 1) := by decide +kernel
theorem x_140_2 : decode (q_code 140) 2 = .ok (.aload_n 0, 1) := by decide +kernel
theorem x_140_3 : decode (q_code 140) 3 = .ok (.getfield 98, 3) := by decide +kernel
theorem x_140_6 : decode (q_code 140) 6 = .ok (.isub, 1) := by decide +kernel
theorem x_140_7 : decode (q_code 140) 7 = .ok (.putfield 98, 3) := by decide +kernel
theorem x_140_10 : decode (q_code 140) 10 = .ok (.ldc 36, 2) := by decide +kernel
theorem x_140_12 : decode (q_code 140) 12 = .ok (.aload_n 0, 1) := by decide +kernel
theorem x_140_13 : decode (q_code 140) 13 = .ok (.getfield 98, 3) := by decide +kernel
theorem x_140_16 : decode (q_code 140) 16 = .ok (.ldc 162, 2) := by decide +kernel
theorem x_140_18 : decode (q_code 140) 18 = .ok (.imul, 1) := by decide +kernel
theorem x_140_19 : decode (q_code 140) 19 = .ok (.iadd, 1) := by decide +kernel
theorem x_140_20 : decode (q_code 140) 20 = .ok (.istore_n 1, 1) := by decide +kernel
theorem x_140_21 : decode (q_code 140) 21 = .ok (.aload_n 0, 1) := by decide +kernel
theorem x_140_22 : decode (q_code 140) 22 = .ok (.getfield 40, 3) := by decide +kernel
theorem x_140_25 : decode (q_code 140) 25 = .ok (.iload_n 1, 1) := by decide +kernel
theorem x_140_26 : decode (q_code 140) 26 = .ok (.iload_n 1, 1) := by decide +kernel
theorem x_140_27 : decode (q_code 140) 27 = .ok (.ldc 162, 2) := by decide +kernel
theorem x_140_29 : decode (q_code 140) 29 = .ok (.iadd, 1) := by decide +kernel
theorem x_140_30 : decode (q_code 140) 30 = .ok (.invokevirtual 163, 3) := by decide +kernel
theorem x_140_33 : decode (q_code 140) 33 = .ok (.aload_n 0, 1) := by decide +kernel
theorem x_140_34 : decode (q_code 140) 34 = .ok (.getfield 45, 3) := by decide +kernel
theorem x_140_37 : decode (q_code 140) 37 = .ok (.ldc 44, 2) := by decide +kernel
theorem x_140_39 : decode (q_code 140) 39 = .ok (.ldc 167, 2) := by decide +kernel
theorem x_140_41 : decode (q_code 140) 41 = .ok (.invokevirtual 163, 3) := by decide +kernel
theorem x_140_44 : decode (q_code 140) 44 = .ok (.aload_n 0, 1) := by decide +kernel
theorem x_140_45 : decode (q_code 140) 45 = .ok (.iconst 0, 1) := by decide +kernel
theorem x_140_46 : decode (q_code 140) 46 = .ok (.putfield 168, 3) := by decide +kernel
theorem x_140_49 : decode (q_code 140) 49 = .ok (.aload_n 0, 1) := by decide +kernel
theorem x_140_50 : decode (q_code 140) 50 = .ok (.iconst 0, 1) := by decide +kernel
theorem x_140_51 : decode (q_code 140) 51 = .ok (.putfield 171, 3) := by decide +kernel
theorem x_140_54 : decode (q_code 140) 54 = .ok (.aload_n 0, 1) := by decide +kernel
theorem x_140_55 : decode (q_code 140) 55 = .ok (.iconst 0, 1) := by decide +kernel
theorem x_140_56 : decode (q_code 140) 56 = .ok (.putfield 174, 3) := by decide +kernel
theorem x_140_59 : decode (q_code 140) 59 = .ok (.aload_n 0, 1) := by decide +kernel
theorem x_140_60 : decode (q_code 140) 60 = .ok (.iconst 0, 1) := by decide +kernel
theorem x_140_61 : decode (q_code 140) 61 = .ok (.putfield 178, 3) := by decide +kernel
theorem x_140_64 : decode (q_code 140) 64 = .ok (.return_, 1) := by decide +kernel
theorem x_141_0 : decode (q_code 141) 0 = .ok (.aload_n 0, 1) := by decide +kernel
theorem x_141_1 : decode (q_code 141) 1 = .ok (.getfield 40, 3) := by decide +kernel
theorem x_141_4 : decode (q_code 141) 4 = .ok (.iconst 3, 1) := by decide +kernel
theorem x_141_5 : decode (q_code 141) 5 = .ok (.invokevirtual 181, 3) := by decide +kernel
theorem x_141_8 : decode (q_code 141) 8 = .ok (.aload_n 0, 1) := by decide +kernel
theorem x_141_9 : decode (q_code 141) 9 = .ok (.getfield 40, 3) := by decide +kernel
theorem x_141_12 : decode (q_code 141) 12 = .ok (.iconst 0, 1) := by decide +kernel
theorem x_141_13 : decode (q_code 141) 13 = .ok (.invokevirtual 181, 3) := by decide +kernel
theorem x_141_16 : decode (q_code 141) 16 = .ok (.aload_n 0, 1) := by decide +kernel
theorem x_141_17 : decode (q_code 141) 17 = .ok (.getfield 40, 3) := by decide +kernel
theorem x_141_20 : decode (q_code 141) 20 = .ok (.invokevirtual 185, 3) := by decide +kernel
theorem x_141_23 : decode (q_code 141) 23 = .ok (.ireturn, 1) := by decide +kernel
theorem x_142_0 : decode (q_code 142) 0 = .ok (.aload_n 0, 1) := by decide +kernel
theorem x_142_1 : decode (q_code 142) 1 = .ok (.getfield 40, 3) := by decide +kernel
theorem x_142_4 : decode (q_code 142) 4 = .ok (.iload_n 1, 1) := by decide +kernel
theorem x_142_5 : decode (q_code 142) 5 = .ok (.invokevirtual 189, 3) := by decide +kernel
theorem x_142_8 : decode (q_code 142) 8 = .ok (.aload_n 0, 1) := by decide +kernel
theorem x_142_9 : decode (q_code 142) 9 = .ok (.iload_n 1, 1) := by decide +kernel
theorem x_142_10 : decode (q_code 142) 10 = .ok (.invokevirtual 192, 3) := by decide +kernel
theorem x_142_13 : decode (q_code 142) 13 = .ok (.return_, 1) := by decide +kernel
theorem x_143_0 : decode (q_code 143) 0 = .ok (.aload_n 0, 1) := by decide +kernel
theorem x_143_1 : decode (q_code 143) 1 = .ok (.getfield 40, 3) := by decide +kernel
theorem x_143_4 : decode (q_code 143) 4 = .ok (.getfield 195, 3) := by decide +kernel
theorem x_143_7 : decode (q_code 143) 7 = .ok (.iload_n 1, 1) := by decide +kernel
theorem x_143_8 : decode (q_code 143) 8 = .ok (.isub, 1) := by decide +kernel
theorem x_143_9 : decode (q_code 143) 9 = .ok (.istore_n 2, 1) := by decide +kernel
theorem x_143_10 : decode (q_code 143) 10 = .ok (.aload_n 0, 1) := by decide +kernel
theorem x_143_11 : decode (q_code 143) 11 = .ok (.dup, 1) := by decide +kernel
theorem x_143_12 : decode (q_code 143) 12 = .ok (.getfield 171, 3) := by decide +kernel
theorem x_143_15 : decode (q_code 143) 15 = .ok (.iload_n 2, 1) := by decide +kernel
theorem x_143_16 : decode (q_code 143) 16 = .ok (.iadd, 1) := by decide +kernel
theorem x_143_17 : decode (q_code 143) 17 = .ok (.putfield 171, 3) := by decide +kernel
theorem x_143_20 : decode (q_code 143) 20 = .ok (.aload_n 0, 1) := by decide +kernel
theorem x_143_21 : decode (q_code 143) 21 = .ok (.getfield 40, 3) := by decide +kernel
theorem x_143_24 : decode (q_code 143) 24 = .ok (.getfield 197, 3) := by decide +kernel
theorem x_143_27 : decode (q_code 143) 27 = .ok (.ifCond .ne 47, 3) := by decide +kernel
theorem x_143_30 : decode (q_code 143) 30 = .ok (.iload_n 2, 1) := by decide +kernel
theorem x_143_31 : decode (q_code 143) 31 = .ok (.sipush 2000, 3) := by decide +kernel
theorem x_143_34 : decode (q_code 143) 34 = .ok (.if_icmp .gt 40, 3) := by decide +kernel
theorem x_143_37 : decode (q_code 143) 37 = .ok (.aload_n 0, 1) := by decide +kernel
theorem x_143_38 : decode (q_code 143) 38 = .ok (.getfield 171, 3) := by decide +kernel
theorem x_143_41 : decode (q_code 143) 41 = .ok (.ldc 200, 2) := by decide +kernel
theorem x_143_43 : decode (q_code 143) 43 = .ok (.if_icmp .gt 31, 3) := by decide +kernel
theorem x_143_46 : decode (q_code 143) 46 = .ok (.aload_n 0, 1) := by decide +kernel
theorem x_143_47 : decode (q_code 143) 47 = .ok (.getfield 168, 3) := by decide +kernel
theorem x_143_50 : decode (q_code 143) 50 = .ok (.aload_n 0, 1) := by decide +kernel
theorem x_143_51 : decode (q_code 143) 51 = .ok (.getfield 52, 3) := by decide +kernel
theorem x_143_54 : decode (q_code 143) 54 = .ok (.arraylength, 1) := by decide +kernel
theorem x_143_55 : decode (q_code 143) 55 = .ok (.if_icmp .ge 19, 3) := by decide +kernel
theorem x_143_58 : decode (q_code 143) 58 = .ok (.aload_n 0, 1) := by decide +kernel
theorem x_143_59 : decode (q_code 143) 59 = .ok (.getfield 21, 3) := by decide +kernel
theorem x_143_62 : decode (q_code 143) 62 = .ok (.iload_n 1, 1) := by decide +kernel
theorem x_143_63 : decode (q_code 143) 63 = .ok (.iconst 2, 1) := by decide +kernel
theorem x_143_64 : decode (q_code 143) 64 = .ok (.isub, 1) := by decide +kernel
theorem x_143_65 : decode (q_code 143) 65 = .ok (.iconst 1, 1) := by decide +kernel
theorem x_143_66 : decode (q_code 143) 66 = .ok (.invokestatic 201, 3) := by decide +kernel
theorem x_143_69 : decode (q_code 143) 69 = .ok (.bipush 16, 2) := by decide +kernel
theorem x_143_71 : decode (q_code 143) 71 = .ok (.if_icmp .le 9, 3) := by decide +kernel
theorem x_143_74 : decode (q_code 143) 74 = .ok (.aload_n 0, 1) := by decide +kernel
theorem x_143_75 : decode (q_code 143) 75 = .ok (.iconst 1, 1) := by decide +kernel
theorem x_143_76 : decode (q_code 143) 76 = .ok (.putfield 174, 3) := by decide +kernel
theorem x_143_79 : decode (q_code 143) 79 = .ok (.return_, 1) := by decide +kernel
theorem x_143_80 : decode (q_code 143) 80 = .ok (.aload_n 0, 1) := by decide +kernel
theorem x_143_81 : decode (q_code 143) 81 = .ok (.getfield 52, 3) := by decide +kernel
theorem x_143_84 : decode (q_code 143) 84 = .ok (.aload_n 0, 1) := by decide +kernel
theorem x_143_85 : decode (q_code 143) 85 = .ok (.getfield 168, 3) := by decide +kernel
theorem x_143_88 : decode (q_code 143) 88 = .ok (.iload_n 1, 1) := by decide +kernel
theorem x_143_89 : decode (q_code 143) 89 = .ok (.iconst 2, 1) := by decide +kernel
theorem x_143_90 : decode (q_code 143) 90 = .ok (.isub, 1) := by decide +kernel
theorem x_143_91 : decode (q_code 143) 91 = .ok (.iastore, 1) := by decide +kernel
theorem x_143_92 : decode (q_code 143) 92 = .ok (.aload_n 0, 1) := by decide +kernel
theorem x_143_93 : decode (q_code 143) 93 = .ok (.dup, 1) := by decide +kernel
theorem x_143_94 : decode (q_code 143) 94 = .ok (.getfield 168, 3) := by decide +kernel
theorem x_143_97 : decode (q_code 143) 97 = .ok (.iconst 1, 1) := by decide +kernel
theorem x_143_98 : decode (q_code 143) 98 = .ok (.iadd, 1) := by decide +kernel
theorem x_143_99 : decode (q_code 143) 99 = .ok (.putfield 168, 3) := by decide +kernel
theorem x_143_102 : decode (q_code 143) 102 = .ok (.return_, 1) := by decide +kernel
theorem x_144_0 : decode (q_code 144) 0 = .ok (.aload_n 0, 1) := by decide +kernel
theorem x_144_1 : decode (q_code 144) 1 = .ok (.getfield 174, 3) := by decide +kernel
theorem x_144_4 : decode (q_code 144) 4 = .ok (.ifCond .eq 5, 3) := by decide +kernel
theorem x_144_7 : decode (q_code 144) 7 = .ok (.iconst 5, 1) := by decide +kernel
theorem x_144_8 : decode (q_code 144) 8 = .ok (.ireturn, 1) := by decide +kernel
theorem x_144_9 : decode (q_code 144) 9 = .ok (.aload_n 0, 1) := by decide +kernel
theorem x_144_10 : decode (q_code 144) 10 = .ok (.getfield 52, 3) := by decide +kernel
theorem x_144_13 : decode (q_code 144) 13 = .ok (.iconst 0, 1) := by decide +kernel
theorem x_144_14 : decode (q_code 144) 14 = .ok (.aload_n 0, 1) := by decide +kernel
theorem x_144_15 : decode (q_code 144) 15 = .ok (.getfield 48, 3) := by decide +kernel
theorem x_144_18 : decode (q_code 144) 18 = .ok (.iconst 0, 1) := by decide +kernel
theorem x_144_19 : decode (q_code 144) 19 = .ok (.aload_n 0, 1) := by decide +kernel
theorem x_144_20 : decode (q_code 144) 20 = .ok (.getfield 168, 3) := by decide +kernel
theorem x_144_23 : decode (q_code 144) 23 = .ok (.invokestatic 88, 3) := by decide +kernel
theorem x_144_26 : decode (q_code 144) 26 = .ok (.aload_n 0, 1) := by decide +kernel
theorem x_144_27 : decode (q_code 144) 27 = .ok (.aload_n 0, 1) := by decide +kernel
theorem x_144_28 : decode (q_code 144) 28 = .ok (.getfield 168, 3) := by decide +kernel
theorem x_144_31 : decode (q_code 144) 31 = .ok (.putfield 84, 3) := by decide +kernel
theorem x_144_34 : decode (q_code 144) 34 = .ok (.iconst 0, 1) := by decide +kernel
theorem x_144_35 : decode (q_code 144) 35 = .ok (.ireturn, 1) := by decide +kernel
theorem x_145_0 : decode (q_code 145) 0 = .ok (.iload_n 1, 1) := by decide +kernel
theorem x_145_1 : decode (q_code 145) 1 = .ok (.ifCond .lt 28, 3) := by decide +kernel
theorem x_145_4 : decode (q_code 145) 4 = .ok (.iload_n 1, 1) := by decide +kernel
theorem x_145_5 : decode (q_code 145) 5 = .ok (.iload_n 2, 1) := by decide +kernel
theorem x_145_6 : decode (q_code 145) 6 = .ok (.if_icmp .ge 23, 3) := by decide +kernel
theorem x_145_9 : decode (q_code 145) 9 = .ok (.iload_n 2, 1) := by decide +kernel
theorem x_145_10 : decode (q_code 145) 10 = .ok (.aload_n 0, 1) := by decide +kernel
theorem x_145_11 : decode (q_code 145) 11 = .ok (.getfield 21, 3) := by decide +kernel
theorem x_145_14 : decode (q_code 145) 14 = .ok (.arraylength, 1) := by decide +kernel
theorem x_145_15 : decode (q_code 145) 15 = .ok (.if_icmp .gt 14, 3) := by decide +kernel
theorem x_145_18 : decode (q_code 145) 18 = .ok (.aload_n 0, 1) := by decide +kernel
theorem x_145_19 : decode (q_code 145) 19 = .ok (.getfield 21, 3) := by decide +kernel
theorem x_145_22 : decode (q_code 145) 22 = .ok (.iload_n 1, 1) := by decide +kernel
theorem x_145_23 : decode (q_code 145) 23 = .ok (.baload, 1) := by decide +kernel
theorem x_145_24 : decode (q_code 145) 24 = .ok (.bipush 36, 2) := by decide +kernel
theorem x_145_26 : decode (q_code 145) 26 = .ok (.if_icmp .ne 5, 3) := by decide +kernel
theorem x_145_29 : decode (q_code 145) 29 = .ok (.iconst 0, 1) := by decide +kernel
theorem x_145_30 : decode (q_code 145) 30 = .ok (.ireturn, 1) := by decide +kernel
theorem x_145_31 : decode (q_code 145) 31 = .ok (.iload_n 1, 1) := by decide +kernel
theorem x_145_32 : decode (q_code 145) 32 = .ok (.istore_n 3, 1) := by decide +kernel
theorem x_145_33 : decode (q_code 145) 33 = .ok (.iload_n 3, 1) := by decide +kernel
theorem x_145_34 : decode (q_code 145) 34 = .ok (.iload_n 2, 1) := by decide +kernel
theorem x_145_35 : decode (q_code 145) 35 = .ok (.if_icmp .ge 31, 3) := by decide +kernel
theorem x_145_38 : decode (q_code 145) 38 = .ok (.aload_n 0, 1) := by decide +kernel
theorem x_145_39 : decode (q_code 145) 39 = .ok (.getfield 21, 3) := by decide +kernel
theorem x_145_42 : decode (q_code 145) 42 = .ok (.iload_n 3, 1) := by decide +kernel
theorem x_145_43 : decode (q_code 145) 43 = .ok (.baload, 1) := by decide +kernel
theorem x_145_44 : decode (q_code 145) 44 = .ok (.bipush 46, 2) := by decide +kernel
theorem x_145_46 : decode (q_code 145) 46 = .ok (.if_icmp .eq 12, 3) := by decide +kernel
theorem x_145_49 : decode (q_code 145) 49 = .ok (.aload_n 0, 1) := by decide +kernel
theorem x_145_50 : decode (q_code 145) 50 = .ok (.getfield 21, 3) := by decide +kernel
theorem x_145_53 : decode (q_code 145) 53 = .ok (.iload_n 3, 1) := by decide +kernel
theorem x_145_54 : decode (q_code 145) 54 = .ok (.baload, 1) := by decide +kernel
theorem x_145_55 : decode (q_code 145) 55 = .ok (.ifCond .ne 5, 3) := by decide +kernel
theorem x_145_58 : decode (q_code 145) 58 = .ok (.iconst 0, 1) := by decide +kernel
theorem x_145_59 : decode (q_code 145) 59 = .ok (.ireturn, 1) := by decide +kernel
theorem x_145_60 : decode (q_code 145) 60 = .ok (.iinc 3 1, 3) := by decide +kernel
theorem x_145_63 : decode (q_code 145) 63 = .ok (.goto (-30), 3) := by decide +kernel
theorem x_145_66 : decode (q_code 145) 66 = .ok (.iconst 1, 1) := by decide +kernel
theorem x_145_67 : decode (q_code 145) 67 = .ok (.ireturn, 1) := by decide +kernel
theorem x_146_0 : decode (q_code 146) 0 = .ok (.aload_n 0, 1) := by decide +kernel
theorem x_146_1 : decode (q_code 146) 1 = .ok (.iload_n 1, 1) := by decide +kernel
theorem x_146_2 : decode (q_code 146) 2 = .ok (.iconst 1, 1) := by decide +kernel
theorem x_146_3 : decode (q_code 146) 3 = .ok (.iadd, 1) := by decide +kernel
theorem x_146_4 : decode (q_code 146) 4 = .ok (.aload_n 0, 1) := by decide +kernel
theorem x_146_5 : decode (q_code 146) 5 = .ok (.getfield 21, 3) := by decide +kernel
theorem x_146_8 : decode (q_code 146) 8 = .ok (.iload_n 1, 1) := by decide +kernel
theorem x_146_9 : decode (q_code 146) 9 = .ok (.invokestatic 205, 3) := by decide +kernel
theorem x_146_12 : decode (q_code 146) 12 = .ok (.iconst 1, 1) := by decide +kernel
theorem x_146_13 : decode (q_code 146) 13 = .ok (.isub, 1) := by decide +kernel
theorem x_146_14 : decode (q_code 146) 14 = .ok (.invokevirtual 208, 3) := by decide +kernel
theorem x_146_17 : decode (q_code 146) 17 = .ok (.ireturn, 1) := by decide +kernel
theorem x_147_0 : decode (q_code 147) 0 = .ok (.aload_n 0, 1) := by decide +kernel
theorem x_147_1 : decode (q_code 147) 1 = .ok (.getfield 21, 3) := by decide +kernel
theorem x_147_4 : decode (q_code 147) 4 = .ok (.iload_n 1, 1) := by decide +kernel
theorem x_147_5 : decode (q_code 147) 5 = .ok (.invokestatic 205, 3) := by decide +kernel
theorem x_147_8 : decode (q_code 147) 8 = .ok (.istore_n 2, 1) := by decide +kernel
theorem x_147_9 : decode (q_code 147) 9 = .ok (.aload_n 0, 1) := by decide +kernel
theorem x_147_10 : decode (q_code 147) 10 = .ok (.getfield 21, 3) := by decide +kernel
theorem x_147_13 : decode (q_code 147) 13 = .ok (.iload_n 1, 1) := by decide +kernel
theorem x_147_14 : decode (q_code 147) 14 = .ok (.invokestatic 105, 3) := by decide +kernel
theorem x_147_17 : decode (q_code 147) 17 = .ok (.iconst 2, 1) := by decide +kernel
theorem x_147_18 : decode (q_code 147) 18 = .ok (.if_icmp .ne 34, 3) := by decide +kernel
theorem x_147_21 : decode (q_code 147) 21 = .ok (.aload_n 0, 1) := by decide +kernel
theorem x_147_22 : decode (q_code 147) 22 = .ok (.getfield 21, 3) := by decide +kernel
theorem x_147_25 : decode (q_code 147) 25 = .ok (.iload_n 2, 1) := by decide +kernel
theorem x_147_26 : decode (q_code 147) 26 = .ok (.invokestatic 212, 3) := by decide +kernel
theorem x_147_29 : decode (q_code 147) 29 = .ok (.iconst 1, 1) := by decide +kernel
theorem x_147_30 : decode (q_code 147) 30 = .ok (.if_icmp .le 22, 3) := by decide +kernel
theorem x_147_33 : decode (q_code 147) 33 = .ok (.aload_n 0, 1) := by decide +kernel
theorem x_147_34 : decode (q_code 147) 34 = .ok (.getfield 21, 3) := by decide +kernel
theorem x_147_37 : decode (q_code 147) 37 = .ok (.iload_n 2, 1) := by decide +kernel
theorem x_147_38 : decode (q_code 147) 38 = .ok (.iconst 4, 1) := by decide +kernel
theorem x_147_39 : decode (q_code 147) 39 = .ok (.iadd, 1) := by decide +kernel
theorem x_147_40 : decode (q_code 147) 40 = .ok (.invokestatic 105, 3) := by decide +kernel
theorem x_147_43 : decode (q_code 147) 43 = .ok (.bipush 36, 2) := by decide +kernel
theorem x_147_45 : decode (q_code 147) 45 = .ok (.if_icmp .ne 7, 3) := by decide +kernel
theorem x_147_48 : decode (q_code 147) 48 = .ok (.iconst 1, 1) := by decide +kernel
theorem x_147_49 : decode (q_code 147) 49 = .ok (.goto 4, 3) := by decide +kernel
theorem x_147_52 : decode (q_code 147) 52 = .ok (.iconst 0, 1) := by decide +kernel
theorem x_147_53 : decode (q_code 147) 53 = .ok (.ireturn, 1) := by decide +kernel
theorem x_148_0 : decode (q_code 148) 0 = .ok (.aload_n 0, 1) := by decide +kernel
theorem x_148_1 : decode (q_code 148) 1 = .ok (.iload_n 1, 1) := by decide +kernel
theorem x_148_2 : decode (q_code 148) 2 = .ok (.invokevirtual 215, 3) := by decide +kernel
theorem x_148_5 : decode (q_code 148) 5 = .ok (.ifCond .eq 23, 3) := by decide +kernel
theorem x_148_8 : decode (q_code 148) 8 = .ok (.aload_n 0, 1) := by decide +kernel
theorem x_148_9 : decode (q_code 148) 9 = .ok (.getfield 27, 3) := by decide +kernel
theorem x_148_12 : decode (q_code 148) 12 = .ok (.aload_n 0, 1) := by decide +kernel
theorem x_148_13 : decode (q_code 148) 13 = .ok (.getfield 21, 3) := by decide +kernel
theorem x_148_16 : decode (q_code 148) 16 = .ok (.iload_n 1, 1) := by decide +kernel
theorem x_148_17 : decode (q_code 148) 17 = .ok (.iconst 1, 1) := by decide +kernel
theorem x_148_18 : decode (q_code 148) 18 = .ok (.invokevirtual 219, 3) := by decide +kernel
theorem x_148_21 : decode (q_code 148) 21 = .ok (.ifCond .ne 7, 3) := by decide +kernel
theorem x_148_24 : decode (q_code 148) 24 = .ok (.iconst 1, 1) := by decide +kernel
theorem x_148_25 : decode (q_code 148) 25 = .ok (.goto 4, 3) := by decide +kernel
theorem x_148_28 : decode (q_code 148) 28 = .ok (.iconst 0, 1) := by decide +kernel
theorem x_148_29 : decode (q_code 148) 29 = .ok (.ireturn, 1) := by decide +kernel
theorem x_149_0 : decode (q_code 149) 0 = .ok (.aload_n 0, 1) := by decide +kernel
theorem x_149_1 : decode (q_code 149) 1 = .ok (.iload_n 1, 1) := by decide +kernel
theorem x_149_2 : decode (q_code 149) 2 = .ok (.invokevirtual 215, 3) := by decide +kernel
theorem x_149_5 : decode (q_code 149) 5 = .ok (.ifCond .ne 5, 3) := by decide +kernel
theorem x_149_8 : decode (q_code 149) 8 = .ok (.iload_n 1, 1) := by decide +kernel
theorem x_149_9 : decode (q_code 149) 9 = .ok (.ireturn, 1) := by decide +kernel
theorem x_149_10 : decode (q_code 149) 10 = .ok (.aload_n 0, 1) := by decide +kernel
theorem x_149_11 : decode (q_code 149) 11 = .ok (.getfield 27, 3) := by decide +kernel
theorem x_149_14 : decode (q_code 149) 14 = .ok (.aload_n 0, 1) := by decide +kernel
theorem x_149_15 : decode (q_code 149) 15 = .ok (.getfield 21, 3) := by decide +kernel
theorem x_149_18 : decode (q_code 149) 18 = .ok (.iload_n 1, 1) := by decide +kernel
theorem x_149_19 : decode (q_code 149) 19 = .ok (.iconst 1, 1) := by decide +kernel
theorem x_149_20 : decode (q_code 149) 20 = .ok (.invokevirtual 219, 3) := by decide +kernel
theorem x_149_23 : decode (q_code 149) 23 = .ok (.pop, 1) := by decide +kernel
theorem x_149_24 : decode (q_code 149) 24 = .ok (.iload_n 2, 1) := by decide +kernel
theorem x_149_25 : decode (q_code 149) 25 = .ok (.istore_n 3, 1) := by decide +kernel
theorem x_149_26 : decode (q_code 149) 26 = .ok (.iconst 0, 1) := by decide +kernel
theorem x_149_27 : decode (q_code 149) 27 = .ok (.istore 4, 2) := by decide +kernel
theorem x_149_29 : decode (q_code 149) 29 = .ok (.iload 4, 2) := by decide +kernel
theorem x_149_31 : decode (q_code 149) 31 = .ok (.aload_n 0, 1) := by decide +kernel
theorem x_149_32 : decode (q_code 149) 32 = .ok (.getfield 27, 3) := by decide +kernel
theorem x_149_35 : decode (q_code 149) 35 = .ok (.getfield 223, 3) := by decide +kernel
theorem x_149_38 : decode (q_code 149) 38 = .ok (.if_icmp .ge 113, 3) := by decide +kernel
theorem x_149_41 : decode (q_code 149) 41 = .ok (.iload_n 3, 1) := by decide +kernel
theorem x_149_42 : decode (q_code 149) 42 = .ok (.ifCond .lt 109, 3) := by decide +kernel
theorem x_149_45 : decode (q_code 149) 45 = .ok (.aload_n 0, 1) := by decide +kernel
theorem x_149_46 : decode (q_code 149) 46 = .ok (.getfield 21, 3) := by decide +kernel
theorem x_149_49 : decode (q_code 149) 49 = .ok (.iload_n 3, 1) := by decide +kernel
theorem x_149_50 : decode (q_code 149) 50 = .ok (.invokestatic 105, 3) := by decide +kernel
theorem x_149_53 : decode (q_code 149) 53 = .ok (.iconst 4, 1) := by decide +kernel
theorem x_149_54 : decode (q_code 149) 54 = .ok (.if_icmp .ne 39, 3) := by decide +kernel
theorem x_149_57 : decode (q_code 149) 57 = .ok (.aload_n 0, 1) := by decide +kernel
theorem x_149_58 : decode (q_code 149) 58 = .ok (.getfield 45, 3) := by decide +kernel
theorem x_149_61 : decode (q_code 149) 61 = .ok (.getfield 195, 3) := by decide +kernel
theorem x_149_64 : decode (q_code 149) 64 = .ok (.istore 5, 2) := by decide +kernel
theorem x_149_66 : decode (q_code 149) 66 = .ok (.aload_n 0, 1) := by decide +kernel
theorem x_149_67 : decode (q_code 149) 67 = .ok (.getfield 45, 3) := by decide +kernel
theorem x_149_70 : decode (q_code 149) 70 = .ok (.iconst 4, 1) := by decide +kernel
theorem x_149_71 : decode (q_code 149) 71 = .ok (.invokevirtual 181, 3) := by decide +kernel
theorem x_149_74 : decode (q_code 149) 74 = .ok (.aload_n 0, 1) := by decide +kernel
theorem x_149_75 : decode (q_code 149) 75 = .ok (.getfield 45, 3) := by decide +kernel
theorem x_149_78 : decode (q_code 149) 78 = .ok (.iconst 0, 1) := by decide +kernel
theorem x_149_79 : decode (q_code 149) 79 = .ok (.invokevirtual 181, 3) := by decide +kernel
theorem x_149_82 : decode (q_code 149) 82 = .ok (.aload_n 0, 1) := by decide +kernel
theorem x_149_83 : decode (q_code 149) 83 = .ok (.iload_n 3, 1) := by decide +kernel
theorem x_149_84 : decode (q_code 149) 84 = .ok (.iload 4, 2) := by decide +kernel
theorem x_149_86 : decode (q_code 149) 86 = .ok (.iconst 0, 1) := by decide +kernel
theorem x_149_87 : decode (q_code 149) 87 = .ok (.invokevirtual 226, 3) := by decide +kernel
theorem x_149_90 : decode (q_code 149) 90 = .ok (.iload 5, 2) := by decide +kernel
theorem x_149_92 : decode (q_code 149) 92 = .ok (.ireturn, 1) := by decide +kernel
theorem x_149_93 : decode (q_code 149) 93 = .ok (.aload_n 0, 1) := by decide +kernel
theorem x_149_94 : decode (q_code 149) 94 = .ok (.getfield 21, 3) := by decide +kernel
theorem x_149_97 : decode (q_code 149) 97 = .ok (.iload_n 3, 1) := by decide +kernel
theorem x_149_98 : decode (q_code 149) 98 = .ok (.invokestatic 105, 3) := by decide +kernel
theorem x_149_101 : decode (q_code 149) 101 = .ok (.iconst 3, 1) := by decide +kernel
theorem x_149_102 : decode (q_code 149) 102 = .ok (.if_icmp .ne 41, 3) := by decide +kernel
theorem x_149_105 : decode (q_code 149) 105 = .ok (.aload_n 0, 1) := by decide +kernel
theorem x_149_106 : decode (q_code 149) 106 = .ok (.getfield 21, 3) := by decide +kernel
theorem x_149_109 : decode (q_code 149) 109 = .ok (.iload_n 3, 1) := by decide +kernel
theorem x_149_110 : decode (q_code 149) 110 = .ok (.aload_n 0, 1) := by decide +kernel
theorem x_149_111 : decode (q_code 149) 111 = .ok (.getfield 27, 3) := by decide +kernel
theorem x_149_114 : decode (q_code 149) 114 = .ok (.getfield 230, 3) := by decide +kernel
theorem x_149_117 : decode (q_code 149) 117 = .ok (.aload_n 0, 1) := by decide +kernel
theorem x_149_118 : decode (q_code 149) 118 = .ok (.getfield 27, 3) := by decide +kernel
theorem x_149_121 : decode (q_code 149) 121 = .ok (.getfield 231, 3) := by decide +kernel
theorem x_149_124 : decode (q_code 149) 124 = .ok (.iload 4, 2) := by decide +kernel
theorem x_149_126 : decode (q_code 149) 126 = .ok (.iaload, 1) := by decide +kernel
theorem x_149_127 : decode (q_code 149) 127 = .ok (.aload_n 0, 1) := by decide +kernel
theorem x_149_128 : decode (q_code 149) 128 = .ok (.getfield 27, 3) := by decide +kernel
theorem x_149_131 : decode (q_code 149) 131 = .ok (.getfield 234, 3) := by decide +kernel
theorem x_149_134 : decode (q_code 149) 134 = .ok (.iload 4, 2) := by decide +kernel
theorem x_149_136 : decode (q_code 149) 136 = .ok (.iaload, 1) := by decide +kernel
theorem x_149_137 : decode (q_code 149) 137 = .ok (.invokestatic 237, 3) := by decide +kernel
theorem x_149_140 : decode (q_code 149) 140 = .ok (.goto 4, 3) := by decide +kernel
theorem x_149_143 : decode (q_code 149) 143 = .ok (.iconst (-1), 1) := by decide +kernel
theorem x_149_144 : decode (q_code 149) 144 = .ok (.istore_n 3, 1) := by decide +kernel
theorem x_149_145 : decode (q_code 149) 145 = .ok (.iinc 4 1, 3) := by decide +kernel
theorem x_149_148 : decode (q_code 149) 148 = .ok (.goto (-119), 3) := by decide +kernel
theorem x_149_151 : decode (q_code 149) 151 = .ok (.iload_n 3, 1) := by decide +kernel
theorem x_149_152 : decode (q_code 149) 152 = .ok (.ireturn, 1) := by decide +kernel
theorem x_150_0 : decode (q_code 150) 0 = .ok (.aload_n 0, 1) := by decide +kernel
theorem x_150_1 : decode (q_code 150) 1 = .ok (.getfield 45, 3) := by decide +kernel
theorem x_150_4 : decode (q_code 150) 4 = .ok (.invokevirtual 185, 3) := by decide +kernel
theorem x_150_7 : decode (q_code 150) 7 = .ok (.istore 4, 2) := by decide +kernel
theorem x_150_9 : decode (q_code 150) 9 = .ok (.iconst 0, 1) := by decide +kernel
theorem x_150_10 : decode (q_code 150) 10 = .ok (.istore 5, 2) := by decide +kernel
theorem x_150_12 : decode (q_code 150) 12 = .ok (.aload_n 0, 1) := by decide +kernel
theorem x_150_13 : decode (q_code 150) 13 = .ok (.getfield 21, 3) := by decide +kernel
theorem x_150_16 : decode (q_code 150) 16 = .ok (.iload_n 1, 1) := by decide +kernel
theorem x_150_17 : decode (q_code 150) 17 = .ok (.invokestatic 101, 3) := by decide +kernel
theorem x_150_20 : decode (q_code 150) 20 = .ok (.istore 6, 2) := by decide +kernel
theorem x_150_22 : decode (q_code 150) 22 = .ok (.iconst 0, 1) := by decide +kernel
theorem x_150_23 : decode (q_code 150) 23 = .ok (.istore 7, 2) := by decide +kernel
theorem x_150_25 : decode (q_code 150) 25 = .ok (.iload 7, 2) := by decide +kernel
theorem x_150_27 : decode (q_code 150) 27 = .ok (.ldc 241, 2) := by decide +kernel
theorem x_150_29 : decode (q_code 150) 29 = .ok (.if_icmp .ge 222, 3) := by decide +kernel
theorem x_150_32 : decode (q_code 150) 32 = .ok (.aload_n 0, 1) := by decide +kernel
theorem x_150_33 : decode (q_code 150) 33 = .ok (.getfield 21, 3) := by decide +kernel
theorem x_150_36 : decode (q_code 150) 36 = .ok (.iload 6, 2) := by decide +kernel
theorem x_150_38 : decode (q_code 150) 38 = .ok (.invokestatic 105, 3) := by decide +kernel
theorem x_150_41 : decode (q_code 150) 41 = .ok (.ifCond .eq 210, 3) := by decide +kernel
theorem x_150_44 : decode (q_code 150) 44 = .ok (.aload_n 0, 1) := by decide +kernel
theorem x_150_45 : decode (q_code 150) 45 = .ok (.getfield 21, 3) := by decide +kernel
theorem x_150_48 : decode (q_code 150) 48 = .ok (.iload 6, 2) := by decide +kernel
theorem x_150_50 : decode (q_code 150) 50 = .ok (.invokestatic 105, 3) := by decide +kernel
theorem x_150_53 : decode (q_code 150) 53 = .ok (.iconst 3, 1) := by decide +kernel
theorem x_150_54 : decode (q_code 150) 54 = .ok (.if_icmp .ne 8, 3) := by decide +kernel
theorem x_150_57 : decode (q_code 150) 57 = .ok (.iload 6, 2) := by decide +kernel
theorem x_150_59 : decode (q_code 150) 59 = .ok (.goto 4, 3) := by decide +kernel
theorem x_150_62 : decode (q_code 150) 62 = .ok (.iconst (-1), 1) := by decide +kernel
theorem x_150_63 : decode (q_code 150) 63 = .ok (.istore 8, 2) := by decide +kernel
theorem x_150_65 : decode (q_code 150) 65 = .ok (.iload_n 2, 1) := by decide +kernel
theorem x_150_66 : decode (q_code 150) 66 = .ok (.istore 9, 2) := by decide +kernel
theorem x_150_68 : decode (q_code 150) 68 = .ok (.iload 9, 2) := by decide +kernel
theorem x_150_70 : decode (q_code 150) 70 = .ok (.aload_n 0, 1) := by decide +kernel
theorem x_150_71 : decode (q_code 150) 71 = .ok (.getfield 27, 3) := by decide +kernel
theorem x_150_74 : decode (q_code 150) 74 = .ok (.getfield 223, 3) := by decide +kernel
theorem x_150_77 : decode (q_code 150) 77 = .ok (.if_icmp .ge 60, 3) := by decide +kernel
theorem x_150_80 : decode (q_code 150) 80 = .ok (.aload_n 0, 1) := by decide +kernel
theorem x_150_81 : decode (q_code 150) 81 = .ok (.getfield 21, 3) := by decide +kernel
theorem x_150_84 : decode (q_code 150) 84 = .ok (.iload 8, 2) := by decide +kernel
theorem x_150_86 : decode (q_code 150) 86 = .ok (.invokestatic 105, 3) := by decide +kernel
theorem x_150_89 : decode (q_code 150) 89 = .ok (.iconst 3, 1) := by decide +kernel
theorem x_150_90 : decode (q_code 150) 90 = .ok (.if_icmp .ne 47, 3) := by decide +kernel
theorem x_150_93 : decode (q_code 150) 93 = .ok (.aload_n 0, 1) := by decide +kernel
theorem x_150_94 : decode (q_code 150) 94 = .ok (.getfield 21, 3) := by decide +kernel
theorem x_150_97 : decode (q_code 150) 97 = .ok (.iload 8, 2) := by decide +kernel
theorem x_150_99 : decode (q_code 150) 99 = .ok (.aload_n 0, 1) := by decide +kernel
theorem x_150_100 : decode (q_code 150) 100 = .ok (.getfield 27, 3) := by decide +kernel
theorem x_150_103 : decode (q_code 150) 103 = .ok (.getfield 230, 3) := by decide +kernel
theorem x_150_106 : decode (q_code 150) 106 = .ok (.aload_n 0, 1) := by decide +kernel
theorem x_150_107 : decode (q_code 150) 107 = .ok (.getfield 27, 3) := by decide +kernel
theorem x_150_110 : decode (q_code 150) 110 = .ok (.getfield 231, 3) := by decide +kernel
theorem x_150_113 : decode (q_code 150) 113 = .ok (.iload 9, 2) := by decide +kernel
theorem x_150_115 : decode (q_code 150) 115 = .ok (.iaload, 1) := by decide +kernel
theorem x_150_116 : decode (q_code 150) 116 = .ok (.aload_n 0, 1) := by decide +kernel
theorem x_150_117 : decode (q_code 150) 117 = .ok (.getfield 27, 3) := by decide +kernel
theorem x_150_120 : decode (q_code 150) 120 = .ok (.getfield 234, 3) := by decide +kernel
theorem x_150_123 : decode (q_code 150) 123 = .ok (.iload 9, 2) := by decide +kernel
theorem x_150_125 : decode (q_code 150) 125 = .ok (.iaload, 1) := by decide +kernel
theorem x_150_126 : decode (q_code 150) 126 = .ok (.invokestatic 237, 3) := by decide +kernel
theorem x_150_129 : decode (q_code 150) 129 = .ok (.istore 8, 2) := by decide +kernel
theorem x_150_131 : decode (q_code 150) 131 = .ok (.iinc 9 1, 3) := by decide +kernel
theorem x_150_134 : decode (q_code 150) 134 = .ok (.goto (-66), 3) := by decide +kernel
theorem x_150_137 : decode (q_code 150) 137 = .ok (.iload 8, 2) := by decide +kernel
theorem x_150_139 : decode (q_code 150) 139 = .ok (.ifCond .lt 52, 3) := by decide +kernel
theorem x_150_142 : decode (q_code 150) 142 = .ok (.iload 9, 2) := by decide +kernel
theorem x_150_144 : decode (q_code 150) 144 = .ok (.aload_n 0, 1) := by decide +kernel
theorem x_150_145 : decode (q_code 150) 145 = .ok (.getfield 27, 3) := by decide +kernel
theorem x_150_148 : decode (q_code 150) 148 = .ok (.getfield 223, 3) := by decide +kernel
theorem x_150_151 : decode (q_code 150) 151 = .ok (.if_icmp .ne 40, 3) := by decide +kernel
theorem x_150_154 : decode (q_code 150) 154 = .ok (.aload_n 0, 1) := by decide +kernel
theorem x_150_155 : decode (q_code 150) 155 = .ok (.getfield 45, 3) := by decide +kernel
theorem x_150_158 : decode (q_code 150) 158 = .ok (.aload_n 0, 1) := by decide +kernel
theorem x_150_159 : decode (q_code 150) 159 = .ok (.getfield 21, 3) := by decide +kernel
theorem x_150_162 : decode (q_code 150) 162 = .ok (.iload 8, 2) := by decide +kernel
theorem x_150_164 : decode (q_code 150) 164 = .ok (.invokestatic 105, 3) := by decide +kernel
theorem x_150_167 : decode (q_code 150) 167 = .ok (.iload 5, 2) := by decide +kernel
theorem x_150_169 : decode (q_code 150) 169 = .ok (.invokevirtual 242, 3) := by decide +kernel
theorem x_150_172 : decode (q_code 150) 172 = .ok (.aload_n 0, 1) := by decide +kernel
theorem x_150_173 : decode (q_code 150) 173 = .ok (.getfield 45, 3) := by decide +kernel
theorem x_150_176 : decode (q_code 150) 176 = .ok (.aload_n 0, 1) := by decide +kernel
theorem x_150_177 : decode (q_code 150) 177 = .ok (.getfield 21, 3) := by decide +kernel
theorem x_150_180 : decode (q_code 150) 180 = .ok (.iload 8, 2) := by decide +kernel
theorem x_150_182 : decode (q_code 150) 182 = .ok (.invokevirtual 245, 3) := by decide +kernel
theorem x_150_185 : decode (q_code 150) 185 = .ok (.iinc 5 1, 3) := by decide +kernel
theorem x_150_188 : decode (q_code 150) 188 = .ok (.goto 46, 3) := by decide +kernel
theorem x_150_191 : decode (q_code 150) 191 = .ok (.aload_n 0, 1) := by decide +kernel
theorem x_150_192 : decode (q_code 150) 192 = .ok (.getfield 21, 3) := by decide +kernel
theorem x_150_195 : decode (q_code 150) 195 = .ok (.iload 8, 2) := by decide +kernel
theorem x_150_197 : decode (q_code 150) 197 = .ok (.invokestatic 105, 3) := by decide +kernel
theorem x_150_200 : decode (q_code 150) 200 = .ok (.iconst 4, 1) := by decide +kernel
theorem x_150_201 : decode (q_code 150) 201 = .ok (.if_icmp .ne 33, 3) := by decide +kernel
theorem x_150_204 : decode (q_code 150) 204 = .ok (.iload_n 3, 1) := by decide +kernel
theorem x_150_205 : decode (q_code 150) 205 = .ok (.bipush 60, 2) := by decide +kernel
theorem x_150_207 : decode (q_code 150) 207 = .ok (.if_icmp .ge 27, 3) := by decide +kernel
theorem x_150_210 : decode (q_code 150) 210 = .ok (.aload_n 0, 1) := by decide +kernel
theorem x_150_211 : decode (q_code 150) 211 = .ok (.getfield 45, 3) := by decide +kernel
theorem x_150_214 : decode (q_code 150) 214 = .ok (.iconst 4, 1) := by decide +kernel
theorem x_150_215 : decode (q_code 150) 215 = .ok (.iload 5, 2) := by decide +kernel
theorem x_150_217 : decode (q_code 150) 217 = .ok (.invokevirtual 242, 3) := by decide +kernel
theorem x_150_220 : decode (q_code 150) 220 = .ok (.aload_n 0, 1) := by decide +kernel
theorem x_150_221 : decode (q_code 150) 221 = .ok (.iload 8, 2) := by decide +kernel
theorem x_150_223 : decode (q_code 150) 223 = .ok (.iload 9, 2) := by decide +kernel
theorem x_150_225 : decode (q_code 150) 225 = .ok (.iload_n 3, 1) := by decide +kernel
theorem x_150_226 : decode (q_code 150) 226 = .ok (.iconst 1, 1) := by decide +kernel
theorem x_150_227 : decode (q_code 150) 227 = .ok (.iadd, 1) := by decide +kernel
theorem x_150_228 : decode (q_code 150) 228 = .ok (.invokevirtual 226, 3) := by decide +kernel
theorem x_150_231 : decode (q_code 150) 231 = .ok (.iinc 5 1, 3) := by decide +kernel
theorem x_150_234 : decode (q_code 150) 234 = .ok (.aload_n 0, 1) := by decide +kernel
theorem x_150_235 : decode (q_code 150) 235 = .ok (.getfield 21, 3) := by decide +kernel
theorem x_150_238 : decode (q_code 150) 238 = .ok (.iload 6, 2) := by decide +kernel
theorem x_150_240 : decode (q_code 150) 240 = .ok (.invokestatic 114, 3) := by decide +kernel
theorem x_150_243 : decode (q_code 150) 243 = .ok (.istore 6, 2) := by decide +kernel
theorem x_150_245 : decode (q_code 150) 245 = .ok (.iinc 7 1, 3) := by decide +kernel
theorem x_150_248 : decode (q_code 150) 248 = .ok (.goto (-223), 3) := by decide +kernel
theorem x_150_251 : decode (q_code 150) 251 = .ok (.aload_n 0, 1) := by decide +kernel
theorem x_150_252 : decode (q_code 150) 252 = .ok (.getfield 45, 3) := by decide +kernel
theorem x_150_255 : decode (q_code 150) 255 = .ok (.iload 4, 2) := by decide +kernel
theorem x_150_257 : decode (q_code 150) 257 = .ok (.invokevirtual 189, 3) := by decide +kernel
theorem x_150_260 : decode (q_code 150) 260 = .ok (.return_, 1) := by decide +kernel
theorem x_151_0 : decode (q_code 151) 0 = .ok (.aload_n 0, 1) := by decide +kernel
theorem x_151_1 : decode (q_code 151) 1 = .ok (.getfield 21, 3) := by decide +kernel
theorem x_151_4 : decode (q_code 151) 4 = .ok (.iload_n 1, 1) := by decide +kernel
theorem x_151_5 : decode (q_code 151) 5 = .ok (.invokestatic 101, 3) := by decide +kernel
theorem x_151_8 : decode (q_code 151) 8 = .ok (.istore_n 2, 1) := by decide +kernel
theorem x_151_9 : decode (q_code 151) 9 = .ok (.aload_n 0, 1) := by decide +kernel
theorem x_151_10 : decode (q_code 151) 10 = .ok (.getfield 21, 3) := by decide +kernel
theorem x_151_13 : decode (q_code 151) 13 = .ok (.iload_n 1, 1) := by decide +kernel
theorem x_151_14 : decode (q_code 151) 14 = .ok (.invokestatic 105, 3) := by decide +kernel
theorem x_151_17 : decode (q_code 151) 17 = .ok (.iconst 3, 1) := by decide +kernel
theorem x_151_18 : decode (q_code 151) 18 = .ok (.if_icmp .ne 14, 3) := by decide +kernel
theorem x_151_21 : decode (q_code 151) 21 = .ok (.aload_n 0, 1) := by decide +kernel
theorem x_151_22 : decode (q_code 151) 22 = .ok (.getfield 21, 3) := by decide +kernel
theorem x_151_25 : decode (q_code 151) 25 = .ok (.iload_n 2, 1) := by decide +kernel
theorem x_151_26 : decode (q_code 151) 26 = .ok (.invokestatic 105, 3) := by decide +kernel
theorem x_151_29 : decode (q_code 151) 29 = .ok (.ifCond .ne 5, 3) := by decide +kernel
theorem x_151_32 : decode (q_code 151) 32 = .ok (.iconst 2, 1) := by decide +kernel
theorem x_151_33 : decode (q_code 151) 33 = .ok (.ireturn, 1) := by decide +kernel
theorem x_151_34 : decode (q_code 151) 34 = .ok (.iconst 0, 1) := by decide +kernel
theorem x_151_35 : decode (q_code 151) 35 = .ok (.istore_n 3, 1) := by decide +kernel
theorem x_151_36 : decode (q_code 151) 36 = .ok (.iload_n 3, 1) := by decide +kernel
theorem x_151_37 : decode (q_code 151) 37 = .ok (.sipush 2000, 3) := by decide +kernel
theorem x_151_40 : decode (q_code 151) 40 = .ok (.if_icmp .ge 49, 3) := by decide +kernel
theorem x_151_43 : decode (q_code 151) 43 = .ok (.aload_n 0, 1) := by decide +kernel
theorem x_151_44 : decode (q_code 151) 44 = .ok (.getfield 21, 3) := by decide +kernel
theorem x_151_47 : decode (q_code 151) 47 = .ok (.iload_n 2, 1) := by decide +kernel
theorem x_151_48 : decode (q_code 151) 48 = .ok (.invokestatic 105, 3) := by decide +kernel
theorem x_151_51 : decode (q_code 151) 51 = .ok (.ifCond .eq 38, 3) := by decide +kernel
theorem x_151_54 : decode (q_code 151) 54 = .ok (.aload_n 0, 1) := by decide +kernel
theorem x_151_55 : decode (q_code 151) 55 = .ok (.iload_n 2, 1) := by decide +kernel
theorem x_151_56 : decode (q_code 151) 56 = .ok (.invokevirtual 249, 3) := by decide +kernel
theorem x_151_59 : decode (q_code 151) 59 = .ok (.ifCond .ne 5, 3) := by decide +kernel
theorem x_151_62 : decode (q_code 151) 62 = .ok (.iconst 2, 1) := by decide +kernel
theorem x_151_63 : decode (q_code 151) 63 = .ok (.ireturn, 1) := by decide +kernel
theorem x_151_64 : decode (q_code 151) 64 = .ok (.aload_n 0, 1) := by decide +kernel
theorem x_151_65 : decode (q_code 151) 65 = .ok (.iload_n 2, 1) := by decide +kernel
theorem x_151_66 : decode (q_code 151) 66 = .ok (.invokevirtual 252, 3) := by decide +kernel
theorem x_151_69 : decode (q_code 151) 69 = .ok (.ifCond .eq 5, 3) := by decide +kernel
theorem x_151_72 : decode (q_code 151) 72 = .ok (.iconst 3, 1) := by decide +kernel
theorem x_151_73 : decode (q_code 151) 73 = .ok (.ireturn, 1) := by decide +kernel
theorem x_151_74 : decode (q_code 151) 74 = .ok (.aload_n 0, 1) := by decide +kernel
theorem x_151_75 : decode (q_code 151) 75 = .ok (.getfield 21, 3) := by decide +kernel
theorem x_151_78 : decode (q_code 151) 78 = .ok (.iload_n 2, 1) := by decide +kernel
theorem x_151_79 : decode (q_code 151) 79 = .ok (.invokestatic 114, 3) := by decide +kernel
theorem x_151_82 : decode (q_code 151) 82 = .ok (.istore_n 2, 1) := by decide +kernel
theorem x_151_83 : decode (q_code 151) 83 = .ok (.iinc 3 1, 3) := by decide +kernel
theorem x_151_86 : decode (q_code 151) 86 = .ok (.goto (-50), 3) := by decide +kernel
theorem x_151_89 : decode (q_code 151) 89 = .ok (.iconst 0, 1) := by decide +kernel
theorem x_151_90 : decode (q_code 151) 90 = .ok (.ireturn, 1) := by decide +kernel
theorem x_152_0 : decode (q_code 152) 0 = .ok (.aload_n 0, 1) := by decide +kernel
theorem x_152_1 : decode (q_code 152) 1 = .ok (.iload_n 1, 1) := by decide +kernel
theorem x_152_2 : decode (q_code 152) 2 = .ok (.invokevirtual 255, 3) := by decide +kernel
theorem x_152_5 : decode (q_code 152) 5 = .ok (.istore_n 2, 1) := by decide +kernel
theorem x_152_6 : decode (q_code 152) 6 = .ok (.iload_n 2, 1) := by decide +kernel
theorem x_152_7 : decode (q_code 152) 7 = .ok (.ifCond .eq 5, 3) := by decide +kernel
theorem x_152_10 : decode (q_code 152) 10 = .ok (.iload_n 2, 1) := by decide +kernel
theorem x_152_11 : decode (q_code 152) 11 = .ok (.ireturn, 1) := by decide +kernel
theorem x_152_12 : decode (q_code 152) 12 = .ok (.aload_n 0, 1) := by decide +kernel
theorem x_152_13 : decode (q_code 152) 13 = .ok (.invokevirtual 258, 3) := by decide +kernel
theorem x_152_16 : decode (q_code 152) 16 = .ok (.iconst 0, 1) := by decide +kernel
theorem x_152_17 : decode (q_code 152) 17 = .ok (.istore_n 3, 1) := by decide +kernel
theorem x_152_18 : decode (q_code 152) 18 = .ok (.iload_n 3, 1) := by decide +kernel
theorem x_152_19 : decode (q_code 152) 19 = .ok (.aload_n 0, 1) := by decide +kernel
theorem x_152_20 : decode (q_code 152) 20 = .ok (.getfield 84, 3) := by decide +kernel
theorem x_152_23 : decode (q_code 152) 23 = .ok (.if_icmp .ge 192, 3) := by decide +kernel
theorem x_152_26 : decode (q_code 152) 26 = .ok (.aload_n 0, 1) := by decide +kernel
theorem x_152_27 : decode (q_code 152) 27 = .ok (.getfield 45, 3) := by decide +kernel
theorem x_152_30 : decode (q_code 152) 30 = .ok (.ldc 44, 2) := by decide +kernel
theorem x_152_32 : decode (q_code 152) 32 = .ok (.ldc 167, 2) := by decide +kernel
theorem x_152_34 : decode (q_code 152) 34 = .ok (.invokevirtual 163, 3) := by decide +kernel
theorem x_152_37 : decode (q_code 152) 37 = .ok (.aload_n 0, 1) := by decide +kernel
theorem x_152_38 : decode (q_code 152) 38 = .ok (.invokevirtual 261, 3) := by decide +kernel
theorem x_152_41 : decode (q_code 152) 41 = .ok (.istore 4, 2) := by decide +kernel
theorem x_152_43 : decode (q_code 152) 43 = .ok (.aload_n 0, 1) := by decide +kernel
theorem x_152_44 : decode (q_code 152) 44 = .ok (.getfield 21, 3) := by decide +kernel
theorem x_152_47 : decode (q_code 152) 47 = .ok (.iload_n 1, 1) := by decide +kernel
theorem x_152_48 : decode (q_code 152) 48 = .ok (.invokestatic 101, 3) := by decide +kernel
theorem x_152_51 : decode (q_code 152) 51 = .ok (.istore 5, 2) := by decide +kernel
theorem x_152_53 : decode (q_code 152) 53 = .ok (.iconst 0, 1) := by decide +kernel
theorem x_152_54 : decode (q_code 152) 54 = .ok (.istore 6, 2) := by decide +kernel
theorem x_152_56 : decode (q_code 152) 56 = .ok (.iload 6, 2) := by decide +kernel
theorem x_152_58 : decode (q_code 152) 58 = .ok (.sipush 2000, 3) := by decide +kernel
theorem x_152_61 : decode (q_code 152) 61 = .ok (.if_icmp .ge 142, 3) := by decide +kernel
theorem x_152_64 : decode (q_code 152) 64 = .ok (.aload_n 0, 1) := by decide +kernel
theorem x_152_65 : decode (q_code 152) 65 = .ok (.getfield 21, 3) := by decide +kernel
theorem x_152_68 : decode (q_code 152) 68 = .ok (.iload 5, 2) := by decide +kernel
theorem x_152_70 : decode (q_code 152) 70 = .ok (.invokestatic 105, 3) := by decide +kernel
theorem x_152_73 : decode (q_code 152) 73 = .ok (.ifCond .eq 130, 3) := by decide +kernel
theorem x_152_76 : decode (q_code 152) 76 = .ok (.aload_n 0, 1) := by decide +kernel
theorem x_152_77 : decode (q_code 152) 77 = .ok (.getfield 21, 3) := by decide +kernel
theorem x_152_80 : decode (q_code 152) 80 = .ok (.iload 5, 2) := by decide +kernel
theorem x_152_82 : decode (q_code 152) 82 = .ok (.invokestatic 205, 3) := by decide +kernel
theorem x_152_85 : decode (q_code 152) 85 = .ok (.iconst 1, 1) := by decide +kernel
theorem x_152_86 : decode (q_code 152) 86 = .ok (.isub, 1) := by decide +kernel
theorem x_152_87 : decode (q_code 152) 87 = .ok (.istore 7, 2) := by decide +kernel
theorem x_152_89 : decode (q_code 152) 89 = .ok (.aload_n 0, 1) := by decide +kernel
theorem x_152_90 : decode (q_code 152) 90 = .ok (.getfield 21, 3) := by decide +kernel
theorem x_152_93 : decode (q_code 152) 93 = .ok (.iload 5, 2) := by decide +kernel
theorem x_152_95 : decode (q_code 152) 95 = .ok (.iconst 1, 1) := by decide +kernel
theorem x_152_96 : decode (q_code 152) 96 = .ok (.invokestatic 264, 3) := by decide +kernel
theorem x_152_99 : decode (q_code 152) 99 = .ok (.ifCond .eq 29, 3) := by decide +kernel
theorem x_152_102 : decode (q_code 152) 102 = .ok (.aload_n 0, 1) := by decide +kernel
theorem x_152_103 : decode (q_code 152) 103 = .ok (.getfield 21, 3) := by decide +kernel
theorem x_152_106 : decode (q_code 152) 106 = .ok (.aload_n 0, 1) := by decide +kernel
theorem x_152_107 : decode (q_code 152) 107 = .ok (.getfield 48, 3) := by decide +kernel
theorem x_152_110 : decode (q_code 152) 110 = .ok (.iload_n 3, 1) := by decide +kernel
theorem x_152_111 : decode (q_code 152) 111 = .ok (.iaload, 1) := by decide +kernel
theorem x_152_112 : decode (q_code 152) 112 = .ok (.aload_n 0, 1) := by decide +kernel
theorem x_152_113 : decode (q_code 152) 113 = .ok (.getfield 21, 3) := by decide +kernel
theorem x_152_116 : decode (q_code 152) 116 = .ok (.iload 5, 2) := by decide +kernel
theorem x_152_118 : decode (q_code 152) 118 = .ok (.iconst 1, 1) := by decide +kernel
theorem x_152_119 : decode (q_code 152) 119 = .ok (.iadd, 1) := by decide +kernel
theorem x_152_120 : decode (q_code 152) 120 = .ok (.iload 7, 2) := by decide +kernel
theorem x_152_122 : decode (q_code 152) 122 = .ok (.invokestatic 237, 3) := by decide +kernel
theorem x_152_125 : decode (q_code 152) 125 = .ok (.goto 15, 3) := by decide +kernel
theorem x_152_128 : decode (q_code 152) 128 = .ok (.aload_n 0, 1) := by decide +kernel
theorem x_152_129 : decode (q_code 152) 129 = .ok (.iload 5, 2) := by decide +kernel
theorem x_152_131 : decode (q_code 152) 131 = .ok (.aload_n 0, 1) := by decide +kernel
theorem x_152_132 : decode (q_code 152) 132 = .ok (.getfield 48, 3) := by decide +kernel
theorem x_152_135 : decode (q_code 152) 135 = .ok (.iload_n 3, 1) := by decide +kernel
theorem x_152_136 : decode (q_code 152) 136 = .ok (.iaload, 1) := by decide +kernel
theorem x_152_137 : decode (q_code 152) 137 = .ok (.invokevirtual 267, 3) := by decide +kernel
theorem x_152_140 : decode (q_code 152) 140 = .ok (.istore 8, 2) := by decide +kernel
theorem x_152_142 : decode (q_code 152) 142 = .ok (.iload 8, 2) := by decide +kernel
theorem x_152_144 : decode (q_code 152) 144 = .ok (.ifCond .lt 42, 3) := by decide +kernel
theorem x_152_147 : decode (q_code 152) 147 = .ok (.aload_n 0, 1) := by decide +kernel
theorem x_152_148 : decode (q_code 152) 148 = .ok (.getfield 40, 3) := by decide +kernel
theorem x_152_151 : decode (q_code 152) 151 = .ok (.aload_n 0, 1) := by decide +kernel
theorem x_152_152 : decode (q_code 152) 152 = .ok (.getfield 21, 3) := by decide +kernel
theorem x_152_155 : decode (q_code 152) 155 = .ok (.iload 8, 2) := by decide +kernel
theorem x_152_157 : decode (q_code 152) 157 = .ok (.invokestatic 105, 3) := by decide +kernel
theorem x_152_160 : decode (q_code 152) 160 = .ok (.aload_n 0, 1) := by decide +kernel
theorem x_152_161 : decode (q_code 152) 161 = .ok (.getfield 21, 3) := by decide +kernel
theorem x_152_164 : decode (q_code 152) 164 = .ok (.iload 5, 2) := by decide +kernel
theorem x_152_166 : decode (q_code 152) 166 = .ok (.iconst 1, 1) := by decide +kernel
theorem x_152_167 : decode (q_code 152) 167 = .ok (.iadd, 1) := by decide +kernel
theorem x_152_168 : decode (q_code 152) 168 = .ok (.iload 7, 2) := by decide +kernel
theorem x_152_170 : decode (q_code 152) 170 = .ok (.invokevirtual 270, 3) := by decide +kernel
theorem x_152_173 : decode (q_code 152) 173 = .ok (.aload_n 0, 1) := by decide +kernel
theorem x_152_174 : decode (q_code 152) 174 = .ok (.getfield 40, 3) := by decide +kernel
theorem x_152_177 : decode (q_code 152) 177 = .ok (.aload_n 0, 1) := by decide +kernel
theorem x_152_178 : decode (q_code 152) 178 = .ok (.getfield 21, 3) := by decide +kernel
theorem x_152_181 : decode (q_code 152) 181 = .ok (.iload 8, 2) := by decide +kernel
theorem x_152_183 : decode (q_code 152) 183 = .ok (.invokevirtual 245, 3) := by decide +kernel
theorem x_152_186 : decode (q_code 152) 186 = .ok (.aload_n 0, 1) := by decide +kernel
theorem x_152_187 : decode (q_code 152) 187 = .ok (.getfield 21, 3) := by decide +kernel
theorem x_152_190 : decode (q_code 152) 190 = .ok (.iload 5, 2) := by decide +kernel
theorem x_152_192 : decode (q_code 152) 192 = .ok (.invokestatic 114, 3) := by decide +kernel
theorem x_152_195 : decode (q_code 152) 195 = .ok (.istore 5, 2) := by decide +kernel
theorem x_152_197 : decode (q_code 152) 197 = .ok (.iinc 6 1, 3) := by decide +kernel
theorem x_152_200 : decode (q_code 152) 200 = .ok (.goto (-144), 3) := by decide +kernel
theorem x_152_203 : decode (q_code 152) 203 = .ok (.aload_n 0, 1) := by decide +kernel
theorem x_152_204 : decode (q_code 152) 204 = .ok (.iload 4, 2) := by decide +kernel
theorem x_152_206 : decode (q_code 152) 206 = .ok (.invokevirtual 274, 3) := by decide +kernel
theorem x_152_209 : decode (q_code 152) 209 = .ok (.iinc 3 1, 3) := by decide +kernel
theorem x_152_212 : decode (q_code 152) 212 = .ok (.goto (-194), 3) := by decide +kernel
theorem x_152_215 : decode (q_code 152) 215 = .ok (.aload_n 0, 1) := by decide +kernel
theorem x_152_216 : decode (q_code 152) 216 = .ok (.invokevirtual 277, 3) := by decide +kernel
theorem x_152_219 : decode (q_code 152) 219 = .ok (.ireturn, 1) := by decide +kernel
theorem x_153_0 : decode (q_code 153) 0 = .ok (.aload_n 0, 1) := by decide +kernel
theorem x_153_1 : decode (q_code 153) 1 = .ok (.iload_n 1, 1) := by decide +kernel
theorem x_153_2 : decode (q_code 153) 2 = .ok (.invokevirtual 215, 3) := by decide +kernel
theorem x_153_5 : decode (q_code 153) 5 = .ok (.ifCond .ne 5, 3) := by decide +kernel
theorem x_153_8 : decode (q_code 153) 8 = .ok (.iconst 2, 1) := by decide +kernel
theorem x_153_9 : decode (q_code 153) 9 = .ok (.ireturn, 1) := by decide +kernel
theorem x_153_10 : decode (q_code 153) 10 = .ok (.aload_n 0, 1) := by decide +kernel
theorem x_153_11 : decode (q_code 153) 11 = .ok (.getfield 27, 3) := by decide +kernel
theorem x_153_14 : decode (q_code 153) 14 = .ok (.aload_n 0, 1) := by decide +kernel
theorem x_153_15 : decode (q_code 153) 15 = .ok (.getfield 21, 3) := by decide +kernel
theorem x_153_18 : decode (q_code 153) 18 = .ok (.iload_n 1, 1) := by decide +kernel
theorem x_153_19 : decode (q_code 153) 19 = .ok (.iconst 1, 1) := by decide +kernel
theorem x_153_20 : decode (q_code 153) 20 = .ok (.invokevirtual 219, 3) := by decide +kernel
theorem x_153_23 : decode (q_code 153) 23 = .ok (.ifCond .ne 5, 3) := by decide +kernel
theorem x_153_26 : decode (q_code 153) 26 = .ok (.iconst 3, 1) := by decide +kernel
theorem x_153_27 : decode (q_code 153) 27 = .ok (.ireturn, 1) := by decide +kernel
theorem x_153_28 : decode (q_code 153) 28 = .ok (.aload_n 0, 1) := by decide +kernel
theorem x_153_29 : decode (q_code 153) 29 = .ok (.invokevirtual 258, 3) := by decide +kernel
theorem x_153_32 : decode (q_code 153) 32 = .ok (.iconst 0, 1) := by decide +kernel
theorem x_153_33 : decode (q_code 153) 33 = .ok (.istore_n 2, 1) := by decide +kernel
theorem x_153_34 : decode (q_code 153) 34 = .ok (.iload_n 2, 1) := by decide +kernel
theorem x_153_35 : decode (q_code 153) 35 = .ok (.aload_n 0, 1) := by decide +kernel
theorem x_153_36 : decode (q_code 153) 36 = .ok (.getfield 84, 3) := by decide +kernel
theorem x_153_39 : decode (q_code 153) 39 = .ok (.if_icmp .ge 235, 3) := by decide +kernel
theorem x_153_42 : decode (q_code 153) 42 = .ok (.aload_n 0, 1) := by decide +kernel
theorem x_153_43 : decode (q_code 153) 43 = .ok (.getfield 48, 3) := by decide +kernel
theorem x_153_46 : decode (q_code 153) 46 = .ok (.iload_n 2, 1) := by decide +kernel
theorem x_153_47 : decode (q_code 153) 47 = .ok (.iaload, 1) := by decide +kernel
theorem x_153_48 : decode (q_code 153) 48 = .ok (.istore_n 3, 1) := by decide +kernel
theorem x_153_49 : decode (q_code 153) 49 = .ok (.iconst 0, 1) := by decide +kernel
theorem x_153_50 : decode (q_code 153) 50 = .ok (.istore 4, 2) := by decide +kernel
theorem x_153_52 : decode (q_code 153) 52 = .ok (.iload 4, 2) := by decide +kernel
theorem x_153_54 : decode (q_code 153) 54 = .ok (.aload_n 0, 1) := by decide +kernel
theorem x_153_55 : decode (q_code 153) 55 = .ok (.getfield 27, 3) := by decide +kernel
theorem x_153_58 : decode (q_code 153) 58 = .ok (.getfield 223, 3) := by decide +kernel
theorem x_153_61 : decode (q_code 153) 61 = .ok (.if_icmp .ge 65, 3) := by decide +kernel
theorem x_153_64 : decode (q_code 153) 64 = .ok (.iload_n 3, 1) := by decide +kernel
theorem x_153_65 : decode (q_code 153) 65 = .ok (.ifCond .lt 61, 3) := by decide +kernel
theorem x_153_68 : decode (q_code 153) 68 = .ok (.aload_n 0, 1) := by decide +kernel
theorem x_153_69 : decode (q_code 153) 69 = .ok (.getfield 21, 3) := by decide +kernel
theorem x_153_72 : decode (q_code 153) 72 = .ok (.iload_n 3, 1) := by decide +kernel
theorem x_153_73 : decode (q_code 153) 73 = .ok (.invokestatic 105, 3) := by decide +kernel
theorem x_153_76 : decode (q_code 153) 76 = .ok (.iconst 3, 1) := by decide +kernel
theorem x_153_77 : decode (q_code 153) 77 = .ok (.if_icmp .ne 41, 3) := by decide +kernel
theorem x_153_80 : decode (q_code 153) 80 = .ok (.aload_n 0, 1) := by decide +kernel
theorem x_153_81 : decode (q_code 153) 81 = .ok (.getfield 21, 3) := by decide +kernel
theorem x_153_84 : decode (q_code 153) 84 = .ok (.iload_n 3, 1) := by decide +kernel
theorem x_153_85 : decode (q_code 153) 85 = .ok (.aload_n 0, 1) := by decide +kernel
theorem x_153_86 : decode (q_code 153) 86 = .ok (.getfield 27, 3) := by decide +kernel
theorem x_153_89 : decode (q_code 153) 89 = .ok (.getfield 230, 3) := by decide +kernel
theorem x_153_92 : decode (q_code 153) 92 = .ok (.aload_n 0, 1) := by decide +kernel
theorem x_153_93 : decode (q_code 153) 93 = .ok (.getfield 27, 3) := by decide +kernel
theorem x_153_96 : decode (q_code 153) 96 = .ok (.getfield 231, 3) := by decide +kernel
theorem x_153_99 : decode (q_code 153) 99 = .ok (.iload 4, 2) := by decide +kernel
theorem x_153_101 : decode (q_code 153) 101 = .ok (.iaload, 1) := by decide +kernel
theorem x_153_102 : decode (q_code 153) 102 = .ok (.aload_n 0, 1) := by decide +kernel
theorem x_153_103 : decode (q_code 153) 103 = .ok (.getfield 27, 3) := by decide +kernel
theorem x_153_106 : decode (q_code 153) 106 = .ok (.getfield 234, 3) := by decide +kernel
theorem x_153_109 : decode (q_code 153) 109 = .ok (.iload 4, 2) := by decide +kernel
theorem x_153_111 : decode (q_code 153) 111 = .ok (.iaload, 1) := by decide +kernel
theorem x_153_112 : decode (q_code 153) 112 = .ok (.invokestatic 237, 3) := by decide +kernel
theorem x_153_115 : decode (q_code 153) 115 = .ok (.goto 4, 3) := by decide +kernel
theorem x_153_118 : decode (q_code 153) 118 = .ok (.iconst (-1), 1) := by decide +kernel
theorem x_153_119 : decode (q_code 153) 119 = .ok (.istore_n 3, 1) := by decide +kernel
theorem x_153_120 : decode (q_code 153) 120 = .ok (.iinc 4 1, 3) := by decide +kernel
theorem x_153_123 : decode (q_code 153) 123 = .ok (.goto (-71), 3) := by decide +kernel
theorem x_153_126 : decode (q_code 153) 126 = .ok (.aload_n 0, 1) := by decide +kernel
theorem x_153_127 : decode (q_code 153) 127 = .ok (.getfield 21, 3) := by decide +kernel
theorem x_153_130 : decode (q_code 153) 130 = .ok (.iload_n 3, 1) := by decide +kernel
theorem x_153_131 : decode (q_code 153) 131 = .ok (.invokestatic 105, 3) := by decide +kernel
theorem x_153_134 : decode (q_code 153) 134 = .ok (.istore 4, 2) := by decide +kernel
theorem x_153_136 : decode (q_code 153) 136 = .ok (.iload_n 3, 1) := by decide +kernel
theorem x_153_137 : decode (q_code 153) 137 = .ok (.ifCond .lt 131, 3) := by decide +kernel
theorem x_153_140 : decode (q_code 153) 140 = .ok (.iload 4, 2) := by decide +kernel
theorem x_153_142 : decode (q_code 153) 142 = .ok (.bipush 10, 2) := by decide +kernel
theorem x_153_144 : decode (q_code 153) 144 = .ok (.if_icmp .ne 6, 3) := by decide +kernel
theorem x_153_147 : decode (q_code 153) 147 = .ok (.goto 121, 3) := by decide +kernel
theorem x_153_150 : decode (q_code 153) 150 = .ok (.iload 4, 2) := by decide +kernel
theorem x_153_152 : decode (q_code 153) 152 = .ok (.iconst 4, 1) := by decide +kernel
theorem x_153_153 : decode (q_code 153) 153 = .ok (.if_icmp .eq 53, 3) := by decide +kernel
theorem x_153_156 : decode (q_code 153) 156 = .ok (.aload_n 0, 1) := by decide +kernel
theorem x_153_157 : decode (q_code 153) 157 = .ok (.getfield 40, 3) := by decide +kernel
theorem x_153_160 : decode (q_code 153) 160 = .ok (.getfield 195, 3) := by decide +kernel
theorem x_153_163 : decode (q_code 153) 163 = .ok (.istore 5, 2) := by decide +kernel
theorem x_153_165 : decode (q_code 153) 165 = .ok (.aload_n 0, 1) := by decide +kernel
theorem x_153_166 : decode (q_code 153) 166 = .ok (.getfield 40, 3) := by decide +kernel
theorem x_153_169 : decode (q_code 153) 169 = .ok (.aload_n 0, 1) := by decide +kernel
theorem x_153_170 : decode (q_code 153) 170 = .ok (.getfield 21, 3) := by decide +kernel
theorem x_153_173 : decode (q_code 153) 173 = .ok (.aload_n 0, 1) := by decide +kernel
theorem x_153_174 : decode (q_code 153) 174 = .ok (.getfield 48, 3) := by decide +kernel
theorem x_153_177 : decode (q_code 153) 177 = .ok (.iload_n 2, 1) := by decide +kernel
theorem x_153_178 : decode (q_code 153) 178 = .ok (.iaload, 1) := by decide +kernel
theorem x_153_179 : decode (q_code 153) 179 = .ok (.aload_n 0, 1) := by decide +kernel
theorem x_153_180 : decode (q_code 153) 180 = .ok (.getfield 21, 3) := by decide +kernel
theorem x_153_183 : decode (q_code 153) 183 = .ok (.aload_n 0, 1) := by decide +kernel
theorem x_153_184 : decode (q_code 153) 184 = .ok (.getfield 48, 3) := by decide +kernel
theorem x_153_187 : decode (q_code 153) 187 = .ok (.iload_n 2, 1) := by decide +kernel
theorem x_153_188 : decode (q_code 153) 188 = .ok (.iaload, 1) := by decide +kernel
theorem x_153_189 : decode (q_code 153) 189 = .ok (.invokestatic 114, 3) := by decide +kernel
theorem x_153_192 : decode (q_code 153) 192 = .ok (.invokevirtual 280, 3) := by decide +kernel
theorem x_153_195 : decode (q_code 153) 195 = .ok (.aload_n 0, 1) := by decide +kernel
theorem x_153_196 : decode (q_code 153) 196 = .ok (.iload 5, 2) := by decide +kernel
theorem x_153_198 : decode (q_code 153) 198 = .ok (.iconst 2, 1) := by decide +kernel
theorem x_153_199 : decode (q_code 153) 199 = .ok (.iadd, 1) := by decide +kernel
theorem x_153_200 : decode (q_code 153) 200 = .ok (.invokevirtual 192, 3) := by decide +kernel
theorem x_153_203 : decode (q_code 153) 203 = .ok (.goto 65, 3) := by decide +kernel
theorem x_153_206 : decode (q_code 153) 206 = .ok (.aload_n 0, 1) := by decide +kernel
theorem x_153_207 : decode (q_code 153) 207 = .ok (.getfield 21, 3) := by decide +kernel
theorem x_153_210 : decode (q_code 153) 210 = .ok (.iload_n 3, 1) := by decide +kernel
theorem x_153_211 : decode (q_code 153) 211 = .ok (.invokestatic 101, 3) := by decide +kernel
theorem x_153_214 : decode (q_code 153) 214 = .ok (.istore 5, 2) := by decide +kernel
theorem x_153_216 : decode (q_code 153) 216 = .ok (.iconst 0, 1) := by decide +kernel
theorem x_153_217 : decode (q_code 153) 217 = .ok (.istore 6, 2) := by decide +kernel
theorem x_153_219 : decode (q_code 153) 219 = .ok (.iload 6, 2) := by decide +kernel
theorem x_153_221 : decode (q_code 153) 221 = .ok (.ldc 241, 2) := by decide +kernel
theorem x_153_223 : decode (q_code 153) 223 = .ok (.if_icmp .ge 45, 3) := by decide +kernel
theorem x_153_226 : decode (q_code 153) 226 = .ok (.aload_n 0, 1) := by decide +kernel
theorem x_153_227 : decode (q_code 153) 227 = .ok (.getfield 21, 3) := by decide +kernel
theorem x_153_230 : decode (q_code 153) 230 = .ok (.iload 5, 2) := by decide +kernel
theorem x_153_232 : decode (q_code 153) 232 = .ok (.invokestatic 105, 3) := by decide +kernel
theorem x_153_235 : decode (q_code 153) 235 = .ok (.ifCond .eq 33, 3) := by decide +kernel
theorem x_153_238 : decode (q_code 153) 238 = .ok (.aload_n 0, 1) := by decide +kernel
theorem x_153_239 : decode (q_code 153) 239 = .ok (.aload_n 0, 1) := by decide +kernel
theorem x_153_240 : decode (q_code 153) 240 = .ok (.getfield 48, 3) := by decide +kernel
theorem x_153_243 : decode (q_code 153) 243 = .ok (.iload_n 2, 1) := by decide +kernel
theorem x_153_244 : decode (q_code 153) 244 = .ok (.iaload, 1) := by decide +kernel
theorem x_153_245 : decode (q_code 153) 245 = .ok (.iload_n 3, 1) := by decide +kernel
theorem x_153_246 : decode (q_code 153) 246 = .ok (.iload 5, 2) := by decide +kernel
theorem x_153_248 : decode (q_code 153) 248 = .ok (.invokevirtual 283, 3) := by decide +kernel
theorem x_153_251 : decode (q_code 153) 251 = .ok (.aload_n 0, 1) := by decide +kernel
theorem x_153_252 : decode (q_code 153) 252 = .ok (.getfield 21, 3) := by decide +kernel
theorem x_153_255 : decode (q_code 153) 255 = .ok (.iload 5, 2) := by decide +kernel
theorem x_153_257 : decode (q_code 153) 257 = .ok (.invokestatic 114, 3) := by decide +kernel
theorem x_153_260 : decode (q_code 153) 260 = .ok (.istore 5, 2) := by decide +kernel
theorem x_153_262 : decode (q_code 153) 262 = .ok (.iinc 6 1, 3) := by decide +kernel
theorem x_153_265 : decode (q_code 153) 265 = .ok (.goto (-46), 3) := by decide +kernel
theorem x_153_268 : decode (q_code 153) 268 = .ok (.iinc 2 1, 3) := by decide +kernel
theorem x_153_271 : decode (q_code 153) 271 = .ok (.goto (-237), 3) := by decide +kernel
theorem x_153_274 : decode (q_code 153) 274 = .ok (.aload_n 0, 1) := by decide +kernel
theorem x_153_275 : decode (q_code 153) 275 = .ok (.invokevirtual 277, 3) := by decide +kernel
theorem x_153_278 : decode (q_code 153) 278 = .ok (.ireturn, 1) := by decide +kernel
theorem x_154_0 : decode (q_code 154) 0 = .ok (.aload_n 0, 1) := by decide +kernel
theorem x_154_1 : decode (q_code 154) 1 = .ok (.getfield 40, 3) := by decide +kernel
theorem x_154_4 : decode (q_code 154) 4 = .ok (.getfield 195, 3) := by decide +kernel
theorem x_154_7 : decode (q_code 154) 7 = .ok (.istore 4, 2) := by decide +kernel
theorem x_154_9 : decode (q_code 154) 9 = .ok (.aload_n 0, 1) := by decide +kernel
theorem x_154_10 : decode (q_code 154) 10 = .ok (.getfield 21, 3) := by decide +kernel
theorem x_154_13 : decode (q_code 154) 13 = .ok (.iload_n 3, 1) := by decide +kernel
theorem x_154_14 : decode (q_code 154) 14 = .ok (.invokestatic 114, 3) := by decide +kernel
theorem x_154_17 : decode (q_code 154) 17 = .ok (.aload_n 0, 1) := by decide +kernel
theorem x_154_18 : decode (q_code 154) 18 = .ok (.getfield 21, 3) := by decide +kernel
theorem x_154_21 : decode (q_code 154) 21 = .ok (.iload_n 3, 1) := by decide +kernel
theorem x_154_22 : decode (q_code 154) 22 = .ok (.invokestatic 205, 3) := by decide +kernel
theorem x_154_25 : decode (q_code 154) 25 = .ok (.isub, 1) := by decide +kernel
theorem x_154_26 : decode (q_code 154) 26 = .ok (.aload_n 0, 1) := by decide +kernel
theorem x_154_27 : decode (q_code 154) 27 = .ok (.getfield 21, 3) := by decide +kernel
theorem x_154_30 : decode (q_code 154) 30 = .ok (.iload_n 2, 1) := by decide +kernel
theorem x_154_31 : decode (q_code 154) 31 = .ok (.invokestatic 114, 3) := by decide +kernel
theorem x_154_34 : decode (q_code 154) 34 = .ok (.aload_n 0, 1) := by decide +kernel
theorem x_154_35 : decode (q_code 154) 35 = .ok (.getfield 21, 3) := by decide +kernel
theorem x_154_38 : decode (q_code 154) 38 = .ok (.iload_n 2, 1) := by decide +kernel
theorem x_154_39 : decode (q_code 154) 39 = .ok (.invokestatic 205, 3) := by decide +kernel
theorem x_154_42 : decode (q_code 154) 42 = .ok (.isub, 1) := by decide +kernel
theorem x_154_43 : decode (q_code 154) 43 = .ok (.isub, 1) := by decide +kernel
theorem x_154_44 : decode (q_code 154) 44 = .ok (.istore 5, 2) := by decide +kernel
theorem x_154_46 : decode (q_code 154) 46 = .ok (.aload_n 0, 1) := by decide +kernel
theorem x_154_47 : decode (q_code 154) 47 = .ok (.getfield 40, 3) := by decide +kernel
theorem x_154_50 : decode (q_code 154) 50 = .ok (.aload_n 0, 1) := by decide +kernel
theorem x_154_51 : decode (q_code 154) 51 = .ok (.getfield 21, 3) := by decide +kernel
theorem x_154_54 : decode (q_code 154) 54 = .ok (.iload_n 1, 1) := by decide +kernel
theorem x_154_55 : decode (q_code 154) 55 = .ok (.iload_n 2, 1) := by decide +kernel
theorem x_154_56 : decode (q_code 154) 56 = .ok (.invokevirtual 280, 3) := by decide +kernel
theorem x_154_59 : decode (q_code 154) 59 = .ok (.aload_n 0, 1) := by decide +kernel
theorem x_154_60 : decode (q_code 154) 60 = .ok (.getfield 40, 3) := by decide +kernel
theorem x_154_63 : decode (q_code 154) 63 = .ok (.aload_n 0, 1) := by decide +kernel
theorem x_154_64 : decode (q_code 154) 64 = .ok (.getfield 21, 3) := by decide +kernel
theorem x_154_67 : decode (q_code 154) 67 = .ok (.iload_n 3, 1) := by decide +kernel
theorem x_154_68 : decode (q_code 154) 68 = .ok (.invokestatic 105, 3) := by decide +kernel
theorem x_154_71 : decode (q_code 154) 71 = .ok (.aload_n 0, 1) := by decide +kernel
theorem x_154_72 : decode (q_code 154) 72 = .ok (.getfield 21, 3) := by decide +kernel
theorem x_154_75 : decode (q_code 154) 75 = .ok (.iload_n 2, 1) := by decide +kernel
theorem x_154_76 : decode (q_code 154) 76 = .ok (.iconst 1, 1) := by decide +kernel
theorem x_154_77 : decode (q_code 154) 77 = .ok (.iadd, 1) := by decide +kernel
theorem x_154_78 : decode (q_code 154) 78 = .ok (.aload_n 0, 1) := by decide +kernel
theorem x_154_79 : decode (q_code 154) 79 = .ok (.getfield 21, 3) := by decide +kernel
theorem x_154_82 : decode (q_code 154) 82 = .ok (.iload_n 2, 1) := by decide +kernel
theorem x_154_83 : decode (q_code 154) 83 = .ok (.invokestatic 205, 3) := by decide +kernel
theorem x_154_86 : decode (q_code 154) 86 = .ok (.iconst 1, 1) := by decide +kernel
theorem x_154_87 : decode (q_code 154) 87 = .ok (.isub, 1) := by decide +kernel
theorem x_154_88 : decode (q_code 154) 88 = .ok (.invokevirtual 270, 3) := by decide +kernel
theorem x_154_91 : decode (q_code 154) 91 = .ok (.aload_n 0, 1) := by decide +kernel
theorem x_154_92 : decode (q_code 154) 92 = .ok (.getfield 40, 3) := by decide +kernel
theorem x_154_95 : decode (q_code 154) 95 = .ok (.aload_n 0, 1) := by decide +kernel
theorem x_154_96 : decode (q_code 154) 96 = .ok (.getfield 21, 3) := by decide +kernel
theorem x_154_99 : decode (q_code 154) 99 = .ok (.iload_n 3, 1) := by decide +kernel
theorem x_154_100 : decode (q_code 154) 100 = .ok (.invokevirtual 245, 3) := by decide +kernel
theorem x_154_103 : decode (q_code 154) 103 = .ok (.aload_n 0, 1) := by decide +kernel
theorem x_154_104 : decode (q_code 154) 104 = .ok (.getfield 40, 3) := by decide +kernel
theorem x_154_107 : decode (q_code 154) 107 = .ok (.aload_n 0, 1) := by decide +kernel
theorem x_154_108 : decode (q_code 154) 108 = .ok (.getfield 21, 3) := by decide +kernel
theorem x_154_111 : decode (q_code 154) 111 = .ok (.aload_n 0, 1) := by decide +kernel
theorem x_154_112 : decode (q_code 154) 112 = .ok (.getfield 21, 3) := by decide +kernel
theorem x_154_115 : decode (q_code 154) 115 = .ok (.iload_n 2, 1) := by decide +kernel
theorem x_154_116 : decode (q_code 154) 116 = .ok (.invokestatic 114, 3) := by decide +kernel
theorem x_154_119 : decode (q_code 154) 119 = .ok (.aload_n 0, 1) := by decide +kernel
theorem x_154_120 : decode (q_code 154) 120 = .ok (.getfield 21, 3) := by decide +kernel
theorem x_154_123 : decode (q_code 154) 123 = .ok (.iload_n 1, 1) := by decide +kernel
theorem x_154_124 : decode (q_code 154) 124 = .ok (.invokestatic 114, 3) := by decide +kernel
theorem x_154_127 : decode (q_code 154) 127 = .ok (.invokevirtual 280, 3) := by decide +kernel
theorem x_154_130 : decode (q_code 154) 130 = .ok (.aload_n 0, 1) := by decide +kernel
theorem x_154_131 : decode (q_code 154) 131 = .ok (.getfield 40, 3) := by decide +kernel
theorem x_154_134 : decode (q_code 154) 134 = .ok (.getfield 197, 3) := by decide +kernel
theorem x_154_137 : decode (q_code 154) 137 = .ok (.ifCond .eq 9, 3) := by decide +kernel
theorem x_154_140 : decode (q_code 154) 140 = .ok (.aload_n 0, 1) := by decide +kernel
theorem x_154_141 : decode (q_code 154) 141 = .ok (.iconst 1, 1) := by decide +kernel
theorem x_154_142 : decode (q_code 154) 142 = .ok (.putfield 174, 3) := by decide +kernel
theorem x_154_145 : decode (q_code 154) 145 = .ok (.return_, 1) := by decide +kernel
theorem x_154_146 : decode (q_code 154) 146 = .ok (.iload_n 1, 1) := by decide +kernel
theorem x_154_147 : decode (q_code 154) 147 = .ok (.istore 6, 2) := by decide +kernel
theorem x_154_149 : decode (q_code 154) 149 = .ok (.iconst 0, 1) := by decide +kernel
theorem x_154_150 : decode (q_code 154) 150 = .ok (.istore 7, 2) := by decide +kernel
theorem x_154_152 : decode (q_code 154) 152 = .ok (.iload 7, 2) := by decide +kernel
theorem x_154_154 : decode (q_code 154) 154 = .ok (.aload_n 0, 1) := by decide +kernel
theorem x_154_155 : decode (q_code 154) 155 = .ok (.getfield 27, 3) := by decide +kernel
theorem x_154_158 : decode (q_code 154) 158 = .ok (.getfield 223, 3) := by decide +kernel
theorem x_154_161 : decode (q_code 154) 161 = .ok (.if_icmp .ge 89, 3) := by decide +kernel
theorem x_154_164 : decode (q_code 154) 164 = .ok (.iload 6, 2) := by decide +kernel
theorem x_154_166 : decode (q_code 154) 166 = .ok (.ifCond .lt 84, 3) := by decide +kernel
theorem x_154_169 : decode (q_code 154) 169 = .ok (.aload_n 0, 1) := by decide +kernel
theorem x_154_170 : decode (q_code 154) 170 = .ok (.getfield 21, 3) := by decide +kernel
theorem x_154_173 : decode (q_code 154) 173 = .ok (.iload 6, 2) := by decide +kernel
theorem x_154_175 : decode (q_code 154) 175 = .ok (.invokestatic 205, 3) := by decide +kernel
theorem x_154_178 : decode (q_code 154) 178 = .ok (.istore 8, 2) := by decide +kernel
theorem x_154_180 : decode (q_code 154) 180 = .ok (.aload_n 0, 1) := by decide +kernel
theorem x_154_181 : decode (q_code 154) 181 = .ok (.getfield 40, 3) := by decide +kernel
theorem x_154_184 : decode (q_code 154) 184 = .ok (.iload 4, 2) := by decide +kernel
theorem x_154_186 : decode (q_code 154) 186 = .ok (.iload 8, 2) := by decide +kernel
theorem x_154_188 : decode (q_code 154) 188 = .ok (.iadd, 1) := by decide +kernel
theorem x_154_189 : decode (q_code 154) 189 = .ok (.iload_n 1, 1) := by decide +kernel
theorem x_154_190 : decode (q_code 154) 190 = .ok (.isub, 1) := by decide +kernel
theorem x_154_191 : decode (q_code 154) 191 = .ok (.aload_n 0, 1) := by decide +kernel
theorem x_154_192 : decode (q_code 154) 192 = .ok (.getfield 21, 3) := by decide +kernel
theorem x_154_195 : decode (q_code 154) 195 = .ok (.iload 8, 2) := by decide +kernel
theorem x_154_197 : decode (q_code 154) 197 = .ok (.invokestatic 212, 3) := by decide +kernel
theorem x_154_200 : decode (q_code 154) 200 = .ok (.iload 5, 2) := by decide +kernel
theorem x_154_202 : decode (q_code 154) 202 = .ok (.iadd, 1) := by decide +kernel
theorem x_154_203 : decode (q_code 154) 203 = .ok (.invokevirtual 286, 3) := by decide +kernel
theorem x_154_206 : decode (q_code 154) 206 = .ok (.aload_n 0, 1) := by decide +kernel
theorem x_154_207 : decode (q_code 154) 207 = .ok (.getfield 21, 3) := by decide +kernel
theorem x_154_210 : decode (q_code 154) 210 = .ok (.iload 6, 2) := by decide +kernel
theorem x_154_212 : decode (q_code 154) 212 = .ok (.aload_n 0, 1) := by decide +kernel
theorem x_154_213 : decode (q_code 154) 213 = .ok (.getfield 27, 3) := by decide +kernel
theorem x_154_216 : decode (q_code 154) 216 = .ok (.getfield 230, 3) := by decide +kernel
theorem x_154_219 : decode (q_code 154) 219 = .ok (.aload_n 0, 1) := by decide +kernel
theorem x_154_220 : decode (q_code 154) 220 = .ok (.getfield 27, 3) := by decide +kernel
theorem x_154_223 : decode (q_code 154) 223 = .ok (.getfield 231, 3) := by decide +kernel
theorem x_154_226 : decode (q_code 154) 226 = .ok (.iload 7, 2) := by decide +kernel
theorem x_154_228 : decode (q_code 154) 228 = .ok (.iaload, 1) := by decide +kernel
theorem x_154_229 : decode (q_code 154) 229 = .ok (.aload_n 0, 1) := by decide +kernel
theorem x_154_230 : decode (q_code 154) 230 = .ok (.getfield 27, 3) := by decide +kernel
theorem x_154_233 : decode (q_code 154) 233 = .ok (.getfield 234, 3) := by decide +kernel
theorem x_154_236 : decode (q_code 154) 236 = .ok (.iload 7, 2) := by decide +kernel
theorem x_154_238 : decode (q_code 154) 238 = .ok (.iaload, 1) := by decide +kernel
theorem x_154_239 : decode (q_code 154) 239 = .ok (.invokestatic 237, 3) := by decide +kernel
theorem x_154_242 : decode (q_code 154) 242 = .ok (.istore 6, 2) := by decide +kernel
theorem x_154_244 : decode (q_code 154) 244 = .ok (.iinc 7 1, 3) := by decide +kernel
theorem x_154_247 : decode (q_code 154) 247 = .ok (.goto (-95), 3) := by decide +kernel
theorem x_154_250 : decode (q_code 154) 250 = .ok (.aload_n 0, 1) := by decide +kernel
theorem x_154_251 : decode (q_code 154) 251 = .ok (.iload 4, 2) := by decide +kernel
theorem x_154_253 : decode (q_code 154) 253 = .ok (.iconst 2, 1) := by decide +kernel
theorem x_154_254 : decode (q_code 154) 254 = .ok (.iadd, 1) := by decide +kernel
theorem x_154_255 : decode (q_code 154) 255 = .ok (.invokevirtual 192, 3) := by decide +kernel
theorem x_154_258 : decode (q_code 154) 258 = .ok (.return_, 1) := by decide +kernel
theorem x_155_0 : decode (q_code 155) 0 = .ok (.aload_n 0, 1) := by decide +kernel
theorem x_155_1 : decode (q_code 155) 1 = .ok (.iload_n 1, 1) := by decide +kernel
theorem x_155_2 : decode (q_code 155) 2 = .ok (.ldc_w 289, 3) := by decide +kernel
theorem x_155_5 : decode (q_code 155) 5 = .ok (.invokestatic 110, 3) := by decide +kernel
theorem x_155_8 : decode (q_code 155) 8 = .ok (.ifCond .eq 7, 3) := by decide +kernel
theorem x_155_11 : decode (q_code 155) 11 = .ok (.iconst 1, 1) := by decide +kernel
theorem x_155_12 : decode (q_code 155) 12 = .ok (.goto 112, 3) := by decide +kernel
theorem x_155_15 : decode (q_code 155) 15 = .ok (.aload_n 0, 1) := by decide +kernel
theorem x_155_16 : decode (q_code 155) 16 = .ok (.iload_n 1, 1) := by decide +kernel
theorem x_155_17 : decode (q_code 155) 17 = .ok (.ldc_w 291, 3) := by decide +kernel
theorem x_155_20 : decode (q_code 155) 20 = .ok (.invokestatic 110, 3) := by decide +kernel
theorem x_155_23 : decode (q_code 155) 23 = .ok (.ifCond .eq 7, 3) := by decide +kernel
theorem x_155_26 : decode (q_code 155) 26 = .ok (.iconst 2, 1) := by decide +kernel
theorem x_155_27 : decode (q_code 155) 27 = .ok (.goto 97, 3) := by decide +kernel
theorem x_155_30 : decode (q_code 155) 30 = .ok (.aload_n 0, 1) := by decide +kernel
theorem x_155_31 : decode (q_code 155) 31 = .ok (.iload_n 1, 1) := by decide +kernel
theorem x_155_32 : decode (q_code 155) 32 = .ok (.ldc_w 293, 3) := by decide +kernel
theorem x_155_35 : decode (q_code 155) 35 = .ok (.invokestatic 110, 3) := by decide +kernel
theorem x_155_38 : decode (q_code 155) 38 = .ok (.ifCond .eq 7, 3) := by decide +kernel
theorem x_155_41 : decode (q_code 155) 41 = .ok (.iconst 3, 1) := by decide +kernel
theorem x_155_42 : decode (q_code 155) 42 = .ok (.goto 82, 3) := by decide +kernel
theorem x_155_45 : decode (q_code 155) 45 = .ok (.aload_n 0, 1) := by decide +kernel
theorem x_155_46 : decode (q_code 155) 46 = .ok (.iload_n 1, 1) := by decide +kernel
theorem x_155_47 : decode (q_code 155) 47 = .ok (.ldc_w 295, 3) := by decide +kernel
theorem x_155_50 : decode (q_code 155) 50 = .ok (.invokestatic 110, 3) := by decide +kernel
theorem x_155_53 : decode (q_code 155) 53 = .ok (.ifCond .eq 7, 3) := by decide +kernel
theorem x_155_56 : decode (q_code 155) 56 = .ok (.iconst 4, 1) := by decide +kernel
theorem x_155_57 : decode (q_code 155) 57 = .ok (.goto 67, 3) := by decide +kernel
theorem x_155_60 : decode (q_code 155) 60 = .ok (.aload_n 0, 1) := by decide +kernel
theorem x_155_61 : decode (q_code 155) 61 = .ok (.iload_n 1, 1) := by decide +kernel
theorem x_155_62 : decode (q_code 155) 62 = .ok (.ldc_w 297, 3) := by decide +kernel
theorem x_155_65 : decode (q_code 155) 65 = .ok (.invokestatic 110, 3) := by decide +kernel
theorem x_155_68 : decode (q_code 155) 68 = .ok (.ifCond .eq 7, 3) := by decide +kernel
theorem x_155_71 : decode (q_code 155) 71 = .ok (.iconst 5, 1) := by decide +kernel
theorem x_155_72 : decode (q_code 155) 72 = .ok (.goto 52, 3) := by decide +kernel
theorem x_155_75 : decode (q_code 155) 75 = .ok (.aload_n 0, 1) := by decide +kernel
theorem x_155_76 : decode (q_code 155) 76 = .ok (.iload_n 1, 1) := by decide +kernel
theorem x_155_77 : decode (q_code 155) 77 = .ok (.ldc_w 299, 3) := by decide +kernel
theorem x_155_80 : decode (q_code 155) 80 = .ok (.invokestatic 110, 3) := by decide +kernel
theorem x_155_83 : decode (q_code 155) 83 = .ok (.ifCond .eq 8, 3) := by decide +kernel
theorem x_155_86 : decode (q_code 155) 86 = .ok (.bipush 6, 2) := by decide +kernel
theorem x_155_88 : decode (q_code 155) 88 = .ok (.goto 36, 3) := by decide +kernel
theorem x_155_91 : decode (q_code 155) 91 = .ok (.aload_n 0, 1) := by decide +kernel
theorem x_155_92 : decode (q_code 155) 92 = .ok (.iload_n 1, 1) := by decide +kernel
theorem x_155_93 : decode (q_code 155) 93 = .ok (.ldc_w 301, 3) := by decide +kernel
theorem x_155_96 : decode (q_code 155) 96 = .ok (.invokestatic 110, 3) := by decide +kernel
theorem x_155_99 : decode (q_code 155) 99 = .ok (.ifCond .eq 8, 3) := by decide +kernel
theorem x_155_102 : decode (q_code 155) 102 = .ok (.bipush 7, 2) := by decide +kernel
theorem x_155_104 : decode (q_code 155) 104 = .ok (.goto 20, 3) := by decide +kernel
theorem x_155_107 : decode (q_code 155) 107 = .ok (.aload_n 0, 1) := by decide +kernel
theorem x_155_108 : decode (q_code 155) 108 = .ok (.iload_n 1, 1) := by decide +kernel
theorem x_155_109 : decode (q_code 155) 109 = .ok (.ldc_w 303, 3) := by decide +kernel
theorem x_155_112 : decode (q_code 155) 112 = .ok (.invokestatic 110, 3) := by decide +kernel
theorem x_155_115 : decode (q_code 155) 115 = .ok (.ifCond .eq 8, 3) := by decide +kernel
theorem x_155_118 : decode (q_code 155) 118 = .ok (.bipush 8, 2) := by decide +kernel
theorem x_155_120 : decode (q_code 155) 120 = .ok (.goto 4, 3) := by decide +kernel
theorem x_155_123 : decode (q_code 155) 123 = .ok (.iconst 0, 1) := by decide +kernel
theorem x_155_124 : decode (q_code 155) 124 = .ok (.ireturn, 1) := by decide +kernel
theorem x_156_0 : decode (q_code 156) 0 = .ok (.aload_n 0, 1) := by decide +kernel
theorem x_156_1 : decode (q_code 156) 1 = .ok (.getfield 21, 3) := by decide +kernel
theorem x_156_4 : decode (q_code 156) 4 = .ok (.iload_n 1, 1) := by decide +kernel
theorem x_156_5 : decode (q_code 156) 5 = .ok (.invokestatic 101, 3) := by decide +kernel
theorem x_156_8 : decode (q_code 156) 8 = .ok (.istore_n 2, 1) := by decide +kernel
theorem x_156_9 : decode (q_code 156) 9 = .ok (.aload_n 0, 1) := by decide +kernel
theorem x_156_10 : decode (q_code 156) 10 = .ok (.getfield 21, 3) := by decide +kernel
theorem x_156_13 : decode (q_code 156) 13 = .ok (.iload_n 1, 1) := by decide +kernel
theorem x_156_14 : decode (q_code 156) 14 = .ok (.invokestatic 105, 3) := by decide +kernel
theorem x_156_17 : decode (q_code 156) 17 = .ok (.iconst 3, 1) := by decide +kernel
theorem x_156_18 : decode (q_code 156) 18 = .ok (.if_icmp .ne 28, 3) := by decide +kernel
theorem x_156_21 : decode (q_code 156) 21 = .ok (.aload_n 0, 1) := by decide +kernel
theorem x_156_22 : decode (q_code 156) 22 = .ok (.getfield 21, 3) := by decide +kernel
theorem x_156_25 : decode (q_code 156) 25 = .ok (.iload_n 2, 1) := by decide +kernel
theorem x_156_26 : decode (q_code 156) 26 = .ok (.invokestatic 105, 3) := by decide +kernel
theorem x_156_29 : decode (q_code 156) 29 = .ok (.ifCond .eq 17, 3) := by decide +kernel
theorem x_156_32 : decode (q_code 156) 32 = .ok (.aload_n 0, 1) := by decide +kernel
theorem x_156_33 : decode (q_code 156) 33 = .ok (.getfield 21, 3) := by decide +kernel
theorem x_156_36 : decode (q_code 156) 36 = .ok (.iload_n 2, 1) := by decide +kernel
theorem x_156_37 : decode (q_code 156) 37 = .ok (.ldc_w 305, 3) := by decide +kernel
theorem x_156_40 : decode (q_code 156) 40 = .ok (.invokestatic 110, 3) := by decide +kernel
theorem x_156_43 : decode (q_code 156) 43 = .ok (.ifCond .ne 5, 3) := by decide +kernel
theorem x_156_46 : decode (q_code 156) 46 = .ok (.iconst 2, 1) := by decide +kernel
theorem x_156_47 : decode (q_code 156) 47 = .ok (.ireturn, 1) := by decide +kernel
theorem x_156_48 : decode (q_code 156) 48 = .ok (.aload_n 0, 1) := by decide +kernel
theorem x_156_49 : decode (q_code 156) 49 = .ok (.iload_n 2, 1) := by decide +kernel
theorem x_156_50 : decode (q_code 156) 50 = .ok (.invokevirtual 252, 3) := by decide +kernel
theorem x_156_53 : decode (q_code 156) 53 = .ok (.ifCond .eq 5, 3) := by decide +kernel
theorem x_156_56 : decode (q_code 156) 56 = .ok (.iconst 3, 1) := by decide +kernel
theorem x_156_57 : decode (q_code 156) 57 = .ok (.ireturn, 1) := by decide +kernel
theorem x_156_58 : decode (q_code 156) 58 = .ok (.aload_n 0, 1) := by decide +kernel
theorem x_156_59 : decode (q_code 156) 59 = .ok (.getfield 21, 3) := by decide +kernel
theorem x_156_62 : decode (q_code 156) 62 = .ok (.iload_n 2, 1) := by decide +kernel
theorem x_156_63 : decode (q_code 156) 63 = .ok (.invokestatic 114, 3) := by decide +kernel
theorem x_156_66 : decode (q_code 156) 66 = .ok (.istore_n 2, 1) := by decide +kernel
theorem x_156_67 : decode (q_code 156) 67 = .ok (.iconst 0, 1) := by decide +kernel
theorem x_156_68 : decode (q_code 156) 68 = .ok (.istore_n 3, 1) := by decide +kernel
theorem x_156_69 : decode (q_code 156) 69 = .ok (.iload_n 3, 1) := by decide +kernel
theorem x_156_70 : decode (q_code 156) 70 = .ok (.sipush 2000, 3) := by decide +kernel
theorem x_156_73 : decode (q_code 156) 73 = .ok (.if_icmp .ge 141, 3) := by decide +kernel
theorem x_156_76 : decode (q_code 156) 76 = .ok (.aload_n 0, 1) := by decide +kernel
theorem x_156_77 : decode (q_code 156) 77 = .ok (.getfield 21, 3) := by decide +kernel
theorem x_156_80 : decode (q_code 156) 80 = .ok (.iload_n 2, 1) := by decide +kernel
theorem x_156_81 : decode (q_code 156) 81 = .ok (.invokestatic 105, 3) := by decide +kernel
theorem x_156_84 : decode (q_code 156) 84 = .ok (.ifCond .eq 130, 3) := by decide +kernel
theorem x_156_87 : decode (q_code 156) 87 = .ok (.aload_n 0, 1) := by decide +kernel
theorem x_156_88 : decode (q_code 156) 88 = .ok (.getfield 21, 3) := by decide +kernel
theorem x_156_91 : decode (q_code 156) 91 = .ok (.iload_n 2, 1) := by decide +kernel
theorem x_156_92 : decode (q_code 156) 92 = .ok (.invokestatic 101, 3) := by decide +kernel
theorem x_156_95 : decode (q_code 156) 95 = .ok (.istore 4, 2) := by decide +kernel
theorem x_156_97 : decode (q_code 156) 97 = .ok (.aload_n 0, 1) := by decide +kernel
theorem x_156_98 : decode (q_code 156) 98 = .ok (.iload_n 2, 1) := by decide +kernel
theorem x_156_99 : decode (q_code 156) 99 = .ok (.invokevirtual 249, 3) := by decide +kernel
theorem x_156_102 : decode (q_code 156) 102 = .ok (.ifCond .eq 46, 3) := by decide +kernel
theorem x_156_105 : decode (q_code 156) 105 = .ok (.aload_n 0, 1) := by decide +kernel
theorem x_156_106 : decode (q_code 156) 106 = .ok (.getfield 21, 3) := by decide +kernel
theorem x_156_109 : decode (q_code 156) 109 = .ok (.iload_n 2, 1) := by decide +kernel
theorem x_156_110 : decode (q_code 156) 110 = .ok (.invokestatic 105, 3) := by decide +kernel
theorem x_156_113 : decode (q_code 156) 113 = .ok (.iconst 3, 1) := by decide +kernel
theorem x_156_114 : decode (q_code 156) 114 = .ok (.if_icmp .ne 34, 3) := by decide +kernel
theorem x_156_117 : decode (q_code 156) 117 = .ok (.aload_n 0, 1) := by decide +kernel
theorem x_156_118 : decode (q_code 156) 118 = .ok (.getfield 21, 3) := by decide +kernel
theorem x_156_121 : decode (q_code 156) 121 = .ok (.iload 4, 2) := by decide +kernel
theorem x_156_123 : decode (q_code 156) 123 = .ok (.invokestatic 105, 3) := by decide +kernel
theorem x_156_126 : decode (q_code 156) 126 = .ok (.ifCond .eq 22, 3) := by decide +kernel
theorem x_156_129 : decode (q_code 156) 129 = .ok (.aload_n 0, 1) := by decide +kernel
theorem x_156_130 : decode (q_code 156) 130 = .ok (.getfield 21, 3) := by decide +kernel
theorem x_156_133 : decode (q_code 156) 133 = .ok (.aload_n 0, 1) := by decide +kernel
theorem x_156_134 : decode (q_code 156) 134 = .ok (.getfield 21, 3) := by decide +kernel
theorem x_156_137 : decode (q_code 156) 137 = .ok (.iload 4, 2) := by decide +kernel
theorem x_156_139 : decode (q_code 156) 139 = .ok (.invokestatic 114, 3) := by decide +kernel
theorem x_156_142 : decode (q_code 156) 142 = .ok (.invokestatic 105, 3) := by decide +kernel
theorem x_156_145 : decode (q_code 156) 145 = .ok (.ifCond .eq 5, 3) := by decide +kernel
theorem x_156_148 : decode (q_code 156) 148 = .ok (.iconst 2, 1) := by decide +kernel
theorem x_156_149 : decode (q_code 156) 149 = .ok (.ireturn, 1) := by decide +kernel
theorem x_156_150 : decode (q_code 156) 150 = .ok (.aload_n 0, 1) := by decide +kernel
theorem x_156_151 : decode (q_code 156) 151 = .ok (.getfield 21, 3) := by decide +kernel
theorem x_156_154 : decode (q_code 156) 154 = .ok (.iload 4, 2) := by decide +kernel
theorem x_156_156 : decode (q_code 156) 156 = .ok (.invokestatic 307, 3) := by decide +kernel
theorem x_156_159 : decode (q_code 156) 159 = .ok (.istore 5, 2) := by decide +kernel
theorem x_156_161 : decode (q_code 156) 161 = .ok (.iload 5, 2) := by decide +kernel
theorem x_156_163 : decode (q_code 156) 163 = .ok (.ifCond .eq 23, 3) := by decide +kernel
theorem x_156_166 : decode (q_code 156) 166 = .ok (.iload 5, 2) := by decide +kernel
theorem x_156_168 : decode (q_code 156) 168 = .ok (.iconst 1, 1) := by decide +kernel
theorem x_156_169 : decode (q_code 156) 169 = .ok (.if_icmp .ne 19, 3) := by decide +kernel
theorem x_156_172 : decode (q_code 156) 172 = .ok (.aload_n 0, 1) := by decide +kernel
theorem x_156_173 : decode (q_code 156) 173 = .ok (.getfield 21, 3) := by decide +kernel
theorem x_156_176 : decode (q_code 156) 176 = .ok (.iload 4, 2) := by decide +kernel
theorem x_156_178 : decode (q_code 156) 178 = .ok (.invokestatic 105, 3) := by decide +kernel
theorem x_156_181 : decode (q_code 156) 181 = .ok (.bipush 10, 2) := by decide +kernel
theorem x_156_183 : decode (q_code 156) 183 = .ok (.if_icmp .eq 5, 3) := by decide +kernel
theorem x_156_186 : decode (q_code 156) 186 = .ok (.iconst 2, 1) := by decide +kernel
theorem x_156_187 : decode (q_code 156) 187 = .ok (.ireturn, 1) := by decide +kernel
theorem x_156_188 : decode (q_code 156) 188 = .ok (.aload_n 0, 1) := by decide +kernel
theorem x_156_189 : decode (q_code 156) 189 = .ok (.iload 4, 2) := by decide +kernel
theorem x_156_191 : decode (q_code 156) 191 = .ok (.invokevirtual 252, 3) := by decide +kernel
theorem x_156_194 : decode (q_code 156) 194 = .ok (.ifCond .eq 5, 3) := by decide +kernel
theorem x_156_197 : decode (q_code 156) 197 = .ok (.iconst 3, 1) := by decide +kernel
theorem x_156_198 : decode (q_code 156) 198 = .ok (.ireturn, 1) := by decide +kernel
theorem x_156_199 : decode (q_code 156) 199 = .ok (.aload_n 0, 1) := by decide +kernel
theorem x_156_200 : decode (q_code 156) 200 = .ok (.getfield 21, 3) := by decide +kernel
theorem x_156_203 : decode (q_code 156) 203 = .ok (.iload_n 2, 1) := by decide +kernel
theorem x_156_204 : decode (q_code 156) 204 = .ok (.invokestatic 114, 3) := by decide +kernel
theorem x_156_207 : decode (q_code 156) 207 = .ok (.istore_n 2, 1) := by decide +kernel
theorem x_156_208 : decode (q_code 156) 208 = .ok (.iinc 3 1, 3) := by decide +kernel
theorem x_156_211 : decode (q_code 156) 211 = .ok (.goto (-142), 3) := by decide +kernel
theorem x_156_214 : decode (q_code 156) 214 = .ok (.iconst 0, 1) := by decide +kernel
theorem x_156_215 : decode (q_code 156) 215 = .ok (.ireturn, 1) := by decide +kernel
theorem x_157_0 : decode (q_code 157) 0 = .ok (.aload_n 0, 1) := by decide +kernel
theorem x_157_1 : decode (q_code 157) 1 = .ok (.iload_n 1, 1) := by decide +kernel
theorem x_157_2 : decode (q_code 157) 2 = .ok (.invokevirtual 310, 3) := by decide +kernel
theorem x_157_5 : decode (q_code 157) 5 = .ok (.istore_n 2, 1) := by decide +kernel
theorem x_157_6 : decode (q_code 157) 6 = .ok (.iload_n 2, 1) := by decide +kernel
theorem x_157_7 : decode (q_code 157) 7 = .ok (.ifCond .eq 5, 3) := by decide +kernel
theorem x_157_10 : decode (q_code 157) 10 = .ok (.iload_n 2, 1) := by decide +kernel
theorem x_157_11 : decode (q_code 157) 11 = .ok (.ireturn, 1) := by decide +kernel
theorem x_157_12 : decode (q_code 157) 12 = .ok (.aload_n 0, 1) := by decide +kernel
theorem x_157_13 : decode (q_code 157) 13 = .ok (.invokevirtual 258, 3) := by decide +kernel
theorem x_157_16 : decode (q_code 157) 16 = .ok (.aload_n 0, 1) := by decide +kernel
theorem x_157_17 : decode (q_code 157) 17 = .ok (.getfield 21, 3) := by decide +kernel
theorem x_157_20 : decode (q_code 157) 20 = .ok (.iload_n 1, 1) := by decide +kernel
theorem x_157_21 : decode (q_code 157) 21 = .ok (.invokestatic 101, 3) := by decide +kernel
theorem x_157_24 : decode (q_code 157) 24 = .ok (.istore_n 3, 1) := by decide +kernel
theorem x_157_25 : decode (q_code 157) 25 = .ok (.iconst 0, 1) := by decide +kernel
theorem x_157_26 : decode (q_code 157) 26 = .ok (.istore 4, 2) := by decide +kernel
theorem x_157_28 : decode (q_code 157) 28 = .ok (.iload 4, 2) := by decide +kernel
theorem x_157_30 : decode (q_code 157) 30 = .ok (.aload_n 0, 1) := by decide +kernel
theorem x_157_31 : decode (q_code 157) 31 = .ok (.getfield 84, 3) := by decide +kernel
theorem x_157_34 : decode (q_code 157) 34 = .ok (.if_icmp .ge 119, 3) := by decide +kernel
theorem x_157_37 : decode (q_code 157) 37 = .ok (.aload_n 0, 1) := by decide +kernel
theorem x_157_38 : decode (q_code 157) 38 = .ok (.iload_n 3, 1) := by decide +kernel
theorem x_157_39 : decode (q_code 157) 39 = .ok (.aload_n 0, 1) := by decide +kernel
theorem x_157_40 : decode (q_code 157) 40 = .ok (.getfield 48, 3) := by decide +kernel
theorem x_157_43 : decode (q_code 157) 43 = .ok (.iload 4, 2) := by decide +kernel
theorem x_157_45 : decode (q_code 157) 45 = .ok (.iaload, 1) := by decide +kernel
theorem x_157_46 : decode (q_code 157) 46 = .ok (.invokevirtual 267, 3) := by decide +kernel
theorem x_157_49 : decode (q_code 157) 49 = .ok (.istore 5, 2) := by decide +kernel
theorem x_157_51 : decode (q_code 157) 51 = .ok (.aload_n 0, 1) := by decide +kernel
theorem x_157_52 : decode (q_code 157) 52 = .ok (.getfield 55, 3) := by decide +kernel
theorem x_157_55 : decode (q_code 157) 55 = .ok (.iload 4, 2) := by decide +kernel
theorem x_157_57 : decode (q_code 157) 57 = .ok (.iload 5, 2) := by decide +kernel
theorem x_157_59 : decode (q_code 157) 59 = .ok (.ifCond .ge 7, 3) := by decide +kernel
theorem x_157_62 : decode (q_code 157) 62 = .ok (.iconst 0, 1) := by decide +kernel
theorem x_157_63 : decode (q_code 157) 63 = .ok (.goto 5, 3) := by decide +kernel
theorem x_157_66 : decode (q_code 157) 66 = .ok (.iload 5, 2) := by decide +kernel
theorem x_157_68 : decode (q_code 157) 68 = .ok (.iastore, 1) := by decide +kernel
theorem x_157_69 : decode (q_code 157) 69 = .ok (.aload_n 0, 1) := by decide +kernel
theorem x_157_70 : decode (q_code 157) 70 = .ok (.getfield 58, 3) := by decide +kernel
theorem x_157_73 : decode (q_code 157) 73 = .ok (.iload 4, 2) := by decide +kernel
theorem x_157_75 : decode (q_code 157) 75 = .ok (.iload 4, 2) := by decide +kernel
theorem x_157_77 : decode (q_code 157) 77 = .ok (.iastore, 1) := by decide +kernel
theorem x_157_78 : decode (q_code 157) 78 = .ok (.iconst 0, 1) := by decide +kernel
theorem x_157_79 : decode (q_code 157) 79 = .ok (.istore 6, 2) := by decide +kernel
theorem x_157_81 : decode (q_code 157) 81 = .ok (.iload 6, 2) := by decide +kernel
theorem x_157_83 : decode (q_code 157) 83 = .ok (.iload 4, 2) := by decide +kernel
theorem x_157_85 : decode (q_code 157) 85 = .ok (.if_icmp .ge 62, 3) := by decide +kernel
theorem x_157_88 : decode (q_code 157) 88 = .ok (.aload_n 0, 1) := by decide +kernel
theorem x_157_89 : decode (q_code 157) 89 = .ok (.getfield 58, 3) := by decide +kernel
theorem x_157_92 : decode (q_code 157) 92 = .ok (.iload 6, 2) := by decide +kernel
theorem x_157_94 : decode (q_code 157) 94 = .ok (.iaload, 1) := by decide +kernel
theorem x_157_95 : decode (q_code 157) 95 = .ok (.iload 6, 2) := by decide +kernel
theorem x_157_97 : decode (q_code 157) 97 = .ok (.if_icmp .ne 44, 3) := by decide +kernel
theorem x_157_100 : decode (q_code 157) 100 = .ok (.aload_n 0, 1) := by decide +kernel
theorem x_157_101 : decode (q_code 157) 101 = .ok (.getfield 21, 3) := by decide +kernel
theorem x_157_104 : decode (q_code 157) 104 = .ok (.aload_n 0, 1) := by decide +kernel
theorem x_157_105 : decode (q_code 157) 105 = .ok (.getfield 55, 3) := by decide +kernel
theorem x_157_108 : decode (q_code 157) 108 = .ok (.iload 6, 2) := by decide +kernel
theorem x_157_110 : decode (q_code 157) 110 = .ok (.iaload, 1) := by decide +kernel
theorem x_157_111 : decode (q_code 157) 111 = .ok (.aload_n 0, 1) := by decide +kernel
theorem x_157_112 : decode (q_code 157) 112 = .ok (.getfield 21, 3) := by decide +kernel
theorem x_157_115 : decode (q_code 157) 115 = .ok (.aload_n 0, 1) := by decide +kernel
theorem x_157_116 : decode (q_code 157) 116 = .ok (.getfield 55, 3) := by decide +kernel
theorem x_157_119 : decode (q_code 157) 119 = .ok (.iload 4, 2) := by decide +kernel
theorem x_157_121 : decode (q_code 157) 121 = .ok (.iaload, 1) := by decide +kernel
theorem x_157_122 : decode (q_code 157) 122 = .ok (.iconst 0, 1) := by decide +kernel
theorem x_157_123 : decode (q_code 157) 123 = .ok (.invokestatic 313, 3) := by decide +kernel
theorem x_157_126 : decode (q_code 157) 126 = .ok (.ifCond .ne 15, 3) := by decide +kernel
theorem x_157_129 : decode (q_code 157) 129 = .ok (.aload_n 0, 1) := by decide +kernel
theorem x_157_130 : decode (q_code 157) 130 = .ok (.getfield 58, 3) := by decide +kernel
theorem x_157_133 : decode (q_code 157) 133 = .ok (.iload 4, 2) := by decide +kernel
theorem x_157_135 : decode (q_code 157) 135 = .ok (.iload 6, 2) := by decide +kernel
theorem x_157_137 : decode (q_code 157) 137 = .ok (.iastore, 1) := by decide +kernel
theorem x_157_138 : decode (q_code 157) 138 = .ok (.goto 9, 3) := by decide +kernel
theorem x_157_141 : decode (q_code 157) 141 = .ok (.iinc 6 1, 3) := by decide +kernel
theorem x_157_144 : decode (q_code 157) 144 = .ok (.goto (-63), 3) := by decide +kernel
theorem x_157_147 : decode (q_code 157) 147 = .ok (.iinc 4 1, 3) := by decide +kernel
theorem x_157_150 : decode (q_code 157) 150 = .ok (.goto (-122), 3) := by decide +kernel
theorem x_157_153 : decode (q_code 157) 153 = .ok (.aload_n 0, 1) := by decide +kernel
theorem x_157_154 : decode (q_code 157) 154 = .ok (.getfield 45, 3) := by decide +kernel
theorem x_157_157 : decode (q_code 157) 157 = .ok (.getfield 195, 3) := by decide +kernel
theorem x_157_160 : decode (q_code 157) 160 = .ok (.istore 4, 2) := by decide +kernel
theorem x_157_162 : decode (q_code 157) 162 = .ok (.iconst 0, 1) := by decide +kernel
theorem x_157_163 : decode (q_code 157) 163 = .ok (.istore 5, 2) := by decide +kernel
theorem x_157_165 : decode (q_code 157) 165 = .ok (.iload 5, 2) := by decide +kernel
theorem x_157_167 : decode (q_code 157) 167 = .ok (.aload_n 0, 1) := by decide +kernel
theorem x_157_168 : decode (q_code 157) 168 = .ok (.getfield 84, 3) := by decide +kernel
theorem x_157_171 : decode (q_code 157) 171 = .ok (.if_icmp .ge 209, 3) := by decide +kernel
theorem x_157_174 : decode (q_code 157) 174 = .ok (.aload_n 0, 1) := by decide +kernel
theorem x_157_175 : decode (q_code 157) 175 = .ok (.getfield 58, 3) := by decide +kernel
theorem x_157_178 : decode (q_code 157) 178 = .ok (.iload 5, 2) := by decide +kernel
theorem x_157_180 : decode (q_code 157) 180 = .ok (.iaload, 1) := by decide +kernel
theorem x_157_181 : decode (q_code 157) 181 = .ok (.iload 5, 2) := by decide +kernel
theorem x_157_183 : decode (q_code 157) 183 = .ok (.if_icmp .eq 6, 3) := by decide +kernel
theorem x_157_186 : decode (q_code 157) 186 = .ok (.goto 188, 3) := by decide +kernel
theorem x_157_189 : decode (q_code 157) 189 = .ok (.aload_n 0, 1) := by decide +kernel
theorem x_157_190 : decode (q_code 157) 190 = .ok (.invokevirtual 261, 3) := by decide +kernel
theorem x_157_193 : decode (q_code 157) 193 = .ok (.istore 6, 2) := by decide +kernel
theorem x_157_195 : decode (q_code 157) 195 = .ok (.aload_n 0, 1) := by decide +kernel
theorem x_157_196 : decode (q_code 157) 196 = .ok (.getfield 40, 3) := by decide +kernel
theorem x_157_199 : decode (q_code 157) 199 = .ok (.aload_n 0, 1) := by decide +kernel
theorem x_157_200 : decode (q_code 157) 200 = .ok (.getfield 21, 3) := by decide +kernel
theorem x_157_203 : decode (q_code 157) 203 = .ok (.aload_n 0, 1) := by decide +kernel
theorem x_157_204 : decode (q_code 157) 204 = .ok (.getfield 55, 3) := by decide +kernel
theorem x_157_207 : decode (q_code 157) 207 = .ok (.iload 5, 2) := by decide +kernel
theorem x_157_209 : decode (q_code 157) 209 = .ok (.iaload, 1) := by decide +kernel
theorem x_157_210 : decode (q_code 157) 210 = .ok (.invokestatic 105, 3) := by decide +kernel
theorem x_157_213 : decode (q_code 157) 213 = .ok (.ldc_w 305, 3) := by decide +kernel
theorem x_157_216 : decode (q_code 157) 216 = .ok (.invokevirtual 316, 3) := by decide +kernel
theorem x_157_219 : decode (q_code 157) 219 = .ok (.aload_n 0, 1) := by decide +kernel
theorem x_157_220 : decode (q_code 157) 220 = .ok (.getfield 40, 3) := by decide +kernel
theorem x_157_223 : decode (q_code 157) 223 = .ok (.aload_n 0, 1) := by decide +kernel
theorem x_157_224 : decode (q_code 157) 224 = .ok (.getfield 21, 3) := by decide +kernel
theorem x_157_227 : decode (q_code 157) 227 = .ok (.aload_n 0, 1) := by decide +kernel
theorem x_157_228 : decode (q_code 157) 228 = .ok (.getfield 55, 3) := by decide +kernel
theorem x_157_231 : decode (q_code 157) 231 = .ok (.iload 5, 2) := by decide +kernel
theorem x_157_233 : decode (q_code 157) 233 = .ok (.iaload, 1) := by decide +kernel
theorem x_157_234 : decode (q_code 157) 234 = .ok (.invokevirtual 245, 3) := by decide +kernel
theorem x_157_237 : decode (q_code 157) 237 = .ok (.aload_n 0, 1) := by decide +kernel
theorem x_157_238 : decode (q_code 157) 238 = .ok (.getfield 21, 3) := by decide +kernel
theorem x_157_241 : decode (q_code 157) 241 = .ok (.iload_n 3, 1) := by decide +kernel
theorem x_157_242 : decode (q_code 157) 242 = .ok (.invokestatic 114, 3) := by decide +kernel
theorem x_157_245 : decode (q_code 157) 245 = .ok (.istore 7, 2) := by decide +kernel
theorem x_157_247 : decode (q_code 157) 247 = .ok (.iconst 0, 1) := by decide +kernel
theorem x_157_248 : decode (q_code 157) 248 = .ok (.istore 8, 2) := by decide +kernel
theorem x_157_250 : decode (q_code 157) 250 = .ok (.iload 8, 2) := by decide +kernel
theorem x_157_252 : decode (q_code 157) 252 = .ok (.sipush 2000, 3) := by decide +kernel
theorem x_157_255 : decode (q_code 157) 255 = .ok (.if_icmp .ge 113, 3) := by decide +kernel
theorem x_157_258 : decode (q_code 157) 258 = .ok (.aload_n 0, 1) := by decide +kernel
theorem x_157_259 : decode (q_code 157) 259 = .ok (.getfield 21, 3) := by decide +kernel
theorem x_157_262 : decode (q_code 157) 262 = .ok (.iload 7, 2) := by decide +kernel
theorem x_157_264 : decode (q_code 157) 264 = .ok (.invokestatic 105, 3) := by decide +kernel
theorem x_157_267 : decode (q_code 157) 267 = .ok (.ifCond .eq 101, 3) := by decide +kernel
theorem x_157_270 : decode (q_code 157) 270 = .ok (.aload_n 0, 1) := by decide +kernel
theorem x_157_271 : decode (q_code 157) 271 = .ok (.getfield 45, 3) := by decide +kernel
theorem x_157_274 : decode (q_code 157) 274 = .ok (.iload 4, 2) := by decide +kernel
theorem x_157_276 : decode (q_code 157) 276 = .ok (.putfield 195, 3) := by decide +kernel
theorem x_157_279 : decode (q_code 157) 279 = .ok (.iconst 0, 1) := by decide +kernel
theorem x_157_280 : decode (q_code 157) 280 = .ok (.istore 9, 2) := by decide +kernel
theorem x_157_282 : decode (q_code 157) 282 = .ok (.iload 5, 2) := by decide +kernel
theorem x_157_284 : decode (q_code 157) 284 = .ok (.istore 10, 2) := by decide +kernel
theorem x_157_286 : decode (q_code 157) 286 = .ok (.iload 10, 2) := by decide +kernel
theorem x_157_288 : decode (q_code 157) 288 = .ok (.aload_n 0, 1) := by decide +kernel
theorem x_157_289 : decode (q_code 157) 289 = .ok (.getfield 84, 3) := by decide +kernel
theorem x_157_292 : decode (q_code 157) 292 = .ok (.if_icmp .ge 51, 3) := by decide +kernel
theorem x_157_295 : decode (q_code 157) 295 = .ok (.aload_n 0, 1) := by decide +kernel
theorem x_157_296 : decode (q_code 157) 296 = .ok (.getfield 58, 3) := by decide +kernel
theorem x_157_299 : decode (q_code 157) 299 = .ok (.iload 10, 2) := by decide +kernel
theorem x_157_301 : decode (q_code 157) 301 = .ok (.iaload, 1) := by decide +kernel
theorem x_157_302 : decode (q_code 157) 302 = .ok (.iload 5, 2) := by decide +kernel
theorem x_157_304 : decode (q_code 157) 304 = .ok (.if_icmp .ne 33, 3) := by decide +kernel
theorem x_157_307 : decode (q_code 157) 307 = .ok (.aload_n 0, 1) := by decide +kernel
theorem x_157_308 : decode (q_code 157) 308 = .ok (.getfield 61, 3) := by decide +kernel
theorem x_157_311 : decode (q_code 157) 311 = .ok (.iload 9, 2) := by decide +kernel
theorem x_157_313 : decode (q_code 157) 313 = .ok (.aload_n 0, 1) := by decide +kernel
theorem x_157_314 : decode (q_code 157) 314 = .ok (.aload_n 0, 1) := by decide +kernel
theorem x_157_315 : decode (q_code 157) 315 = .ok (.getfield 21, 3) := by decide +kernel
theorem x_157_318 : decode (q_code 157) 318 = .ok (.iload 7, 2) := by decide +kernel
theorem x_157_320 : decode (q_code 157) 320 = .ok (.invokestatic 101, 3) := by decide +kernel
theorem x_157_323 : decode (q_code 157) 323 = .ok (.aload_n 0, 1) := by decide +kernel
theorem x_157_324 : decode (q_code 157) 324 = .ok (.getfield 48, 3) := by decide +kernel
theorem x_157_327 : decode (q_code 157) 327 = .ok (.iload 10, 2) := by decide +kernel
theorem x_157_329 : decode (q_code 157) 329 = .ok (.iaload, 1) := by decide +kernel
theorem x_157_330 : decode (q_code 157) 330 = .ok (.invokevirtual 267, 3) := by decide +kernel
theorem x_157_333 : decode (q_code 157) 333 = .ok (.iastore, 1) := by decide +kernel
theorem x_157_334 : decode (q_code 157) 334 = .ok (.iinc 9 1, 3) := by decide +kernel
theorem x_157_337 : decode (q_code 157) 337 = .ok (.iinc 10 1, 3) := by decide +kernel
theorem x_157_340 : decode (q_code 157) 340 = .ok (.goto (-54), 3) := by decide +kernel
theorem x_157_343 : decode (q_code 157) 343 = .ok (.aload_n 0, 1) := by decide +kernel
theorem x_157_344 : decode (q_code 157) 344 = .ok (.iload 7, 2) := by decide +kernel
theorem x_157_346 : decode (q_code 157) 346 = .ok (.iload 9, 2) := by decide +kernel
theorem x_157_348 : decode (q_code 157) 348 = .ok (.invokevirtual 320, 3) := by decide +kernel
theorem x_157_351 : decode (q_code 157) 351 = .ok (.aload_n 0, 1) := by decide +kernel
theorem x_157_352 : decode (q_code 157) 352 = .ok (.getfield 21, 3) := by decide +kernel
theorem x_157_355 : decode (q_code 157) 355 = .ok (.iload 7, 2) := by decide +kernel
theorem x_157_357 : decode (q_code 157) 357 = .ok (.invokestatic 114, 3) := by decide +kernel
theorem x_157_360 : decode (q_code 157) 360 = .ok (.istore 7, 2) := by decide +kernel
theorem x_157_362 : decode (q_code 157) 362 = .ok (.iinc 8 1, 3) := by decide +kernel
theorem x_157_365 : decode (q_code 157) 365 = .ok (.goto (-115), 3) := by decide +kernel
theorem x_157_368 : decode (q_code 157) 368 = .ok (.aload_n 0, 1) := by decide +kernel
theorem x_157_369 : decode (q_code 157) 369 = .ok (.iload 6, 2) := by decide +kernel
theorem x_157_371 : decode (q_code 157) 371 = .ok (.invokevirtual 274, 3) := by decide +kernel
theorem x_157_374 : decode (q_code 157) 374 = .ok (.iinc 5 1, 3) := by decide +kernel
theorem x_157_377 : decode (q_code 157) 377 = .ok (.goto (-212), 3) := by decide +kernel
theorem x_157_380 : decode (q_code 157) 380 = .ok (.aload_n 0, 1) := by decide +kernel
theorem x_157_381 : decode (q_code 157) 381 = .ok (.getfield 178, 3) := by decide +kernel
theorem x_157_384 : decode (q_code 157) 384 = .ok (.ifCond .eq 7, 3) := by decide +kernel
theorem x_157_387 : decode (q_code 157) 387 = .ok (.iconst 4, 1) := by decide +kernel
theorem x_157_388 : decode (q_code 157) 388 = .ok (.goto 7, 3) := by decide +kernel
theorem x_157_391 : decode (q_code 157) 391 = .ok (.aload_n 0, 1) := by decide +kernel
theorem x_157_392 : decode (q_code 157) 392 = .ok (.invokevirtual 277, 3) := by decide +kernel
theorem x_157_395 : decode (q_code 157) 395 = .ok (.ireturn, 1) := by decide +kernel
theorem x_158_0 : decode (q_code 158) 0 = .ok (.aload_n 0, 1) := by decide +kernel
theorem x_158_1 : decode (q_code 158) 1 = .ok (.getfield 21, 3) := by decide +kernel
theorem x_158_4 : decode (q_code 158) 4 = .ok (.aload_n 0, 1) := by decide +kernel
theorem x_158_5 : decode (q_code 158) 5 = .ok (.getfield 21, 3) := by decide +kernel
theorem x_158_8 : decode (q_code 158) 8 = .ok (.iload_n 1, 1) := by decide +kernel
theorem x_158_9 : decode (q_code 158) 9 = .ok (.invokestatic 101, 3) := by decide +kernel
theorem x_158_12 : decode (q_code 158) 12 = .ok (.invokestatic 307, 3) := by decide +kernel
theorem x_158_15 : decode (q_code 158) 15 = .ok (.istore_n 3, 1) := by decide +kernel
theorem x_158_16 : decode (q_code 158) 16 = .ok (.iload_n 1, 1) := by decide +kernel
theorem x_158_17 : decode (q_code 158) 17 = .ok (.iconst 1, 1) := by decide +kernel
theorem x_158_18 : decode (q_code 158) 18 = .ok (.iadd, 1) := by decide +kernel
theorem x_158_19 : decode (q_code 158) 19 = .ok (.istore 4, 2) := by decide +kernel
theorem x_158_21 : decode (q_code 158) 21 = .ok (.aload_n 0, 1) := by decide +kernel
theorem x_158_22 : decode (q_code 158) 22 = .ok (.getfield 21, 3) := by decide +kernel
theorem x_158_25 : decode (q_code 158) 25 = .ok (.iload_n 1, 1) := by decide +kernel
theorem x_158_26 : decode (q_code 158) 26 = .ok (.invokestatic 205, 3) := by decide +kernel
theorem x_158_29 : decode (q_code 158) 29 = .ok (.iconst 1, 1) := by decide +kernel
theorem x_158_30 : decode (q_code 158) 30 = .ok (.isub, 1) := by decide +kernel
theorem x_158_31 : decode (q_code 158) 31 = .ok (.istore 5, 2) := by decide +kernel
theorem x_158_33 : decode (q_code 158) 33 = .ok (.iload_n 3, 1) := by decide +kernel
theorem x_158_34 : decode (q_code 158) 34 = .ok (.iconst 1, 1) := by decide +kernel
theorem x_158_35 : decode (q_code 158) 35 = .ok (.if_icmp .eq 8, 3) := by decide +kernel
theorem x_158_38 : decode (q_code 158) 38 = .ok (.iload_n 3, 1) := by decide +kernel
theorem x_158_39 : decode (q_code 158) 39 = .ok (.iconst 2, 1) := by decide +kernel
theorem x_158_40 : decode (q_code 158) 40 = .ok (.if_icmp .ne 45, 3) := by decide +kernel
theorem x_158_43 : decode (q_code 158) 43 = .ok (.aload_n 0, 1) := by decide +kernel
theorem x_158_44 : decode (q_code 158) 44 = .ok (.getfield 40, 3) := by decide +kernel
theorem x_158_47 : decode (q_code 158) 47 = .ok (.bipush 18, 2) := by decide +kernel
theorem x_158_49 : decode (q_code 158) 49 = .ok (.aload_n 0, 1) := by decide +kernel
theorem x_158_50 : decode (q_code 158) 50 = .ok (.getfield 21, 3) := by decide +kernel
theorem x_158_53 : decode (q_code 158) 53 = .ok (.iload 4, 2) := by decide +kernel
theorem x_158_55 : decode (q_code 158) 55 = .ok (.iload 5, 2) := by decide +kernel
theorem x_158_57 : decode (q_code 158) 57 = .ok (.invokevirtual 270, 3) := by decide +kernel
theorem x_158_60 : decode (q_code 158) 60 = .ok (.aload_n 0, 1) := by decide +kernel
theorem x_158_61 : decode (q_code 158) 61 = .ok (.getfield 40, 3) := by decide +kernel
theorem x_158_64 : decode (q_code 158) 64 = .ok (.iload_n 3, 1) := by decide +kernel
theorem x_158_65 : decode (q_code 158) 65 = .ok (.iconst 2, 1) := by decide +kernel
theorem x_158_66 : decode (q_code 158) 66 = .ok (.if_icmp .ne 11, 3) := by decide +kernel
theorem x_158_69 : decode (q_code 158) 69 = .ok (.aload_n 0, 1) := by decide +kernel
theorem x_158_70 : decode (q_code 158) 70 = .ok (.iload_n 2, 1) := by decide +kernel
theorem x_158_71 : decode (q_code 158) 71 = .ok (.invokevirtual 323, 3) := by decide +kernel
theorem x_158_74 : decode (q_code 158) 74 = .ok (.goto 5, 3) := by decide +kernel
theorem x_158_77 : decode (q_code 158) 77 = .ok (.iload_n 2, 1) := by decide +kernel
theorem x_158_78 : decode (q_code 158) 78 = .ok (.i2l, 1) := by decide +kernel
theorem x_158_79 : decode (q_code 158) 79 = .ok (.invokevirtual 327, 3) := by decide +kernel
theorem x_158_82 : decode (q_code 158) 82 = .ok (.goto 152, 3) := by decide +kernel
theorem x_158_85 : decode (q_code 158) 85 = .ok (.iload_n 3, 1) := by decide +kernel
theorem x_158_86 : decode (q_code 158) 86 = .ok (.bipush 7, 2) := by decide +kernel
theorem x_158_88 : decode (q_code 158) 88 = .ok (.if_icmp .eq 9, 3) := by decide +kernel
theorem x_158_91 : decode (q_code 158) 91 = .ok (.iload_n 3, 1) := by decide +kernel
theorem x_158_92 : decode (q_code 158) 92 = .ok (.bipush 8, 2) := by decide +kernel
theorem x_158_94 : decode (q_code 158) 94 = .ok (.if_icmp .ne 38, 3) := by decide +kernel
theorem x_158_97 : decode (q_code 158) 97 = .ok (.aload_n 0, 1) := by decide +kernel
theorem x_158_98 : decode (q_code 158) 98 = .ok (.getfield 40, 3) := by decide +kernel
theorem x_158_101 : decode (q_code 158) 101 = .ok (.iconst 4, 1) := by decide +kernel
theorem x_158_102 : decode (q_code 158) 102 = .ok (.aload_n 0, 1) := by decide +kernel
theorem x_158_103 : decode (q_code 158) 103 = .ok (.getfield 21, 3) := by decide +kernel
theorem x_158_106 : decode (q_code 158) 106 = .ok (.iload 4, 2) := by decide +kernel
theorem x_158_108 : decode (q_code 158) 108 = .ok (.iload 5, 2) := by decide +kernel
theorem x_158_110 : decode (q_code 158) 110 = .ok (.invokevirtual 270, 3) := by decide +kernel
theorem x_158_113 : decode (q_code 158) 113 = .ok (.aload_n 0, 1) := by decide +kernel
theorem x_158_114 : decode (q_code 158) 114 = .ok (.iload_n 2, 1) := by decide +kernel
theorem x_158_115 : decode (q_code 158) 115 = .ok (.iload_n 3, 1) := by decide +kernel
theorem x_158_116 : decode (q_code 158) 116 = .ok (.bipush 8, 2) := by decide +kernel
theorem x_158_118 : decode (q_code 158) 118 = .ok (.if_icmp .ne 7, 3) := by decide +kernel
theorem x_158_121 : decode (q_code 158) 121 = .ok (.iconst 1, 1) := by decide +kernel
theorem x_158_122 : decode (q_code 158) 122 = .ok (.goto 4, 3) := by decide +kernel
theorem x_158_125 : decode (q_code 158) 125 = .ok (.iconst 0, 1) := by decide +kernel
theorem x_158_126 : decode (q_code 158) 126 = .ok (.invokevirtual 331, 3) := by decide +kernel
theorem x_158_129 : decode (q_code 158) 129 = .ok (.goto 105, 3) := by decide +kernel
theorem x_158_132 : decode (q_code 158) 132 = .ok (.iload_n 3, 1) := by decide +kernel
theorem x_158_133 : decode (q_code 158) 133 = .ok (.iconst 5, 1) := by decide +kernel
theorem x_158_134 : decode (q_code 158) 134 = .ok (.if_icmp .ne 12, 3) := by decide +kernel
theorem x_158_137 : decode (q_code 158) 137 = .ok (.aload_n 0, 1) := by decide +kernel
theorem x_158_138 : decode (q_code 158) 138 = .ok (.getfield 61, 3) := by decide +kernel
theorem x_158_141 : decode (q_code 158) 141 = .ok (.iconst 0, 1) := by decide +kernel
theorem x_158_142 : decode (q_code 158) 142 = .ok (.iaload, 1) := by decide +kernel
theorem x_158_143 : decode (q_code 158) 143 = .ok (.goto 39, 3) := by decide +kernel
theorem x_158_146 : decode (q_code 158) 146 = .ok (.iload_n 3, 1) := by decide +kernel
theorem x_158_147 : decode (q_code 158) 147 = .ok (.bipush 6, 2) := by decide +kernel
theorem x_158_149 : decode (q_code 158) 149 = .ok (.if_icmp .ne 18, 3) := by decide +kernel
theorem x_158_152 : decode (q_code 158) 152 = .ok (.aload_n 0, 1) := by decide +kernel
theorem x_158_153 : decode (q_code 158) 153 = .ok (.getfield 61, 3) := by decide +kernel
theorem x_158_156 : decode (q_code 158) 156 = .ok (.iload_n 2, 1) := by decide +kernel
theorem x_158_157 : decode (q_code 158) 157 = .ok (.iconst 1, 1) := by decide +kernel
theorem x_158_158 : decode (q_code 158) 158 = .ok (.isub, 1) := by decide +kernel
theorem x_158_159 : decode (q_code 158) 159 = .ok (.iconst 0, 1) := by decide +kernel
theorem x_158_160 : decode (q_code 158) 160 = .ok (.invokestatic 335, 3) := by decide +kernel
theorem x_158_163 : decode (q_code 158) 163 = .ok (.iaload, 1) := by decide +kernel
theorem x_158_164 : decode (q_code 158) 164 = .ok (.goto 18, 3) := by decide +kernel
theorem x_158_167 : decode (q_code 158) 167 = .ok (.aload_n 0, 1) := by decide +kernel
theorem x_158_168 : decode (q_code 158) 168 = .ok (.iload_n 2, 1) := by decide +kernel
theorem x_158_169 : decode (q_code 158) 169 = .ok (.iload_n 3, 1) := by decide +kernel
theorem x_158_170 : decode (q_code 158) 170 = .ok (.iconst 3, 1) := by decide +kernel
theorem x_158_171 : decode (q_code 158) 171 = .ok (.if_icmp .ne 7, 3) := by decide +kernel
theorem x_158_174 : decode (q_code 158) 174 = .ok (.iconst (-1), 1) := by decide +kernel
theorem x_158_175 : decode (q_code 158) 175 = .ok (.goto 4, 3) := by decide +kernel
theorem x_158_178 : decode (q_code 158) 178 = .ok (.iconst 1, 1) := by decide +kernel
theorem x_158_179 : decode (q_code 158) 179 = .ok (.invokevirtual 338, 3) := by decide +kernel
theorem x_158_182 : decode (q_code 158) 182 = .ok (.istore 6, 2) := by decide +kernel
theorem x_158_184 : decode (q_code 158) 184 = .ok (.iload 6, 2) := by decide +kernel
theorem x_158_186 : decode (q_code 158) 186 = .ok (.ifCond .ge 7, 3) := by decide +kernel
theorem x_158_189 : decode (q_code 158) 189 = .ok (.iconst 0, 1) := by decide +kernel
theorem x_158_190 : decode (q_code 158) 190 = .ok (.goto 5, 3) := by decide +kernel
theorem x_158_193 : decode (q_code 158) 193 = .ok (.iload 6, 2) := by decide +kernel
theorem x_158_195 : decode (q_code 158) 195 = .ok (.istore 7, 2) := by decide +kernel
theorem x_158_197 : decode (q_code 158) 197 = .ok (.aload_n 0, 1) := by decide +kernel
theorem x_158_198 : decode (q_code 158) 198 = .ok (.getfield 40, 3) := by decide +kernel
theorem x_158_201 : decode (q_code 158) 201 = .ok (.aload_n 0, 1) := by decide +kernel
theorem x_158_202 : decode (q_code 158) 202 = .ok (.getfield 21, 3) := by decide +kernel
theorem x_158_205 : decode (q_code 158) 205 = .ok (.iload 7, 2) := by decide +kernel
theorem x_158_207 : decode (q_code 158) 207 = .ok (.invokestatic 105, 3) := by decide +kernel
theorem x_158_210 : decode (q_code 158) 210 = .ok (.aload_n 0, 1) := by decide +kernel
theorem x_158_211 : decode (q_code 158) 211 = .ok (.getfield 21, 3) := by decide +kernel
theorem x_158_214 : decode (q_code 158) 214 = .ok (.iload 4, 2) := by decide +kernel
theorem x_158_216 : decode (q_code 158) 216 = .ok (.iload 5, 2) := by decide +kernel
theorem x_158_218 : decode (q_code 158) 218 = .ok (.invokevirtual 270, 3) := by decide +kernel
theorem x_158_221 : decode (q_code 158) 221 = .ok (.aload_n 0, 1) := by decide +kernel
theorem x_158_222 : decode (q_code 158) 222 = .ok (.getfield 40, 3) := by decide +kernel
theorem x_158_225 : decode (q_code 158) 225 = .ok (.aload_n 0, 1) := by decide +kernel
theorem x_158_226 : decode (q_code 158) 226 = .ok (.getfield 21, 3) := by decide +kernel
theorem x_158_229 : decode (q_code 158) 229 = .ok (.iload 7, 2) := by decide +kernel
theorem x_158_231 : decode (q_code 158) 231 = .ok (.invokevirtual 245, 3) := by decide +kernel
theorem x_158_234 : decode (q_code 158) 234 = .ok (.return_, 1) := by decide +kernel
theorem x_159_0 : decode (q_code 159) 0 = .ok (.lconst 0, 1) := by decide +kernel
theorem x_159_1 : decode (q_code 159) 1 = .ok (.lstore_n 2, 1) := by decide +kernel
theorem x_159_2 : decode (q_code 159) 2 = .ok (.lconst 0, 1) := by decide +kernel
theorem x_159_3 : decode (q_code 159) 3 = .ok (.lstore 4, 2) := by decide +kernel
theorem x_159_5 : decode (q_code 159) 5 = .ok (.iconst 0, 1) := by decide +kernel
theorem x_159_6 : decode (q_code 159) 6 = .ok (.istore 6, 2) := by decide +kernel
theorem x_159_8 : decode (q_code 159) 8 = .ok (.iload 6, 2) := by decide +kernel
theorem x_159_10 : decode (q_code 159) 10 = .ok (.iload_n 1, 1) := by decide +kernel
theorem x_159_11 : decode (q_code 159) 11 = .ok (.if_icmp .ge 86, 3) := by decide +kernel
theorem x_159_14 : decode (q_code 159) 14 = .ok (.aload_n 0, 1) := by decide +kernel
theorem x_159_15 : decode (q_code 159) 15 = .ok (.getfield 21, 3) := by decide +kernel
theorem x_159_18 : decode (q_code 159) 18 = .ok (.aload_n 0, 1) := by decide +kernel
theorem x_159_19 : decode (q_code 159) 19 = .ok (.getfield 61, 3) := by decide +kernel
theorem x_159_22 : decode (q_code 159) 22 = .ok (.iload 6, 2) := by decide +kernel
theorem x_159_24 : decode (q_code 159) 24 = .ok (.iaload, 1) := by decide +kernel
theorem x_159_25 : decode (q_code 159) 25 = .ok (.invokestatic 341, 3) := by decide +kernel
theorem x_159_28 : decode (q_code 159) 28 = .ok (.ifCond .ne 6, 3) := by decide +kernel
theorem x_159_31 : decode (q_code 159) 31 = .ok (.goto 60, 3) := by decide +kernel
theorem x_159_34 : decode (q_code 159) 34 = .ok (.aload_n 0, 1) := by decide +kernel
theorem x_159_35 : decode (q_code 159) 35 = .ok (.getfield 21, 3) := by decide +kernel
theorem x_159_38 : decode (q_code 159) 38 = .ok (.aload_n 0, 1) := by decide +kernel
theorem x_159_39 : decode (q_code 159) 39 = .ok (.getfield 61, 3) := by decide +kernel
theorem x_159_42 : decode (q_code 159) 42 = .ok (.iload 6, 2) := by decide +kernel
theorem x_159_44 : decode (q_code 159) 44 = .ok (.iaload, 1) := by decide +kernel
theorem x_159_45 : decode (q_code 159) 45 = .ok (.invokestatic 345, 3) := by decide +kernel
theorem x_159_48 : decode (q_code 159) 48 = .ok (.lstore 7, 2) := by decide +kernel
theorem x_159_50 : decode (q_code 159) 50 = .ok (.lload_n 2, 1) := by decide +kernel
theorem x_159_51 : decode (q_code 159) 51 = .ok (.lload 7, 2) := by decide +kernel
theorem x_159_53 : decode (q_code 159) 53 = .ok (.ladd, 1) := by decide +kernel
theorem x_159_54 : decode (q_code 159) 54 = .ok (.lstore 9, 2) := by decide +kernel
theorem x_159_56 : decode (q_code 159) 56 = .ok (.lload 4, 2) := by decide +kernel
theorem x_159_58 : decode (q_code 159) 58 = .ok (.lload 7, 2) := by decide +kernel
theorem x_159_60 : decode (q_code 159) 60 = .ok (.bipush 63, 2) := by decide +kernel
theorem x_159_62 : decode (q_code 159) 62 = .ok (.lshr, 1) := by decide +kernel
theorem x_159_63 : decode (q_code 159) 63 = .ok (.lload 9, 2) := by decide +kernel
theorem x_159_65 : decode (q_code 159) 65 = .ok (.ldc2_w 351, 3) := by decide +kernel
theorem x_159_68 : decode (q_code 159) 68 = .ok (.ladd, 1) := by decide +kernel
theorem x_159_69 : decode (q_code 159) 69 = .ok (.lload_n 2, 1) := by decide +kernel
theorem x_159_70 : decode (q_code 159) 70 = .ok (.ldc2_w 351, 3) := by decide +kernel
theorem x_159_73 : decode (q_code 159) 73 = .ok (.ladd, 1) := by decide +kernel
theorem x_159_74 : decode (q_code 159) 74 = .ok (.lcmp, 1) := by decide +kernel
theorem x_159_75 : decode (q_code 159) 75 = .ok (.ifCond .ge 7, 3) := by decide +kernel
theorem x_159_78 : decode (q_code 159) 78 = .ok (.iconst 1, 1) := by decide +kernel
theorem x_159_79 : decode (q_code 159) 79 = .ok (.goto 4, 3) := by decide +kernel
theorem x_159_82 : decode (q_code 159) 82 = .ok (.iconst 0, 1) := by decide +kernel
theorem x_159_83 : decode (q_code 159) 83 = .ok (.i2l, 1) := by decide +kernel
theorem x_159_84 : decode (q_code 159) 84 = .ok (.ladd, 1) := by decide +kernel
theorem x_159_85 : decode (q_code 159) 85 = .ok (.ladd, 1) := by decide +kernel
theorem x_159_86 : decode (q_code 159) 86 = .ok (.lstore 4, 2) := by decide +kernel
theorem x_159_88 : decode (q_code 159) 88 = .ok (.lload 9, 2) := by decide +kernel
theorem x_159_90 : decode (q_code 159) 90 = .ok (.lstore_n 2, 1) := by decide +kernel
theorem x_159_91 : decode (q_code 159) 91 = .ok (.iinc 6 1, 3) := by decide +kernel
theorem x_159_94 : decode (q_code 159) 94 = .ok (.goto (-86), 3) := by decide +kernel
theorem x_159_97 : decode (q_code 159) 97 = .ok (.lload 4, 2) := by decide +kernel
theorem x_159_99 : decode (q_code 159) 99 = .ok (.lload_n 2, 1) := by decide +kernel
theorem x_159_100 : decode (q_code 159) 100 = .ok (.bipush 63, 2) := by decide +kernel
theorem x_159_102 : decode (q_code 159) 102 = .ok (.lshr, 1) := by decide +kernel
theorem x_159_103 : decode (q_code 159) 103 = .ok (.lcmp, 1) := by decide +kernel
theorem x_159_104 : decode (q_code 159) 104 = .ok (.ifCond .eq 8, 3) := by decide +kernel
theorem x_159_107 : decode (q_code 159) 107 = .ok (.aload_n 0, 1) := by decide +kernel
theorem x_159_108 : decode (q_code 159) 108 = .ok (.iconst 1, 1) := by decide +kernel
theorem x_159_109 : decode (q_code 159) 109 = .ok (.putfield 178, 3) := by decide +kernel
theorem x_159_112 : decode (q_code 159) 112 = .ok (.lload_n 2, 1) := by decide +kernel
theorem x_159_113 : decode (q_code 159) 113 = .ok (.lreturn, 1) := by decide +kernel
theorem x_160_0 : decode (q_code 160) 0 = .ok (.iconst (-1), 1) := by decide +kernel
theorem x_160_1 : decode (q_code 160) 1 = .ok (.istore_n 3, 1) := by decide +kernel
theorem x_160_2 : decode (q_code 160) 2 = .ok (.iconst 0, 1) := by decide +kernel
theorem x_160_3 : decode (q_code 160) 3 = .ok (.istore 4, 2) := by decide +kernel
theorem x_160_5 : decode (q_code 160) 5 = .ok (.iload 4, 2) := by decide +kernel
theorem x_160_7 : decode (q_code 160) 7 = .ok (.iload_n 1, 1) := by decide +kernel
theorem x_160_8 : decode (q_code 160) 8 = .ok (.if_icmp .ge 56, 3) := by decide +kernel
theorem x_160_11 : decode (q_code 160) 11 = .ok (.aload_n 0, 1) := by decide +kernel
theorem x_160_12 : decode (q_code 160) 12 = .ok (.getfield 61, 3) := by decide +kernel
theorem x_160_15 : decode (q_code 160) 15 = .ok (.iload 4, 2) := by decide +kernel
theorem x_160_17 : decode (q_code 160) 17 = .ok (.iaload, 1) := by decide +kernel
theorem x_160_18 : decode (q_code 160) 18 = .ok (.ifCond .lt 40, 3) := by decide +kernel
theorem x_160_21 : decode (q_code 160) 21 = .ok (.iload_n 3, 1) := by decide +kernel
theorem x_160_22 : decode (q_code 160) 22 = .ok (.ifCond .lt 28, 3) := by decide +kernel
theorem x_160_25 : decode (q_code 160) 25 = .ok (.aload_n 0, 1) := by decide +kernel
theorem x_160_26 : decode (q_code 160) 26 = .ok (.getfield 21, 3) := by decide +kernel
theorem x_160_29 : decode (q_code 160) 29 = .ok (.aload_n 0, 1) := by decide +kernel
theorem x_160_30 : decode (q_code 160) 30 = .ok (.getfield 61, 3) := by decide +kernel
theorem x_160_33 : decode (q_code 160) 33 = .ok (.iload 4, 2) := by decide +kernel
theorem x_160_35 : decode (q_code 160) 35 = .ok (.iaload, 1) := by decide +kernel
theorem x_160_36 : decode (q_code 160) 36 = .ok (.aload_n 0, 1) := by decide +kernel
theorem x_160_37 : decode (q_code 160) 37 = .ok (.getfield 21, 3) := by decide +kernel
theorem x_160_40 : decode (q_code 160) 40 = .ok (.iload_n 3, 1) := by decide +kernel
theorem x_160_41 : decode (q_code 160) 41 = .ok (.iconst 0, 1) := by decide +kernel
theorem x_160_42 : decode (q_code 160) 42 = .ok (.invokestatic 313, 3) := by decide +kernel
theorem x_160_45 : decode (q_code 160) 45 = .ok (.iload_n 2, 1) := by decide +kernel
theorem x_160_46 : decode (q_code 160) 46 = .ok (.imul, 1) := by decide +kernel
theorem x_160_47 : decode (q_code 160) 47 = .ok (.ifCond .le 11, 3) := by decide +kernel
theorem x_160_50 : decode (q_code 160) 50 = .ok (.aload_n 0, 1) := by decide +kernel
theorem x_160_51 : decode (q_code 160) 51 = .ok (.getfield 61, 3) := by decide +kernel
theorem x_160_54 : decode (q_code 160) 54 = .ok (.iload 4, 2) := by decide +kernel
theorem x_160_56 : decode (q_code 160) 56 = .ok (.iaload, 1) := by decide +kernel
theorem x_160_57 : decode (q_code 160) 57 = .ok (.istore_n 3, 1) := by decide +kernel
theorem x_160_58 : decode (q_code 160) 58 = .ok (.iinc 4 1, 3) := by decide +kernel
theorem x_160_61 : decode (q_code 160) 61 = .ok (.goto (-56), 3) := by decide +kernel
theorem x_160_64 : decode (q_code 160) 64 = .ok (.iload_n 3, 1) := by decide +kernel
theorem x_160_65 : decode (q_code 160) 65 = .ok (.ireturn, 1) := by decide +kernel
theorem x_161_0 : decode (q_code 161) 0 = .ok (.aload_n 0, 1) := by decide +kernel
theorem x_161_1 : decode (q_code 161) 1 = .ok (.getfield 40, 3) := by decide +kernel
theorem x_161_4 : decode (q_code 161) 4 = .ok (.invokevirtual 185, 3) := by decide +kernel
theorem x_161_7 : decode (q_code 161) 7 = .ok (.istore_n 3, 1) := by decide +kernel
theorem x_161_8 : decode (q_code 161) 8 = .ok (.iconst 0, 1) := by decide +kernel
theorem x_161_9 : decode (q_code 161) 9 = .ok (.istore 4, 2) := by decide +kernel
theorem x_161_11 : decode (q_code 161) 11 = .ok (.iconst 0, 1) := by decide +kernel
theorem x_161_12 : decode (q_code 161) 12 = .ok (.istore 5, 2) := by decide +kernel
theorem x_161_14 : decode (q_code 161) 14 = .ok (.iload 5, 2) := by decide +kernel
theorem x_161_16 : decode (q_code 161) 16 = .ok (.iload_n 1, 1) := by decide +kernel
theorem x_161_17 : decode (q_code 161) 17 = .ok (.if_icmp .ge 146, 3) := by decide +kernel
theorem x_161_20 : decode (q_code 161) 20 = .ok (.aload_n 0, 1) := by decide +kernel
theorem x_161_21 : decode (q_code 161) 21 = .ok (.getfield 61, 3) := by decide +kernel
theorem x_161_24 : decode (q_code 161) 24 = .ok (.iload 5, 2) := by decide +kernel
theorem x_161_26 : decode (q_code 161) 26 = .ok (.iaload, 1) := by decide +kernel
theorem x_161_27 : decode (q_code 161) 27 = .ok (.ifCond .lt 7, 3) := by decide +kernel
theorem x_161_30 : decode (q_code 161) 30 = .ok (.iconst 1, 1) := by decide +kernel
theorem x_161_31 : decode (q_code 161) 31 = .ok (.goto 4, 3) := by decide +kernel
theorem x_161_34 : decode (q_code 161) 34 = .ok (.iconst 0, 1) := by decide +kernel
theorem x_161_35 : decode (q_code 161) 35 = .ok (.istore 6, 2) := by decide +kernel
theorem x_161_37 : decode (q_code 161) 37 = .ok (.iconst 0, 1) := by decide +kernel
theorem x_161_38 : decode (q_code 161) 38 = .ok (.istore 7, 2) := by decide +kernel
theorem x_161_40 : decode (q_code 161) 40 = .ok (.iload 7, 2) := by decide +kernel
theorem x_161_42 : decode (q_code 161) 42 = .ok (.iload 5, 2) := by decide +kernel
theorem x_161_44 : decode (q_code 161) 44 = .ok (.if_icmp .ge 64, 3) := by decide +kernel
theorem x_161_47 : decode (q_code 161) 47 = .ok (.iload_n 2, 1) := by decide +kernel
theorem x_161_48 : decode (q_code 161) 48 = .ok (.ifCond .eq 60, 3) := by decide +kernel
theorem x_161_51 : decode (q_code 161) 51 = .ok (.iload 6, 2) := by decide +kernel
theorem x_161_53 : decode (q_code 161) 53 = .ok (.ifCond .eq 55, 3) := by decide +kernel
theorem x_161_56 : decode (q_code 161) 56 = .ok (.aload_n 0, 1) := by decide +kernel
theorem x_161_57 : decode (q_code 161) 57 = .ok (.getfield 61, 3) := by decide +kernel
theorem x_161_60 : decode (q_code 161) 60 = .ok (.iload 7, 2) := by decide +kernel
theorem x_161_62 : decode (q_code 161) 62 = .ok (.iaload, 1) := by decide +kernel
theorem x_161_63 : decode (q_code 161) 63 = .ok (.ifCond .lt 32, 3) := by decide +kernel
theorem x_161_66 : decode (q_code 161) 66 = .ok (.aload_n 0, 1) := by decide +kernel
theorem x_161_67 : decode (q_code 161) 67 = .ok (.getfield 21, 3) := by decide +kernel
theorem x_161_70 : decode (q_code 161) 70 = .ok (.aload_n 0, 1) := by decide +kernel
theorem x_161_71 : decode (q_code 161) 71 = .ok (.getfield 61, 3) := by decide +kernel
theorem x_161_74 : decode (q_code 161) 74 = .ok (.iload 7, 2) := by decide +kernel
theorem x_161_76 : decode (q_code 161) 76 = .ok (.iaload, 1) := by decide +kernel
theorem x_161_77 : decode (q_code 161) 77 = .ok (.aload_n 0, 1) := by decide +kernel
theorem x_161_78 : decode (q_code 161) 78 = .ok (.getfield 21, 3) := by decide +kernel
theorem x_161_81 : decode (q_code 161) 81 = .ok (.aload_n 0, 1) := by decide +kernel
theorem x_161_82 : decode (q_code 161) 82 = .ok (.getfield 61, 3) := by decide +kernel
theorem x_161_85 : decode (q_code 161) 85 = .ok (.iload 5, 2) := by decide +kernel
theorem x_161_87 : decode (q_code 161) 87 = .ok (.iaload, 1) := by decide +kernel
theorem x_161_88 : decode (q_code 161) 88 = .ok (.iconst 0, 1) := by decide +kernel
theorem x_161_89 : decode (q_code 161) 89 = .ok (.invokestatic 313, 3) := by decide +kernel
theorem x_161_92 : decode (q_code 161) 92 = .ok (.ifCond .eq 7, 3) := by decide +kernel
theorem x_161_95 : decode (q_code 161) 95 = .ok (.iconst 1, 1) := by decide +kernel
theorem x_161_96 : decode (q_code 161) 96 = .ok (.goto 4, 3) := by decide +kernel
theorem x_161_99 : decode (q_code 161) 99 = .ok (.iconst 0, 1) := by decide +kernel
theorem x_161_100 : decode (q_code 161) 100 = .ok (.istore 6, 2) := by decide +kernel
theorem x_161_102 : decode (q_code 161) 102 = .ok (.iinc 7 1, 3) := by decide +kernel
theorem x_161_105 : decode (q_code 161) 105 = .ok (.goto (-65), 3) := by decide +kernel
theorem x_161_108 : decode (q_code 161) 108 = .ok (.iload 6, 2) := by decide +kernel
theorem x_161_110 : decode (q_code 161) 110 = .ok (.ifCond .eq 47, 3) := by decide +kernel
theorem x_161_113 : decode (q_code 161) 113 = .ok (.aload_n 0, 1) := by decide +kernel
theorem x_161_114 : decode (q_code 161) 114 = .ok (.getfield 40, 3) := by decide +kernel
theorem x_161_117 : decode (q_code 161) 117 = .ok (.aload_n 0, 1) := by decide +kernel
theorem x_161_118 : decode (q_code 161) 118 = .ok (.getfield 21, 3) := by decide +kernel
theorem x_161_121 : decode (q_code 161) 121 = .ok (.aload_n 0, 1) := by decide +kernel
theorem x_161_122 : decode (q_code 161) 122 = .ok (.getfield 61, 3) := by decide +kernel
theorem x_161_125 : decode (q_code 161) 125 = .ok (.iload 5, 2) := by decide +kernel
theorem x_161_127 : decode (q_code 161) 127 = .ok (.iaload, 1) := by decide +kernel
theorem x_161_128 : decode (q_code 161) 128 = .ok (.invokestatic 105, 3) := by decide +kernel
theorem x_161_131 : decode (q_code 161) 131 = .ok (.iload 4, 2) := by decide +kernel
theorem x_161_133 : decode (q_code 161) 133 = .ok (.invokevirtual 242, 3) := by decide +kernel
theorem x_161_136 : decode (q_code 161) 136 = .ok (.aload_n 0, 1) := by decide +kernel
theorem x_161_137 : decode (q_code 161) 137 = .ok (.getfield 40, 3) := by decide +kernel
theorem x_161_140 : decode (q_code 161) 140 = .ok (.aload_n 0, 1) := by decide +kernel
theorem x_161_141 : decode (q_code 161) 141 = .ok (.getfield 21, 3) := by decide +kernel
theorem x_161_144 : decode (q_code 161) 144 = .ok (.aload_n 0, 1) := by decide +kernel
theorem x_161_145 : decode (q_code 161) 145 = .ok (.getfield 61, 3) := by decide +kernel
theorem x_161_148 : decode (q_code 161) 148 = .ok (.iload 5, 2) := by decide +kernel
theorem x_161_150 : decode (q_code 161) 150 = .ok (.iaload, 1) := by decide +kernel
theorem x_161_151 : decode (q_code 161) 151 = .ok (.invokevirtual 245, 3) := by decide +kernel
theorem x_161_154 : decode (q_code 161) 154 = .ok (.iinc 4 1, 3) := by decide +kernel
theorem x_161_157 : decode (q_code 161) 157 = .ok (.iinc 5 1, 3) := by decide +kernel
theorem x_161_160 : decode (q_code 161) 160 = .ok (.goto (-146), 3) := by decide +kernel
theorem x_161_163 : decode (q_code 161) 163 = .ok (.aload_n 0, 1) := by decide +kernel
theorem x_161_164 : decode (q_code 161) 164 = .ok (.getfield 40, 3) := by decide +kernel
theorem x_161_167 : decode (q_code 161) 167 = .ok (.iload_n 3, 1) := by decide +kernel
theorem x_161_168 : decode (q_code 161) 168 = .ok (.invokevirtual 189, 3) := by decide +kernel
theorem x_161_171 : decode (q_code 161) 171 = .ok (.return_, 1) := by decide +kernel
theorem x_162_0 : decode (q_code 162) 0 = .ok (.aload_n 0, 1) := by decide +kernel
theorem x_162_1 : decode (q_code 162) 1 = .ok (.getfield 21, 3) := by decide +kernel
theorem x_162_4 : decode (q_code 162) 4 = .ok (.iload_n 1, 1) := by decide +kernel
theorem x_162_5 : decode (q_code 162) 5 = .ok (.invokestatic 105, 3) := by decide +kernel
theorem x_162_8 : decode (q_code 162) 8 = .ok (.iconst 3, 1) := by decide +kernel
theorem x_162_9 : decode (q_code 162) 9 = .ok (.if_icmp .ne 27, 3) := by decide +kernel
theorem x_162_12 : decode (q_code 162) 12 = .ok (.aload_n 0, 1) := by decide +kernel
theorem x_162_13 : decode (q_code 162) 13 = .ok (.getfield 21, 3) := by decide +kernel
theorem x_162_16 : decode (q_code 162) 16 = .ok (.iload_n 1, 1) := by decide +kernel
theorem x_162_17 : decode (q_code 162) 17 = .ok (.invokestatic 353, 3) := by decide +kernel
theorem x_162_20 : decode (q_code 162) 20 = .ok (.iconst 1, 1) := by decide +kernel
theorem x_162_21 : decode (q_code 162) 21 = .ok (.if_icmp .lt 15, 3) := by decide +kernel
theorem x_162_24 : decode (q_code 162) 24 = .ok (.aload_n 0, 1) := by decide +kernel
theorem x_162_25 : decode (q_code 162) 25 = .ok (.getfield 21, 3) := by decide +kernel
theorem x_162_28 : decode (q_code 162) 28 = .ok (.iload_n 1, 1) := by decide +kernel
theorem x_162_29 : decode (q_code 162) 29 = .ok (.invokestatic 353, 3) := by decide +kernel
theorem x_162_32 : decode (q_code 162) 32 = .ok (.iconst 4, 1) := by decide +kernel
theorem x_162_33 : decode (q_code 162) 33 = .ok (.if_icmp .le 5, 3) := by decide +kernel
theorem x_162_36 : decode (q_code 162) 36 = .ok (.iconst 2, 1) := by decide +kernel
theorem x_162_37 : decode (q_code 162) 37 = .ok (.ireturn, 1) := by decide +kernel
theorem x_162_38 : decode (q_code 162) 38 = .ok (.aload_n 0, 1) := by decide +kernel
theorem x_162_39 : decode (q_code 162) 39 = .ok (.getfield 21, 3) := by decide +kernel
theorem x_162_42 : decode (q_code 162) 42 = .ok (.iload_n 1, 1) := by decide +kernel
theorem x_162_43 : decode (q_code 162) 43 = .ok (.invokestatic 101, 3) := by decide +kernel
theorem x_162_46 : decode (q_code 162) 46 = .ok (.istore_n 2, 1) := by decide +kernel
theorem x_162_47 : decode (q_code 162) 47 = .ok (.iconst 0, 1) := by decide +kernel
theorem x_162_48 : decode (q_code 162) 48 = .ok (.istore_n 3, 1) := by decide +kernel
theorem x_162_49 : decode (q_code 162) 49 = .ok (.iload_n 3, 1) := by decide +kernel
theorem x_162_50 : decode (q_code 162) 50 = .ok (.iconst 4, 1) := by decide +kernel
theorem x_162_51 : decode (q_code 162) 51 = .ok (.if_icmp .ge 108, 3) := by decide +kernel
theorem x_162_54 : decode (q_code 162) 54 = .ok (.aload_n 0, 1) := by decide +kernel
theorem x_162_55 : decode (q_code 162) 55 = .ok (.getfield 21, 3) := by decide +kernel
theorem x_162_58 : decode (q_code 162) 58 = .ok (.iload_n 2, 1) := by decide +kernel
theorem x_162_59 : decode (q_code 162) 59 = .ok (.invokestatic 105, 3) := by decide +kernel
theorem x_162_62 : decode (q_code 162) 62 = .ok (.ifCond .eq 97, 3) := by decide +kernel
theorem x_162_65 : decode (q_code 162) 65 = .ok (.aload_n 0, 1) := by decide +kernel
theorem x_162_66 : decode (q_code 162) 66 = .ok (.getfield 21, 3) := by decide +kernel
theorem x_162_69 : decode (q_code 162) 69 = .ok (.iload_n 2, 1) := by decide +kernel
theorem x_162_70 : decode (q_code 162) 70 = .ok (.invokestatic 341, 3) := by decide +kernel
theorem x_162_73 : decode (q_code 162) 73 = .ok (.ifCond .eq 14, 3) := by decide +kernel
theorem x_162_76 : decode (q_code 162) 76 = .ok (.aload_n 0, 1) := by decide +kernel
theorem x_162_77 : decode (q_code 162) 77 = .ok (.getfield 21, 3) := by decide +kernel
theorem x_162_80 : decode (q_code 162) 80 = .ok (.iload_n 2, 1) := by decide +kernel
theorem x_162_81 : decode (q_code 162) 81 = .ok (.invokestatic 345, 3) := by decide +kernel
theorem x_162_84 : decode (q_code 162) 84 = .ok (.goto 4, 3) := by decide +kernel
theorem x_162_87 : decode (q_code 162) 87 = .ok (.lconst 0, 1) := by decide +kernel
theorem x_162_88 : decode (q_code 162) 88 = .ok (.lstore 4, 2) := by decide +kernel
theorem x_162_90 : decode (q_code 162) 90 = .ok (.lload 4, 2) := by decide +kernel
theorem x_162_92 : decode (q_code 162) 92 = .ok (.lconst 1, 1) := by decide +kernel
theorem x_162_93 : decode (q_code 162) 93 = .ok (.lcmp, 1) := by decide +kernel
theorem x_162_94 : decode (q_code 162) 94 = .ok (.ifCond .eq 14, 3) := by decide +kernel
theorem x_162_97 : decode (q_code 162) 97 = .ok (.lload 4, 2) := by decide +kernel
theorem x_162_99 : decode (q_code 162) 99 = .ok (.ldc2_w 356, 3) := by decide +kernel
theorem x_162_102 : decode (q_code 162) 102 = .ok (.lcmp, 1) := by decide +kernel
theorem x_162_103 : decode (q_code 162) 103 = .ok (.ifCond .eq 5, 3) := by decide +kernel
theorem x_162_106 : decode (q_code 162) 106 = .ok (.iconst 2, 1) := by decide +kernel
theorem x_162_107 : decode (q_code 162) 107 = .ok (.ireturn, 1) := by decide +kernel
theorem x_162_108 : decode (q_code 162) 108 = .ok (.aload_n 0, 1) := by decide +kernel
theorem x_162_109 : decode (q_code 162) 109 = .ok (.getfield 27, 3) := by decide +kernel
theorem x_162_112 : decode (q_code 162) 112 = .ok (.aload_n 0, 1) := by decide +kernel
theorem x_162_113 : decode (q_code 162) 113 = .ok (.getfield 21, 3) := by decide +kernel
theorem x_162_116 : decode (q_code 162) 116 = .ok (.iload_n 2, 1) := by decide +kernel
theorem x_162_117 : decode (q_code 162) 117 = .ok (.invokevirtual 358, 3) := by decide +kernel
theorem x_162_120 : decode (q_code 162) 120 = .ok (.ifCond .eq 13, 3) := by decide +kernel
theorem x_162_123 : decode (q_code 162) 123 = .ok (.aload_n 0, 1) := by decide +kernel
theorem x_162_124 : decode (q_code 162) 124 = .ok (.getfield 27, 3) := by decide +kernel
theorem x_162_127 : decode (q_code 162) 127 = .ok (.getfield 361, 3) := by decide +kernel
theorem x_162_130 : decode (q_code 162) 130 = .ok (.ifCond .eq 5, 3) := by decide +kernel
theorem x_162_133 : decode (q_code 162) 133 = .ok (.iconst 3, 1) := by decide +kernel
theorem x_162_134 : decode (q_code 162) 134 = .ok (.ireturn, 1) := by decide +kernel
theorem x_162_135 : decode (q_code 162) 135 = .ok (.aload_n 0, 1) := by decide +kernel
theorem x_162_136 : decode (q_code 162) 136 = .ok (.getfield 69, 3) := by decide +kernel
theorem x_162_139 : decode (q_code 162) 139 = .ok (.iload_n 3, 1) := by decide +kernel
theorem x_162_140 : decode (q_code 162) 140 = .ok (.lload 4, 2) := by decide +kernel
theorem x_162_142 : decode (q_code 162) 142 = .ok (.l2i, 1) := by decide +kernel
theorem x_162_143 : decode (q_code 162) 143 = .ok (.iastore, 1) := by decide +kernel
theorem x_162_144 : decode (q_code 162) 144 = .ok (.aload_n 0, 1) := by decide +kernel
theorem x_162_145 : decode (q_code 162) 145 = .ok (.getfield 21, 3) := by decide +kernel
theorem x_162_148 : decode (q_code 162) 148 = .ok (.iload_n 2, 1) := by decide +kernel
theorem x_162_149 : decode (q_code 162) 149 = .ok (.invokestatic 114, 3) := by decide +kernel
theorem x_162_152 : decode (q_code 162) 152 = .ok (.istore_n 2, 1) := by decide +kernel
theorem x_162_153 : decode (q_code 162) 153 = .ok (.iinc 3 1, 3) := by decide +kernel
theorem x_162_156 : decode (q_code 162) 156 = .ok (.goto (-107), 3) := by decide +kernel
theorem x_162_159 : decode (q_code 162) 159 = .ok (.iconst 0, 1) := by decide +kernel
theorem x_162_160 : decode (q_code 162) 160 = .ok (.ireturn, 1) := by decide +kernel
theorem x_163_0 : decode (q_code 163) 0 = .ok (.aload_n 0, 1) := by decide +kernel
theorem x_163_1 : decode (q_code 163) 1 = .ok (.iload_n 1, 1) := by decide +kernel
theorem x_163_2 : decode (q_code 163) 2 = .ok (.invokevirtual 364, 3) := by decide +kernel
theorem x_163_5 : decode (q_code 163) 5 = .ok (.istore_n 2, 1) := by decide +kernel
theorem x_163_6 : decode (q_code 163) 6 = .ok (.iload_n 2, 1) := by decide +kernel
theorem x_163_7 : decode (q_code 163) 7 = .ok (.ifCond .eq 5, 3) := by decide +kernel
theorem x_163_10 : decode (q_code 163) 10 = .ok (.iload_n 2, 1) := by decide +kernel
theorem x_163_11 : decode (q_code 163) 11 = .ok (.ireturn, 1) := by decide +kernel
theorem x_163_12 : decode (q_code 163) 12 = .ok (.iconst 0, 1) := by decide +kernel
theorem x_163_13 : decode (q_code 163) 13 = .ok (.istore_n 3, 1) := by decide +kernel
theorem x_163_14 : decode (q_code 163) 14 = .ok (.aload_n 0, 1) := by decide +kernel
theorem x_163_15 : decode (q_code 163) 15 = .ok (.getfield 21, 3) := by decide +kernel
theorem x_163_18 : decode (q_code 163) 18 = .ok (.iload_n 1, 1) := by decide +kernel
theorem x_163_19 : decode (q_code 163) 19 = .ok (.invokestatic 101, 3) := by decide +kernel
theorem x_163_22 : decode (q_code 163) 22 = .ok (.istore 4, 2) := by decide +kernel
theorem x_163_24 : decode (q_code 163) 24 = .ok (.iconst 0, 1) := by decide +kernel
theorem x_163_25 : decode (q_code 163) 25 = .ok (.istore 5, 2) := by decide +kernel
theorem x_163_27 : decode (q_code 163) 27 = .ok (.iload 5, 2) := by decide +kernel
theorem x_163_29 : decode (q_code 163) 29 = .ok (.iconst 4, 1) := by decide +kernel
theorem x_163_30 : decode (q_code 163) 30 = .ok (.if_icmp .ge 95, 3) := by decide +kernel
theorem x_163_33 : decode (q_code 163) 33 = .ok (.aload_n 0, 1) := by decide +kernel
theorem x_163_34 : decode (q_code 163) 34 = .ok (.getfield 21, 3) := by decide +kernel
theorem x_163_37 : decode (q_code 163) 37 = .ok (.iload 4, 2) := by decide +kernel
theorem x_163_39 : decode (q_code 163) 39 = .ok (.invokestatic 105, 3) := by decide +kernel
theorem x_163_42 : decode (q_code 163) 42 = .ok (.ifCond .eq 83, 3) := by decide +kernel
theorem x_163_45 : decode (q_code 163) 45 = .ok (.aload_n 0, 1) := by decide +kernel
theorem x_163_46 : decode (q_code 163) 46 = .ok (.getfield 27, 3) := by decide +kernel
theorem x_163_49 : decode (q_code 163) 49 = .ok (.aload_n 0, 1) := by decide +kernel
theorem x_163_50 : decode (q_code 163) 50 = .ok (.getfield 21, 3) := by decide +kernel
theorem x_163_53 : decode (q_code 163) 53 = .ok (.iload 4, 2) := by decide +kernel
theorem x_163_55 : decode (q_code 163) 55 = .ok (.invokevirtual 358, 3) := by decide +kernel
theorem x_163_58 : decode (q_code 163) 58 = .ok (.pop, 1) := by decide +kernel
theorem x_163_59 : decode (q_code 163) 59 = .ok (.iconst 0, 1) := by decide +kernel
theorem x_163_60 : decode (q_code 163) 60 = .ok (.istore 6, 2) := by decide +kernel
theorem x_163_62 : decode (q_code 163) 62 = .ok (.iload 6, 2) := by decide +kernel
theorem x_163_64 : decode (q_code 163) 64 = .ok (.aload_n 0, 1) := by decide +kernel
theorem x_163_65 : decode (q_code 163) 65 = .ok (.getfield 84, 3) := by decide +kernel
theorem x_163_68 : decode (q_code 163) 68 = .ok (.if_icmp .ge 37, 3) := by decide +kernel
theorem x_163_71 : decode (q_code 163) 71 = .ok (.aload_n 0, 1) := by decide +kernel
theorem x_163_72 : decode (q_code 163) 72 = .ok (.getfield 66, 3) := by decide +kernel
theorem x_163_75 : decode (q_code 163) 75 = .ok (.iload 5, 2) := by decide +kernel
theorem x_163_77 : decode (q_code 163) 77 = .ok (.aaload, 1) := by decide +kernel
theorem x_163_78 : decode (q_code 163) 78 = .ok (.iload 6, 2) := by decide +kernel
theorem x_163_80 : decode (q_code 163) 80 = .ok (.aload_n 0, 1) := by decide +kernel
theorem x_163_81 : decode (q_code 163) 81 = .ok (.aload_n 0, 1) := by decide +kernel
theorem x_163_82 : decode (q_code 163) 82 = .ok (.getfield 48, 3) := by decide +kernel
theorem x_163_85 : decode (q_code 163) 85 = .ok (.iload 6, 2) := by decide +kernel
theorem x_163_87 : decode (q_code 163) 87 = .ok (.iaload, 1) := by decide +kernel
theorem x_163_88 : decode (q_code 163) 88 = .ok (.aload_n 0, 1) := by decide +kernel
theorem x_163_89 : decode (q_code 163) 89 = .ok (.getfield 69, 3) := by decide +kernel
theorem x_163_92 : decode (q_code 163) 92 = .ok (.iload 5, 2) := by decide +kernel
theorem x_163_94 : decode (q_code 163) 94 = .ok (.iaload, 1) := by decide +kernel
theorem x_163_95 : decode (q_code 163) 95 = .ok (.invokevirtual 367, 3) := by decide +kernel
theorem x_163_98 : decode (q_code 163) 98 = .ok (.iastore, 1) := by decide +kernel
theorem x_163_99 : decode (q_code 163) 99 = .ok (.iinc 6 1, 3) := by decide +kernel
theorem x_163_102 : decode (q_code 163) 102 = .ok (.goto (-40), 3) := by decide +kernel
theorem x_163_105 : decode (q_code 163) 105 = .ok (.iinc 3 1, 3) := by decide +kernel
theorem x_163_108 : decode (q_code 163) 108 = .ok (.aload_n 0, 1) := by decide +kernel
theorem x_163_109 : decode (q_code 163) 109 = .ok (.getfield 21, 3) := by decide +kernel
theorem x_163_112 : decode (q_code 163) 112 = .ok (.iload 4, 2) := by decide +kernel
theorem x_163_114 : decode (q_code 163) 114 = .ok (.invokestatic 114, 3) := by decide +kernel
theorem x_163_117 : decode (q_code 163) 117 = .ok (.istore 4, 2) := by decide +kernel
theorem x_163_119 : decode (q_code 163) 119 = .ok (.iinc 5 1, 3) := by decide +kernel
theorem x_163_122 : decode (q_code 163) 122 = .ok (.goto (-95), 3) := by decide +kernel
theorem x_163_125 : decode (q_code 163) 125 = .ok (.iconst 0, 1) := by decide +kernel
theorem x_163_126 : decode (q_code 163) 126 = .ok (.istore 5, 2) := by decide +kernel
theorem x_163_128 : decode (q_code 163) 128 = .ok (.iload 5, 2) := by decide +kernel
theorem x_163_130 : decode (q_code 163) 130 = .ok (.aload_n 0, 1) := by decide +kernel
theorem x_163_131 : decode (q_code 163) 131 = .ok (.getfield 84, 3) := by decide +kernel
theorem x_163_134 : decode (q_code 163) 134 = .ok (.if_icmp .ge 68, 3) := by decide +kernel
theorem x_163_137 : decode (q_code 163) 137 = .ok (.iload 5, 2) := by decide +kernel
theorem x_163_139 : decode (q_code 163) 139 = .ok (.istore 6, 2) := by decide +kernel
theorem x_163_141 : decode (q_code 163) 141 = .ok (.iload 6, 2) := by decide +kernel
theorem x_163_143 : decode (q_code 163) 143 = .ok (.ifCond .le 44, 3) := by decide +kernel
theorem x_163_146 : decode (q_code 163) 146 = .ok (.aload_n 0, 1) := by decide +kernel
theorem x_163_147 : decode (q_code 163) 147 = .ok (.aload_n 0, 1) := by decide +kernel
theorem x_163_148 : decode (q_code 163) 148 = .ok (.getfield 61, 3) := by decide +kernel
theorem x_163_151 : decode (q_code 163) 151 = .ok (.iload 6, 2) := by decide +kernel
theorem x_163_153 : decode (q_code 163) 153 = .ok (.iconst 1, 1) := by decide +kernel
theorem x_163_154 : decode (q_code 163) 154 = .ok (.isub, 1) := by decide +kernel
theorem x_163_155 : decode (q_code 163) 155 = .ok (.iaload, 1) := by decide +kernel
theorem x_163_156 : decode (q_code 163) 156 = .ok (.iload 5, 2) := by decide +kernel
theorem x_163_158 : decode (q_code 163) 158 = .ok (.iload_n 3, 1) := by decide +kernel
theorem x_163_159 : decode (q_code 163) 159 = .ok (.invokevirtual 370, 3) := by decide +kernel
theorem x_163_162 : decode (q_code 163) 162 = .ok (.ifCond .le 25, 3) := by decide +kernel
theorem x_163_165 : decode (q_code 163) 165 = .ok (.aload_n 0, 1) := by decide +kernel
theorem x_163_166 : decode (q_code 163) 166 = .ok (.getfield 61, 3) := by decide +kernel
theorem x_163_169 : decode (q_code 163) 169 = .ok (.iload 6, 2) := by decide +kernel
theorem x_163_171 : decode (q_code 163) 171 = .ok (.aload_n 0, 1) := by decide +kernel
theorem x_163_172 : decode (q_code 163) 172 = .ok (.getfield 61, 3) := by decide +kernel
theorem x_163_175 : decode (q_code 163) 175 = .ok (.iload 6, 2) := by decide +kernel
theorem x_163_177 : decode (q_code 163) 177 = .ok (.iconst 1, 1) := by decide +kernel
theorem x_163_178 : decode (q_code 163) 178 = .ok (.isub, 1) := by decide +kernel
theorem x_163_179 : decode (q_code 163) 179 = .ok (.iaload, 1) := by decide +kernel
theorem x_163_180 : decode (q_code 163) 180 = .ok (.iastore, 1) := by decide +kernel
theorem x_163_181 : decode (q_code 163) 181 = .ok (.iinc 6 (-1), 3) := by decide +kernel
theorem x_163_184 : decode (q_code 163) 184 = .ok (.goto (-43), 3) := by decide +kernel
theorem x_163_187 : decode (q_code 163) 187 = .ok (.aload_n 0, 1) := by decide +kernel
theorem x_163_188 : decode (q_code 163) 188 = .ok (.getfield 61, 3) := by decide +kernel
theorem x_163_191 : decode (q_code 163) 191 = .ok (.iload 6, 2) := by decide +kernel
theorem x_163_193 : decode (q_code 163) 193 = .ok (.iload 5, 2) := by decide +kernel
theorem x_163_195 : decode (q_code 163) 195 = .ok (.iastore, 1) := by decide +kernel
theorem x_163_196 : decode (q_code 163) 196 = .ok (.iinc 5 1, 3) := by decide +kernel
theorem x_163_199 : decode (q_code 163) 199 = .ok (.goto (-71), 3) := by decide +kernel
theorem x_163_202 : decode (q_code 163) 202 = .ok (.iconst 0, 1) := by decide +kernel
theorem x_163_203 : decode (q_code 163) 203 = .ok (.istore 5, 2) := by decide +kernel
theorem x_163_205 : decode (q_code 163) 205 = .ok (.iload 5, 2) := by decide +kernel
theorem x_163_207 : decode (q_code 163) 207 = .ok (.aload_n 0, 1) := by decide +kernel
theorem x_163_208 : decode (q_code 163) 208 = .ok (.getfield 84, 3) := by decide +kernel
theorem x_163_211 : decode (q_code 163) 211 = .ok (.if_icmp .ge 28, 3) := by decide +kernel
theorem x_163_214 : decode (q_code 163) 214 = .ok (.aload_n 0, 1) := by decide +kernel
theorem x_163_215 : decode (q_code 163) 215 = .ok (.getfield 52, 3) := by decide +kernel
theorem x_163_218 : decode (q_code 163) 218 = .ok (.iload 5, 2) := by decide +kernel
theorem x_163_220 : decode (q_code 163) 220 = .ok (.aload_n 0, 1) := by decide +kernel
theorem x_163_221 : decode (q_code 163) 221 = .ok (.getfield 48, 3) := by decide +kernel
theorem x_163_224 : decode (q_code 163) 224 = .ok (.aload_n 0, 1) := by decide +kernel
theorem x_163_225 : decode (q_code 163) 225 = .ok (.getfield 61, 3) := by decide +kernel
theorem x_163_228 : decode (q_code 163) 228 = .ok (.iload 5, 2) := by decide +kernel
theorem x_163_230 : decode (q_code 163) 230 = .ok (.iaload, 1) := by decide +kernel
theorem x_163_231 : decode (q_code 163) 231 = .ok (.iaload, 1) := by decide +kernel
theorem x_163_232 : decode (q_code 163) 232 = .ok (.iastore, 1) := by decide +kernel
theorem x_163_233 : decode (q_code 163) 233 = .ok (.iinc 5 1, 3) := by decide +kernel
theorem x_163_236 : decode (q_code 163) 236 = .ok (.goto (-31), 3) := by decide +kernel
theorem x_163_239 : decode (q_code 163) 239 = .ok (.aload_n 0, 1) := by decide +kernel
theorem x_163_240 : decode (q_code 163) 240 = .ok (.getfield 52, 3) := by decide +kernel
theorem x_163_243 : decode (q_code 163) 243 = .ok (.iconst 0, 1) := by decide +kernel
theorem x_163_244 : decode (q_code 163) 244 = .ok (.aload_n 0, 1) := by decide +kernel
theorem x_163_245 : decode (q_code 163) 245 = .ok (.getfield 48, 3) := by decide +kernel
theorem x_163_248 : decode (q_code 163) 248 = .ok (.iconst 0, 1) := by decide +kernel
theorem x_163_249 : decode (q_code 163) 249 = .ok (.aload_n 0, 1) := by decide +kernel
theorem x_163_250 : decode (q_code 163) 250 = .ok (.getfield 84, 3) := by decide +kernel
theorem x_163_253 : decode (q_code 163) 253 = .ok (.invokestatic 88, 3) := by decide +kernel
theorem x_163_256 : decode (q_code 163) 256 = .ok (.iconst 0, 1) := by decide +kernel
theorem x_163_257 : decode (q_code 163) 257 = .ok (.ireturn, 1) := by decide +kernel
theorem x_164_0 : decode (q_code 164) 0 = .ok (.aload_n 0, 1) := by decide +kernel
theorem x_164_1 : decode (q_code 164) 1 = .ok (.getfield 9, 3) := by decide +kernel
theorem x_164_4 : decode (q_code 164) 4 = .ok (.getfield 374, 3) := by decide +kernel
theorem x_164_7 : decode (q_code 164) 7 = .ok (.istore_n 3, 1) := by decide +kernel
theorem x_164_8 : decode (q_code 164) 8 = .ok (.aload_n 0, 1) := by decide +kernel
theorem x_164_9 : decode (q_code 164) 9 = .ok (.getfield 27, 3) := by decide +kernel
theorem x_164_12 : decode (q_code 164) 12 = .ok (.aload_n 0, 1) := by decide +kernel
theorem x_164_13 : decode (q_code 164) 13 = .ok (.getfield 9, 3) := by decide +kernel
theorem x_164_16 : decode (q_code 164) 16 = .ok (.iload_n 1, 1) := by decide +kernel
theorem x_164_17 : decode (q_code 164) 17 = .ok (.iconst 0, 1) := by decide +kernel
theorem x_164_18 : decode (q_code 164) 18 = .ok (.iconst 0, 1) := by decide +kernel
theorem x_164_19 : decode (q_code 164) 19 = .ok (.invokevirtual 377, 3) := by decide +kernel
theorem x_164_22 : decode (q_code 164) 22 = .ok (.aload_n 0, 1) := by decide +kernel
theorem x_164_23 : decode (q_code 164) 23 = .ok (.getfield 9, 3) := by decide +kernel
theorem x_164_26 : decode (q_code 164) 26 = .ok (.iload_n 3, 1) := by decide +kernel
theorem x_164_27 : decode (q_code 164) 27 = .ok (.iconst (-1), 1) := by decide +kernel
theorem x_164_28 : decode (q_code 164) 28 = .ok (.invokevirtual 381, 3) := by decide +kernel
theorem x_164_31 : decode (q_code 164) 31 = .ok (.aload_n 0, 1) := by decide +kernel
theorem x_164_32 : decode (q_code 164) 32 = .ok (.getfield 9, 3) := by decide +kernel
theorem x_164_35 : decode (q_code 164) 35 = .ok (.iload_n 3, 1) := by decide +kernel
theorem x_164_36 : decode (q_code 164) 36 = .ok (.invokevirtual 384, 3) := by decide +kernel
theorem x_164_39 : decode (q_code 164) 39 = .ok (.istore 4, 2) := by decide +kernel
theorem x_164_41 : decode (q_code 164) 41 = .ok (.iload_n 3, 1) := by decide +kernel
theorem x_164_42 : decode (q_code 164) 42 = .ok (.iconst 1, 1) := by decide +kernel
theorem x_164_43 : decode (q_code 164) 43 = .ok (.iadd, 1) := by decide +kernel
theorem x_164_44 : decode (q_code 164) 44 = .ok (.istore 5, 2) := by decide +kernel
theorem x_164_46 : decode (q_code 164) 46 = .ok (.iload 5, 2) := by decide +kernel
theorem x_164_48 : decode (q_code 164) 48 = .ok (.aload_n 0, 1) := by decide +kernel
theorem x_164_49 : decode (q_code 164) 49 = .ok (.getfield 9, 3) := by decide +kernel
theorem x_164_52 : decode (q_code 164) 52 = .ok (.getfield 374, 3) := by decide +kernel
theorem x_164_55 : decode (q_code 164) 55 = .ok (.if_icmp .ge 48, 3) := by decide +kernel
theorem x_164_58 : decode (q_code 164) 58 = .ok (.aload_n 0, 1) := by decide +kernel
theorem x_164_59 : decode (q_code 164) 59 = .ok (.getfield 21, 3) := by decide +kernel
theorem x_164_62 : decode (q_code 164) 62 = .ok (.aload_n 0, 1) := by decide +kernel
theorem x_164_63 : decode (q_code 164) 63 = .ok (.getfield 9, 3) := by decide +kernel
theorem x_164_66 : decode (q_code 164) 66 = .ok (.iload 5, 2) := by decide +kernel
theorem x_164_68 : decode (q_code 164) 68 = .ok (.invokevirtual 384, 3) := by decide +kernel
theorem x_164_71 : decode (q_code 164) 71 = .ok (.aload_n 0, 1) := by decide +kernel
theorem x_164_72 : decode (q_code 164) 72 = .ok (.getfield 21, 3) := by decide +kernel
theorem x_164_75 : decode (q_code 164) 75 = .ok (.iload 4, 2) := by decide +kernel
theorem x_164_77 : decode (q_code 164) 77 = .ok (.iconst 0, 1) := by decide +kernel
theorem x_164_78 : decode (q_code 164) 78 = .ok (.invokestatic 313, 3) := by decide +kernel
theorem x_164_81 : decode (q_code 164) 81 = .ok (.iload_n 2, 1) := by decide +kernel
theorem x_164_82 : decode (q_code 164) 82 = .ok (.imul, 1) := by decide +kernel
theorem x_164_83 : decode (q_code 164) 83 = .ok (.ifCond .ge 14, 3) := by decide +kernel
theorem x_164_86 : decode (q_code 164) 86 = .ok (.aload_n 0, 1) := by decide +kernel
theorem x_164_87 : decode (q_code 164) 87 = .ok (.getfield 9, 3) := by decide +kernel
theorem x_164_90 : decode (q_code 164) 90 = .ok (.iload 5, 2) := by decide +kernel
theorem x_164_92 : decode (q_code 164) 92 = .ok (.invokevirtual 384, 3) := by decide +kernel
theorem x_164_95 : decode (q_code 164) 95 = .ok (.istore 4, 2) := by decide +kernel
theorem x_164_97 : decode (q_code 164) 97 = .ok (.iinc 5 1, 3) := by decide +kernel
theorem x_164_100 : decode (q_code 164) 100 = .ok (.goto (-54), 3) := by decide +kernel
theorem x_164_103 : decode (q_code 164) 103 = .ok (.aload_n 0, 1) := by decide +kernel
theorem x_164_104 : decode (q_code 164) 104 = .ok (.getfield 9, 3) := by decide +kernel
theorem x_164_107 : decode (q_code 164) 107 = .ok (.iload_n 3, 1) := by decide +kernel
theorem x_164_108 : decode (q_code 164) 108 = .ok (.putfield 374, 3) := by decide +kernel
theorem x_164_111 : decode (q_code 164) 111 = .ok (.iload 4, 2) := by decide +kernel
theorem x_164_113 : decode (q_code 164) 113 = .ok (.ireturn, 1) := by decide +kernel
theorem x_165_0 : decode (q_code 165) 0 = .ok (.iconst 0, 1) := by decide +kernel
theorem x_165_1 : decode (q_code 165) 1 = .ok (.istore 4, 2) := by decide +kernel
theorem x_165_3 : decode (q_code 165) 3 = .ok (.iconst 0, 1) := by decide +kernel
theorem x_165_4 : decode (q_code 165) 4 = .ok (.istore 5, 2) := by decide +kernel
theorem x_165_6 : decode (q_code 165) 6 = .ok (.iload 5, 2) := by decide +kernel
theorem x_165_8 : decode (q_code 165) 8 = .ok (.iload_n 3, 1) := by decide +kernel
theorem x_165_9 : decode (q_code 165) 9 = .ok (.if_icmp .ge 54, 3) := by decide +kernel
theorem x_165_12 : decode (q_code 165) 12 = .ok (.iload 4, 2) := by decide +kernel
theorem x_165_14 : decode (q_code 165) 14 = .ok (.ifCond .ne 49, 3) := by decide +kernel
theorem x_165_17 : decode (q_code 165) 17 = .ok (.aload_n 0, 1) := by decide +kernel
theorem x_165_18 : decode (q_code 165) 18 = .ok (.getfield 21, 3) := by decide +kernel
theorem x_165_21 : decode (q_code 165) 21 = .ok (.aload_n 0, 1) := by decide +kernel
theorem x_165_22 : decode (q_code 165) 22 = .ok (.getfield 66, 3) := by decide +kernel
theorem x_165_25 : decode (q_code 165) 25 = .ok (.iload 5, 2) := by decide +kernel
theorem x_165_27 : decode (q_code 165) 27 = .ok (.aaload, 1) := by decide +kernel
theorem x_165_28 : decode (q_code 165) 28 = .ok (.iload_n 1, 1) := by decide +kernel
theorem x_165_29 : decode (q_code 165) 29 = .ok (.iaload, 1) := by decide +kernel
theorem x_165_30 : decode (q_code 165) 30 = .ok (.aload_n 0, 1) := by decide +kernel
theorem x_165_31 : decode (q_code 165) 31 = .ok (.getfield 21, 3) := by decide +kernel
theorem x_165_34 : decode (q_code 165) 34 = .ok (.aload_n 0, 1) := by decide +kernel
theorem x_165_35 : decode (q_code 165) 35 = .ok (.getfield 66, 3) := by decide +kernel
theorem x_165_38 : decode (q_code 165) 38 = .ok (.iload 5, 2) := by decide +kernel
theorem x_165_40 : decode (q_code 165) 40 = .ok (.aaload, 1) := by decide +kernel
theorem x_165_41 : decode (q_code 165) 41 = .ok (.iload_n 2, 1) := by decide +kernel
theorem x_165_42 : decode (q_code 165) 42 = .ok (.iaload, 1) := by decide +kernel
theorem x_165_43 : decode (q_code 165) 43 = .ok (.iconst 0, 1) := by decide +kernel
theorem x_165_44 : decode (q_code 165) 44 = .ok (.invokestatic 313, 3) := by decide +kernel
theorem x_165_47 : decode (q_code 165) 47 = .ok (.aload_n 0, 1) := by decide +kernel
theorem x_165_48 : decode (q_code 165) 48 = .ok (.getfield 69, 3) := by decide +kernel
theorem x_165_51 : decode (q_code 165) 51 = .ok (.iload 5, 2) := by decide +kernel
theorem x_165_53 : decode (q_code 165) 53 = .ok (.iaload, 1) := by decide +kernel
theorem x_165_54 : decode (q_code 165) 54 = .ok (.imul, 1) := by decide +kernel
theorem x_165_55 : decode (q_code 165) 55 = .ok (.istore 4, 2) := by decide +kernel
theorem x_165_57 : decode (q_code 165) 57 = .ok (.iinc 5 1, 3) := by decide +kernel
theorem x_165_60 : decode (q_code 165) 60 = .ok (.goto (-54), 3) := by decide +kernel
theorem x_165_63 : decode (q_code 165) 63 = .ok (.iload 4, 2) := by decide +kernel
theorem x_165_65 : decode (q_code 165) 65 = .ok (.ireturn, 1) := by decide +kernel
theorem x_166_0 : decode (q_code 166) 0 = .ok (.aload_n 0, 1) := by decide +kernel
theorem x_166_1 : decode (q_code 166) 1 = .ok (.getfield 21, 3) := by decide +kernel
theorem x_166_4 : decode (q_code 166) 4 = .ok (.iload_n 1, 1) := by decide +kernel
theorem x_166_5 : decode (q_code 166) 5 = .ok (.invokestatic 341, 3) := by decide +kernel
theorem x_166_8 : decode (q_code 166) 8 = .ok (.ifCond .eq 14, 3) := by decide +kernel
theorem x_166_11 : decode (q_code 166) 11 = .ok (.aload_n 0, 1) := by decide +kernel
theorem x_166_12 : decode (q_code 166) 12 = .ok (.getfield 21, 3) := by decide +kernel
theorem x_166_15 : decode (q_code 166) 15 = .ok (.iload_n 1, 1) := by decide +kernel
theorem x_166_16 : decode (q_code 166) 16 = .ok (.invokestatic 345, 3) := by decide +kernel
theorem x_166_19 : decode (q_code 166) 19 = .ok (.goto 6, 3) := by decide +kernel
theorem x_166_22 : decode (q_code 166) 22 = .ok (.ldc2_w 356, 3) := by decide +kernel
theorem x_166_25 : decode (q_code 166) 25 = .ok (.lstore_n 2, 1) := by decide +kernel
theorem x_166_26 : decode (q_code 166) 26 = .ok (.lload_n 2, 1) := by decide +kernel
theorem x_166_27 : decode (q_code 166) 27 = .ok (.lconst 0, 1) := by decide +kernel
theorem x_166_28 : decode (q_code 166) 28 = .ok (.lcmp, 1) := by decide +kernel
theorem x_166_29 : decode (q_code 166) 29 = .ok (.ifCond .ge 5, 3) := by decide +kernel
theorem x_166_32 : decode (q_code 166) 32 = .ok (.iconst 2, 1) := by decide +kernel
theorem x_166_33 : decode (q_code 166) 33 = .ok (.ireturn, 1) := by decide +kernel
theorem x_166_34 : decode (q_code 166) 34 = .ok (.lload_n 2, 1) := by decide +kernel
theorem x_166_35 : decode (q_code 166) 35 = .ok (.aload_n 0, 1) := by decide +kernel
theorem x_166_36 : decode (q_code 166) 36 = .ok (.getfield 84, 3) := by decide +kernel
theorem x_166_39 : decode (q_code 166) 39 = .ok (.i2l, 1) := by decide +kernel
theorem x_166_40 : decode (q_code 166) 40 = .ok (.invokestatic 387, 3) := by decide +kernel
theorem x_166_43 : decode (q_code 166) 43 = .ok (.l2i, 1) := by decide +kernel
theorem x_166_44 : decode (q_code 166) 44 = .ok (.istore 4, 2) := by decide +kernel
theorem x_166_46 : decode (q_code 166) 46 = .ok (.aload_n 0, 1) := by decide +kernel
theorem x_166_47 : decode (q_code 166) 47 = .ok (.getfield 48, 3) := by decide +kernel
theorem x_166_50 : decode (q_code 166) 50 = .ok (.iload 4, 2) := by decide +kernel
theorem x_166_52 : decode (q_code 166) 52 = .ok (.aload_n 0, 1) := by decide +kernel
theorem x_166_53 : decode (q_code 166) 53 = .ok (.getfield 48, 3) := by decide +kernel
theorem x_166_56 : decode (q_code 166) 56 = .ok (.iconst 0, 1) := by decide +kernel
theorem x_166_57 : decode (q_code 166) 57 = .ok (.aload_n 0, 1) := by decide +kernel
theorem x_166_58 : decode (q_code 166) 58 = .ok (.getfield 84, 3) := by decide +kernel
theorem x_166_61 : decode (q_code 166) 61 = .ok (.iload 4, 2) := by decide +kernel
theorem x_166_63 : decode (q_code 166) 63 = .ok (.isub, 1) := by decide +kernel
theorem x_166_64 : decode (q_code 166) 64 = .ok (.invokestatic 88, 3) := by decide +kernel
theorem x_166_67 : decode (q_code 166) 67 = .ok (.aload_n 0, 1) := by decide +kernel
theorem x_166_68 : decode (q_code 166) 68 = .ok (.dup, 1) := by decide +kernel
theorem x_166_69 : decode (q_code 166) 69 = .ok (.getfield 84, 3) := by decide +kernel
theorem x_166_72 : decode (q_code 166) 72 = .ok (.iload 4, 2) := by decide +kernel
theorem x_166_74 : decode (q_code 166) 74 = .ok (.isub, 1) := by decide +kernel
theorem x_166_75 : decode (q_code 166) 75 = .ok (.putfield 84, 3) := by decide +kernel
theorem x_166_78 : decode (q_code 166) 78 = .ok (.iconst 0, 1) := by decide +kernel
theorem x_166_79 : decode (q_code 166) 79 = .ok (.ireturn, 1) := by decide +kernel
theorem x_167_0 : decode (q_code 167) 0 = .ok (.aload_n 0, 1) := by decide +kernel
theorem x_167_1 : decode (q_code 167) 1 = .ok (.getfield 21, 3) := by decide +kernel
theorem x_167_4 : decode (q_code 167) 4 = .ok (.iload_n 1, 1) := by decide +kernel
theorem x_167_5 : decode (q_code 167) 5 = .ok (.invokestatic 341, 3) := by decide +kernel
theorem x_167_8 : decode (q_code 167) 8 = .ok (.ifCond .eq 14, 3) := by decide +kernel
theorem x_167_11 : decode (q_code 167) 11 = .ok (.aload_n 0, 1) := by decide +kernel
theorem x_167_12 : decode (q_code 167) 12 = .ok (.getfield 21, 3) := by decide +kernel
theorem x_167_15 : decode (q_code 167) 15 = .ok (.iload_n 1, 1) := by decide +kernel
theorem x_167_16 : decode (q_code 167) 16 = .ok (.invokestatic 345, 3) := by decide +kernel
theorem x_167_19 : decode (q_code 167) 19 = .ok (.goto 6, 3) := by decide +kernel
theorem x_167_22 : decode (q_code 167) 22 = .ok (.ldc2_w 356, 3) := by decide +kernel
theorem x_167_25 : decode (q_code 167) 25 = .ok (.lstore_n 2, 1) := by decide +kernel
theorem x_167_26 : decode (q_code 167) 26 = .ok (.lload_n 2, 1) := by decide +kernel
theorem x_167_27 : decode (q_code 167) 27 = .ok (.lconst 0, 1) := by decide +kernel
theorem x_167_28 : decode (q_code 167) 28 = .ok (.lcmp, 1) := by decide +kernel
theorem x_167_29 : decode (q_code 167) 29 = .ok (.ifCond .ge 5, 3) := by decide +kernel
theorem x_167_32 : decode (q_code 167) 32 = .ok (.iconst 2, 1) := by decide +kernel
theorem x_167_33 : decode (q_code 167) 33 = .ok (.ireturn, 1) := by decide +kernel
theorem x_167_34 : decode (q_code 167) 34 = .ok (.aload_n 0, 1) := by decide +kernel
theorem x_167_35 : decode (q_code 167) 35 = .ok (.lload_n 2, 1) := by decide +kernel
theorem x_167_36 : decode (q_code 167) 36 = .ok (.aload_n 0, 1) := by decide +kernel
theorem x_167_37 : decode (q_code 167) 37 = .ok (.getfield 84, 3) := by decide +kernel
theorem x_167_40 : decode (q_code 167) 40 = .ok (.i2l, 1) := by decide +kernel
theorem x_167_41 : decode (q_code 167) 41 = .ok (.invokestatic 387, 3) := by decide +kernel
theorem x_167_44 : decode (q_code 167) 44 = .ok (.l2i, 1) := by decide +kernel
theorem x_167_45 : decode (q_code 167) 45 = .ok (.putfield 84, 3) := by decide +kernel
theorem x_167_48 : decode (q_code 167) 48 = .ok (.iconst 0, 1) := by decide +kernel
theorem x_167_49 : decode (q_code 167) 49 = .ok (.ireturn, 1) := by decide +kernel
theorem x_168_0 : decode (q_code 168) 0 = .ok (.aload_n 0, 1) := by decide +kernel
theorem x_168_1 : decode (q_code 168) 1 = .ok (.getfield 21, 3) := by decide +kernel
theorem x_168_4 : decode (q_code 168) 4 = .ok (.iload_n 1, 1) := by decide +kernel
theorem x_168_5 : decode (q_code 168) 5 = .ok (.invokestatic 105, 3) := by decide +kernel
theorem x_168_8 : decode (q_code 168) 8 = .ok (.iconst 3, 1) := by decide +kernel
theorem x_168_9 : decode (q_code 168) 9 = .ok (.if_icmp .ne 95, 3) := by decide +kernel
theorem x_168_12 : decode (q_code 168) 12 = .ok (.aload_n 0, 1) := by decide +kernel
theorem x_168_13 : decode (q_code 168) 13 = .ok (.getfield 21, 3) := by decide +kernel
theorem x_168_16 : decode (q_code 168) 16 = .ok (.iload_n 1, 1) := by decide +kernel
theorem x_168_17 : decode (q_code 168) 17 = .ok (.invokestatic 353, 3) := by decide +kernel
theorem x_168_20 : decode (q_code 168) 20 = .ok (.iconst 3, 1) := by decide +kernel
theorem x_168_21 : decode (q_code 168) 21 = .ok (.if_icmp .ne 83, 3) := by decide +kernel
theorem x_168_24 : decode (q_code 168) 24 = .ok (.aload_n 0, 1) := by decide +kernel
theorem x_168_25 : decode (q_code 168) 25 = .ok (.getfield 21, 3) := by decide +kernel
theorem x_168_28 : decode (q_code 168) 28 = .ok (.iload_n 2, 1) := by decide +kernel
theorem x_168_29 : decode (q_code 168) 29 = .ok (.invokestatic 105, 3) := by decide +kernel
theorem x_168_32 : decode (q_code 168) 32 = .ok (.iconst 2, 1) := by decide +kernel
theorem x_168_33 : decode (q_code 168) 33 = .ok (.if_icmp .ne 71, 3) := by decide +kernel
theorem x_168_36 : decode (q_code 168) 36 = .ok (.aload_n 0, 1) := by decide +kernel
theorem x_168_37 : decode (q_code 168) 37 = .ok (.getfield 21, 3) := by decide +kernel
theorem x_168_40 : decode (q_code 168) 40 = .ok (.iload_n 2, 1) := by decide +kernel
theorem x_168_41 : decode (q_code 168) 41 = .ok (.ldc_w 390, 3) := by decide +kernel
theorem x_168_44 : decode (q_code 168) 44 = .ok (.invokestatic 110, 3) := by decide +kernel
theorem x_168_47 : decode (q_code 168) 47 = .ok (.ifCond .eq 57, 3) := by decide +kernel
theorem x_168_50 : decode (q_code 168) 50 = .ok (.aload_n 0, 1) := by decide +kernel
theorem x_168_51 : decode (q_code 168) 51 = .ok (.getfield 21, 3) := by decide +kernel
theorem x_168_54 : decode (q_code 168) 54 = .ok (.iload_n 3, 1) := by decide +kernel
theorem x_168_55 : decode (q_code 168) 55 = .ok (.invokestatic 105, 3) := by decide +kernel
theorem x_168_58 : decode (q_code 168) 58 = .ok (.iconst 2, 1) := by decide +kernel
theorem x_168_59 : decode (q_code 168) 59 = .ok (.if_icmp .ne 45, 3) := by decide +kernel
theorem x_168_62 : decode (q_code 168) 62 = .ok (.aload_n 0, 1) := by decide +kernel
theorem x_168_63 : decode (q_code 168) 63 = .ok (.getfield 21, 3) := by decide +kernel
theorem x_168_66 : decode (q_code 168) 66 = .ok (.iload_n 3, 1) := by decide +kernel
theorem x_168_67 : decode (q_code 168) 67 = .ok (.ldc_w 392, 3) := by decide +kernel
theorem x_168_70 : decode (q_code 168) 70 = .ok (.invokestatic 110, 3) := by decide +kernel
theorem x_168_73 : decode (q_code 168) 73 = .ok (.ifCond .eq 31, 3) := by decide +kernel
theorem x_168_76 : decode (q_code 168) 76 = .ok (.aload_n 0, 1) := by decide +kernel
theorem x_168_77 : decode (q_code 168) 77 = .ok (.getfield 21, 3) := by decide +kernel
theorem x_168_80 : decode (q_code 168) 80 = .ok (.iload 4, 2) := by decide +kernel
theorem x_168_82 : decode (q_code 168) 82 = .ok (.invokestatic 105, 3) := by decide +kernel
theorem x_168_85 : decode (q_code 168) 85 = .ok (.iconst 2, 1) := by decide +kernel
theorem x_168_86 : decode (q_code 168) 86 = .ok (.if_icmp .ne 18, 3) := by decide +kernel
theorem x_168_89 : decode (q_code 168) 89 = .ok (.aload_n 0, 1) := by decide +kernel
theorem x_168_90 : decode (q_code 168) 90 = .ok (.getfield 21, 3) := by decide +kernel
theorem x_168_93 : decode (q_code 168) 93 = .ok (.iload 4, 2) := by decide +kernel
theorem x_168_95 : decode (q_code 168) 95 = .ok (.ldc_w 394, 3) := by decide +kernel
theorem x_168_98 : decode (q_code 168) 98 = .ok (.invokestatic 110, 3) := by decide +kernel
theorem x_168_101 : decode (q_code 168) 101 = .ok (.ifCond .ne 5, 3) := by decide +kernel
theorem x_168_104 : decode (q_code 168) 104 = .ok (.iconst 2, 1) := by decide +kernel
theorem x_168_105 : decode (q_code 168) 105 = .ok (.ireturn, 1) := by decide +kernel
theorem x_168_106 : decode (q_code 168) 106 = .ok (.aload_n 0, 1) := by decide +kernel
theorem x_168_107 : decode (q_code 168) 107 = .ok (.getfield 21, 3) := by decide +kernel
theorem x_168_110 : decode (q_code 168) 110 = .ok (.iload 4, 2) := by decide +kernel
theorem x_168_112 : decode (q_code 168) 112 = .ok (.invokestatic 205, 3) := by decide +kernel
theorem x_168_115 : decode (q_code 168) 115 = .ok (.istore 5, 2) := by decide +kernel
theorem x_168_117 : decode (q_code 168) 117 = .ok (.aload_n 0, 1) := by decide +kernel
theorem x_168_118 : decode (q_code 168) 118 = .ok (.iload 5, 2) := by decide +kernel
theorem x_168_120 : decode (q_code 168) 120 = .ok (.iconst 4, 1) := by decide +kernel
theorem x_168_121 : decode (q_code 168) 121 = .ok (.iadd, 1) := by decide +kernel
theorem x_168_122 : decode (q_code 168) 122 = .ok (.iload 5, 2) := by decide +kernel
theorem x_168_124 : decode (q_code 168) 124 = .ok (.iconst 3, 1) := by decide +kernel
theorem x_168_125 : decode (q_code 168) 125 = .ok (.iadd, 1) := by decide +kernel
theorem x_168_126 : decode (q_code 168) 126 = .ok (.aload_n 0, 1) := by decide +kernel
theorem x_168_127 : decode (q_code 168) 127 = .ok (.getfield 21, 3) := by decide +kernel
theorem x_168_130 : decode (q_code 168) 130 = .ok (.iload 5, 2) := by decide +kernel
theorem x_168_132 : decode (q_code 168) 132 = .ok (.invokestatic 212, 3) := by decide +kernel
theorem x_168_135 : decode (q_code 168) 135 = .ok (.iadd, 1) := by decide +kernel
theorem x_168_136 : decode (q_code 168) 136 = .ok (.invokevirtual 208, 3) := by decide +kernel
theorem x_168_139 : decode (q_code 168) 139 = .ok (.ifCond .ne 5, 3) := by decide +kernel
theorem x_168_142 : decode (q_code 168) 142 = .ok (.iconst 2, 1) := by decide +kernel
theorem x_168_143 : decode (q_code 168) 143 = .ok (.ireturn, 1) := by decide +kernel
theorem x_168_144 : decode (q_code 168) 144 = .ok (.aload_n 0, 1) := by decide +kernel
theorem x_168_145 : decode (q_code 168) 145 = .ok (.getfield 27, 3) := by decide +kernel
theorem x_168_148 : decode (q_code 168) 148 = .ok (.aload_n 0, 1) := by decide +kernel
theorem x_168_149 : decode (q_code 168) 149 = .ok (.getfield 21, 3) := by decide +kernel
theorem x_168_152 : decode (q_code 168) 152 = .ok (.iload_n 2, 1) := by decide +kernel
theorem x_168_153 : decode (q_code 168) 153 = .ok (.iconst 0, 1) := by decide +kernel
theorem x_168_154 : decode (q_code 168) 154 = .ok (.invokevirtual 219, 3) := by decide +kernel
theorem x_168_157 : decode (q_code 168) 157 = .ok (.ifCond .eq 23, 3) := by decide +kernel
theorem x_168_160 : decode (q_code 168) 160 = .ok (.aload_n 0, 1) := by decide +kernel
theorem x_168_161 : decode (q_code 168) 161 = .ok (.getfield 31, 3) := by decide +kernel
theorem x_168_164 : decode (q_code 168) 164 = .ok (.aload_n 0, 1) := by decide +kernel
theorem x_168_165 : decode (q_code 168) 165 = .ok (.getfield 21, 3) := by decide +kernel
theorem x_168_168 : decode (q_code 168) 168 = .ok (.iload_n 3, 1) := by decide +kernel
theorem x_168_169 : decode (q_code 168) 169 = .ok (.iconst 0, 1) := by decide +kernel
theorem x_168_170 : decode (q_code 168) 170 = .ok (.invokevirtual 219, 3) := by decide +kernel
theorem x_168_173 : decode (q_code 168) 173 = .ok (.ifCond .eq 7, 3) := by decide +kernel
theorem x_168_176 : decode (q_code 168) 176 = .ok (.iconst 0, 1) := by decide +kernel
theorem x_168_177 : decode (q_code 168) 177 = .ok (.goto 4, 3) := by decide +kernel
theorem x_168_180 : decode (q_code 168) 180 = .ok (.iconst 3, 1) := by decide +kernel
theorem x_168_181 : decode (q_code 168) 181 = .ok (.ireturn, 1) := by decide +kernel
theorem x_169_0 : decode (q_code 169) 0 = .ok (.aload_n 0, 1) := by decide +kernel
theorem x_169_1 : decode (q_code 169) 1 = .ok (.getfield 21, 3) := by decide +kernel
theorem x_169_4 : decode (q_code 169) 4 = .ok (.iload_n 1, 1) := by decide +kernel
theorem x_169_5 : decode (q_code 169) 5 = .ok (.invokestatic 101, 3) := by decide +kernel
theorem x_169_8 : decode (q_code 169) 8 = .ok (.istore_n 2, 1) := by decide +kernel
theorem x_169_9 : decode (q_code 169) 9 = .ok (.aload_n 0, 1) := by decide +kernel
theorem x_169_10 : decode (q_code 169) 10 = .ok (.getfield 21, 3) := by decide +kernel
theorem x_169_13 : decode (q_code 169) 13 = .ok (.iload_n 2, 1) := by decide +kernel
theorem x_169_14 : decode (q_code 169) 14 = .ok (.invokestatic 114, 3) := by decide +kernel
theorem x_169_17 : decode (q_code 169) 17 = .ok (.istore_n 3, 1) := by decide +kernel
theorem x_169_18 : decode (q_code 169) 18 = .ok (.aload_n 0, 1) := by decide +kernel
theorem x_169_19 : decode (q_code 169) 19 = .ok (.getfield 21, 3) := by decide +kernel
theorem x_169_22 : decode (q_code 169) 22 = .ok (.iload_n 3, 1) := by decide +kernel
theorem x_169_23 : decode (q_code 169) 23 = .ok (.invokestatic 114, 3) := by decide +kernel
theorem x_169_26 : decode (q_code 169) 26 = .ok (.istore 4, 2) := by decide +kernel
theorem x_169_28 : decode (q_code 169) 28 = .ok (.aload_n 0, 1) := by decide +kernel
theorem x_169_29 : decode (q_code 169) 29 = .ok (.iload_n 1, 1) := by decide +kernel
theorem x_169_30 : decode (q_code 169) 30 = .ok (.iload_n 2, 1) := by decide +kernel
theorem x_169_31 : decode (q_code 169) 31 = .ok (.iload_n 3, 1) := by decide +kernel
theorem x_169_32 : decode (q_code 169) 32 = .ok (.iload 4, 2) := by decide +kernel
theorem x_169_34 : decode (q_code 169) 34 = .ok (.invokevirtual 396, 3) := by decide +kernel
theorem x_169_37 : decode (q_code 169) 37 = .ok (.istore 5, 2) := by decide +kernel
theorem x_169_39 : decode (q_code 169) 39 = .ok (.iload 5, 2) := by decide +kernel
theorem x_169_41 : decode (q_code 169) 41 = .ok (.ifCond .eq 6, 3) := by decide +kernel
theorem x_169_44 : decode (q_code 169) 44 = .ok (.iload 5, 2) := by decide +kernel
theorem x_169_46 : decode (q_code 169) 46 = .ok (.ireturn, 1) := by decide +kernel
theorem x_169_47 : decode (q_code 169) 47 = .ok (.aload_n 0, 1) := by decide +kernel
theorem x_169_48 : decode (q_code 169) 48 = .ok (.getfield 21, 3) := by decide +kernel
theorem x_169_51 : decode (q_code 169) 51 = .ok (.iload 4, 2) := by decide +kernel
theorem x_169_53 : decode (q_code 169) 53 = .ok (.invokestatic 205, 3) := by decide +kernel
theorem x_169_56 : decode (q_code 169) 56 = .ok (.iconst 4, 1) := by decide +kernel
theorem x_169_57 : decode (q_code 169) 57 = .ok (.iadd, 1) := by decide +kernel
theorem x_169_58 : decode (q_code 169) 58 = .ok (.istore 6, 2) := by decide +kernel
theorem x_169_60 : decode (q_code 169) 60 = .ok (.iload 6, 2) := by decide +kernel
theorem x_169_62 : decode (q_code 169) 62 = .ok (.iconst 1, 1) := by decide +kernel
theorem x_169_63 : decode (q_code 169) 63 = .ok (.isub, 1) := by decide +kernel
theorem x_169_64 : decode (q_code 169) 64 = .ok (.aload_n 0, 1) := by decide +kernel
theorem x_169_65 : decode (q_code 169) 65 = .ok (.getfield 21, 3) := by decide +kernel
theorem x_169_68 : decode (q_code 169) 68 = .ok (.iload 6, 2) := by decide +kernel
theorem x_169_70 : decode (q_code 169) 70 = .ok (.iconst 4, 1) := by decide +kernel
theorem x_169_71 : decode (q_code 169) 71 = .ok (.isub, 1) := by decide +kernel
theorem x_169_72 : decode (q_code 169) 72 = .ok (.invokestatic 212, 3) := by decide +kernel
theorem x_169_75 : decode (q_code 169) 75 = .ok (.iadd, 1) := by decide +kernel
theorem x_169_76 : decode (q_code 169) 76 = .ok (.istore 7, 2) := by decide +kernel
theorem x_169_78 : decode (q_code 169) 78 = .ok (.aload_n 0, 1) := by decide +kernel
theorem x_169_79 : decode (q_code 169) 79 = .ok (.invokevirtual 258, 3) := by decide +kernel
theorem x_169_82 : decode (q_code 169) 82 = .ok (.iconst 0, 1) := by decide +kernel
theorem x_169_83 : decode (q_code 169) 83 = .ok (.istore 8, 2) := by decide +kernel
theorem x_169_85 : decode (q_code 169) 85 = .ok (.iload 8, 2) := by decide +kernel
theorem x_169_87 : decode (q_code 169) 87 = .ok (.aload_n 0, 1) := by decide +kernel
theorem x_169_88 : decode (q_code 169) 88 = .ok (.getfield 84, 3) := by decide +kernel
theorem x_169_91 : decode (q_code 169) 91 = .ok (.if_icmp .ge 148, 3) := by decide +kernel
theorem x_169_94 : decode (q_code 169) 94 = .ok (.aload_n 0, 1) := by decide +kernel
theorem x_169_95 : decode (q_code 169) 95 = .ok (.getfield 48, 3) := by decide +kernel
theorem x_169_98 : decode (q_code 169) 98 = .ok (.iload 8, 2) := by decide +kernel
theorem x_169_100 : decode (q_code 169) 100 = .ok (.iaload, 1) := by decide +kernel
theorem x_169_101 : decode (q_code 169) 101 = .ok (.istore 9, 2) := by decide +kernel
theorem x_169_103 : decode (q_code 169) 103 = .ok (.aload_n 0, 1) := by decide +kernel
theorem x_169_104 : decode (q_code 169) 104 = .ok (.invokevirtual 261, 3) := by decide +kernel
theorem x_169_107 : decode (q_code 169) 107 = .ok (.istore 10, 2) := by decide +kernel
theorem x_169_109 : decode (q_code 169) 109 = .ok (.aload_n 0, 1) := by decide +kernel
theorem x_169_110 : decode (q_code 169) 110 = .ok (.getfield 21, 3) := by decide +kernel
theorem x_169_113 : decode (q_code 169) 113 = .ok (.iload 9, 2) := by decide +kernel
theorem x_169_115 : decode (q_code 169) 115 = .ok (.aload_n 0, 1) := by decide +kernel
theorem x_169_116 : decode (q_code 169) 116 = .ok (.getfield 21, 3) := by decide +kernel
theorem x_169_119 : decode (q_code 169) 119 = .ok (.iload 6, 2) := by decide +kernel
theorem x_169_121 : decode (q_code 169) 121 = .ok (.iload 7, 2) := by decide +kernel
theorem x_169_123 : decode (q_code 169) 123 = .ok (.invokestatic 237, 3) := by decide +kernel
theorem x_169_126 : decode (q_code 169) 126 = .ok (.istore 11, 2) := by decide +kernel
theorem x_169_128 : decode (q_code 169) 128 = .ok (.aload_n 0, 1) := by decide +kernel
theorem x_169_129 : decode (q_code 169) 129 = .ok (.getfield 21, 3) := by decide +kernel
theorem x_169_132 : decode (q_code 169) 132 = .ok (.iload 9, 2) := by decide +kernel
theorem x_169_134 : decode (q_code 169) 134 = .ok (.invokestatic 114, 3) := by decide +kernel
theorem x_169_137 : decode (q_code 169) 137 = .ok (.iconst 1, 1) := by decide +kernel
theorem x_169_138 : decode (q_code 169) 138 = .ok (.isub, 1) := by decide +kernel
theorem x_169_139 : decode (q_code 169) 139 = .ok (.istore 12, 2) := by decide +kernel
theorem x_169_141 : decode (q_code 169) 141 = .ok (.aload_n 0, 1) := by decide +kernel
theorem x_169_142 : decode (q_code 169) 142 = .ok (.getfield 40, 3) := by decide +kernel
theorem x_169_145 : decode (q_code 169) 145 = .ok (.aload_n 0, 1) := by decide +kernel
theorem x_169_146 : decode (q_code 169) 146 = .ok (.getfield 21, 3) := by decide +kernel
theorem x_169_149 : decode (q_code 169) 149 = .ok (.aload_n 0, 1) := by decide +kernel
theorem x_169_150 : decode (q_code 169) 150 = .ok (.getfield 21, 3) := by decide +kernel
theorem x_169_153 : decode (q_code 169) 153 = .ok (.iload 9, 2) := by decide +kernel
theorem x_169_155 : decode (q_code 169) 155 = .ok (.invokestatic 101, 3) := by decide +kernel
theorem x_169_158 : decode (q_code 169) 158 = .ok (.iload 11, 2) := by decide +kernel
theorem x_169_160 : decode (q_code 169) 160 = .ok (.ifCond .ge 8, 3) := by decide +kernel
theorem x_169_163 : decode (q_code 169) 163 = .ok (.iload 12, 2) := by decide +kernel
theorem x_169_165 : decode (q_code 169) 165 = .ok (.goto 5, 3) := by decide +kernel
theorem x_169_168 : decode (q_code 169) 168 = .ok (.iload 11, 2) := by decide +kernel
theorem x_169_170 : decode (q_code 169) 170 = .ok (.invokevirtual 280, 3) := by decide +kernel
theorem x_169_173 : decode (q_code 169) 173 = .ok (.aload_n 0, 1) := by decide +kernel
theorem x_169_174 : decode (q_code 169) 174 = .ok (.getfield 40, 3) := by decide +kernel
theorem x_169_177 : decode (q_code 169) 177 = .ok (.iconst 4, 1) := by decide +kernel
theorem x_169_178 : decode (q_code 169) 178 = .ok (.aload_n 0, 1) := by decide +kernel
theorem x_169_179 : decode (q_code 169) 179 = .ok (.getfield 21, 3) := by decide +kernel
theorem x_169_182 : decode (q_code 169) 182 = .ok (.iload 6, 2) := by decide +kernel
theorem x_169_184 : decode (q_code 169) 184 = .ok (.iload 7, 2) := by decide +kernel
theorem x_169_186 : decode (q_code 169) 186 = .ok (.invokevirtual 270, 3) := by decide +kernel
theorem x_169_189 : decode (q_code 169) 189 = .ok (.aload_n 0, 1) := by decide +kernel
theorem x_169_190 : decode (q_code 169) 190 = .ok (.iload 9, 2) := by decide +kernel
theorem x_169_192 : decode (q_code 169) 192 = .ok (.invokevirtual 400, 3) := by decide +kernel
theorem x_169_195 : decode (q_code 169) 195 = .ok (.aload_n 0, 1) := by decide +kernel
theorem x_169_196 : decode (q_code 169) 196 = .ok (.getfield 40, 3) := by decide +kernel
theorem x_169_199 : decode (q_code 169) 199 = .ok (.aload_n 0, 1) := by decide +kernel
theorem x_169_200 : decode (q_code 169) 200 = .ok (.getfield 21, 3) := by decide +kernel
theorem x_169_203 : decode (q_code 169) 203 = .ok (.iload 11, 2) := by decide +kernel
theorem x_169_205 : decode (q_code 169) 205 = .ok (.ifCond .ge 8, 3) := by decide +kernel
theorem x_169_208 : decode (q_code 169) 208 = .ok (.iload 12, 2) := by decide +kernel
theorem x_169_210 : decode (q_code 169) 210 = .ok (.goto 12, 3) := by decide +kernel
theorem x_169_213 : decode (q_code 169) 213 = .ok (.aload_n 0, 1) := by decide +kernel
theorem x_169_214 : decode (q_code 169) 214 = .ok (.getfield 21, 3) := by decide +kernel
theorem x_169_217 : decode (q_code 169) 217 = .ok (.iload 11, 2) := by decide +kernel
theorem x_169_219 : decode (q_code 169) 219 = .ok (.invokestatic 114, 3) := by decide +kernel
theorem x_169_222 : decode (q_code 169) 222 = .ok (.iload 12, 2) := by decide +kernel
theorem x_169_224 : decode (q_code 169) 224 = .ok (.invokevirtual 280, 3) := by decide +kernel
theorem x_169_227 : decode (q_code 169) 227 = .ok (.aload_n 0, 1) := by decide +kernel
theorem x_169_228 : decode (q_code 169) 228 = .ok (.iload 10, 2) := by decide +kernel
theorem x_169_230 : decode (q_code 169) 230 = .ok (.invokevirtual 274, 3) := by decide +kernel
theorem x_169_233 : decode (q_code 169) 233 = .ok (.iinc 8 1, 3) := by decide +kernel
theorem x_169_236 : decode (q_code 169) 236 = .ok (.goto (-151), 3) := by decide +kernel
theorem x_169_239 : decode (q_code 169) 239 = .ok (.aload_n 0, 1) := by decide +kernel
theorem x_169_240 : decode (q_code 169) 240 = .ok (.invokevirtual 277, 3) := by decide +kernel
theorem x_169_243 : decode (q_code 169) 243 = .ok (.ireturn, 1) := by decide +kernel
theorem x_170_0 : decode (q_code 170) 0 = .ok (.aload_n 0, 1) := by decide +kernel
theorem x_170_1 : decode (q_code 170) 1 = .ok (.getfield 9, 3) := by decide +kernel
theorem x_170_4 : decode (q_code 170) 4 = .ok (.getfield 374, 3) := by decide +kernel
theorem x_170_7 : decode (q_code 170) 7 = .ok (.istore_n 2, 1) := by decide +kernel
theorem x_170_8 : decode (q_code 170) 8 = .ok (.aload_n 0, 1) := by decide +kernel
theorem x_170_9 : decode (q_code 170) 9 = .ok (.getfield 27, 3) := by decide +kernel
theorem x_170_12 : decode (q_code 170) 12 = .ok (.aload_n 0, 1) := by decide +kernel
theorem x_170_13 : decode (q_code 170) 13 = .ok (.getfield 9, 3) := by decide +kernel
theorem x_170_16 : decode (q_code 170) 16 = .ok (.iload_n 1, 1) := by decide +kernel
theorem x_170_17 : decode (q_code 170) 17 = .ok (.iconst 0, 1) := by decide +kernel
theorem x_170_18 : decode (q_code 170) 18 = .ok (.iconst 0, 1) := by decide +kernel
theorem x_170_19 : decode (q_code 170) 19 = .ok (.invokevirtual 377, 3) := by decide +kernel
theorem x_170_22 : decode (q_code 170) 22 = .ok (.aload_n 0, 1) := by decide +kernel
theorem x_170_23 : decode (q_code 170) 23 = .ok (.getfield 9, 3) := by decide +kernel
theorem x_170_26 : decode (q_code 170) 26 = .ok (.iload_n 2, 1) := by decide +kernel
theorem x_170_27 : decode (q_code 170) 27 = .ok (.iconst 0, 1) := by decide +kernel
theorem x_170_28 : decode (q_code 170) 28 = .ok (.invokevirtual 381, 3) := by decide +kernel
theorem x_170_31 : decode (q_code 170) 31 = .ok (.aload_n 0, 1) := by decide +kernel
theorem x_170_32 : decode (q_code 170) 32 = .ok (.getfield 9, 3) := by decide +kernel
theorem x_170_35 : decode (q_code 170) 35 = .ok (.getfield 374, 3) := by decide +kernel
theorem x_170_38 : decode (q_code 170) 38 = .ok (.istore_n 3, 1) := by decide +kernel
theorem x_170_39 : decode (q_code 170) 39 = .ok (.aload_n 0, 1) := by decide +kernel
theorem x_170_40 : decode (q_code 170) 40 = .ok (.getfield 40, 3) := by decide +kernel
theorem x_170_43 : decode (q_code 170) 43 = .ok (.invokevirtual 185, 3) := by decide +kernel
theorem x_170_46 : decode (q_code 170) 46 = .ok (.istore 4, 2) := by decide +kernel
theorem x_170_48 : decode (q_code 170) 48 = .ok (.iconst 0, 1) := by decide +kernel
theorem x_170_49 : decode (q_code 170) 49 = .ok (.istore 5, 2) := by decide +kernel
theorem x_170_51 : decode (q_code 170) 51 = .ok (.iconst 0, 1) := by decide +kernel
theorem x_170_52 : decode (q_code 170) 52 = .ok (.istore 6, 2) := by decide +kernel
theorem x_170_54 : decode (q_code 170) 54 = .ok (.iload 6, 2) := by decide +kernel
theorem x_170_56 : decode (q_code 170) 56 = .ok (.aload_n 0, 1) := by decide +kernel
theorem x_170_57 : decode (q_code 170) 57 = .ok (.getfield 94, 3) := by decide +kernel
theorem x_170_60 : decode (q_code 170) 60 = .ok (.getfield 72, 3) := by decide +kernel
theorem x_170_63 : decode (q_code 170) 63 = .ok (.if_icmp .ge 105, 3) := by decide +kernel
theorem x_170_66 : decode (q_code 170) 66 = .ok (.iload 6, 2) := by decide +kernel
theorem x_170_68 : decode (q_code 170) 68 = .ok (.aload_n 0, 1) := by decide +kernel
theorem x_170_69 : decode (q_code 170) 69 = .ok (.getfield 94, 3) := by decide +kernel
theorem x_170_72 : decode (q_code 170) 72 = .ok (.getfield 85, 3) := by decide +kernel
theorem x_170_75 : decode (q_code 170) 75 = .ok (.arraylength, 1) := by decide +kernel
theorem x_170_76 : decode (q_code 170) 76 = .ok (.if_icmp .ge 92, 3) := by decide +kernel
theorem x_170_79 : decode (q_code 170) 79 = .ok (.aload_n 0, 1) := by decide +kernel
theorem x_170_80 : decode (q_code 170) 80 = .ok (.getfield 31, 3) := by decide +kernel
theorem x_170_83 : decode (q_code 170) 83 = .ok (.aload_n 0, 1) := by decide +kernel
theorem x_170_84 : decode (q_code 170) 84 = .ok (.getfield 9, 3) := by decide +kernel
theorem x_170_87 : decode (q_code 170) 87 = .ok (.aload_n 0, 1) := by decide +kernel
theorem x_170_88 : decode (q_code 170) 88 = .ok (.getfield 94, 3) := by decide +kernel
theorem x_170_91 : decode (q_code 170) 91 = .ok (.getfield 85, 3) := by decide +kernel
theorem x_170_94 : decode (q_code 170) 94 = .ok (.iload 6, 2) := by decide +kernel
theorem x_170_96 : decode (q_code 170) 96 = .ok (.iaload, 1) := by decide +kernel
theorem x_170_97 : decode (q_code 170) 97 = .ok (.iconst 0, 1) := by decide +kernel
theorem x_170_98 : decode (q_code 170) 98 = .ok (.iconst 0, 1) := by decide +kernel
theorem x_170_99 : decode (q_code 170) 99 = .ok (.invokevirtual 377, 3) := by decide +kernel
theorem x_170_102 : decode (q_code 170) 102 = .ok (.aload_n 0, 1) := by decide +kernel
theorem x_170_103 : decode (q_code 170) 103 = .ok (.getfield 9, 3) := by decide +kernel
theorem x_170_106 : decode (q_code 170) 106 = .ok (.iload_n 3, 1) := by decide +kernel
theorem x_170_107 : decode (q_code 170) 107 = .ok (.iconst 0, 1) := by decide +kernel
theorem x_170_108 : decode (q_code 170) 108 = .ok (.invokevirtual 381, 3) := by decide +kernel
theorem x_170_111 : decode (q_code 170) 111 = .ok (.aload_n 0, 1) := by decide +kernel
theorem x_170_112 : decode (q_code 170) 112 = .ok (.iload_n 2, 1) := by decide +kernel
theorem x_170_113 : decode (q_code 170) 113 = .ok (.iload_n 3, 1) := by decide +kernel
theorem x_170_114 : decode (q_code 170) 114 = .ok (.invokevirtual 403, 3) := by decide +kernel
theorem x_170_117 : decode (q_code 170) 117 = .ok (.ifCond .eq 37, 3) := by decide +kernel
theorem x_170_120 : decode (q_code 170) 120 = .ok (.aload_n 0, 1) := by decide +kernel
theorem x_170_121 : decode (q_code 170) 121 = .ok (.getfield 40, 3) := by decide +kernel
theorem x_170_124 : decode (q_code 170) 124 = .ok (.iconst 3, 1) := by decide +kernel
theorem x_170_125 : decode (q_code 170) 125 = .ok (.iload 5, 2) := by decide +kernel
theorem x_170_127 : decode (q_code 170) 127 = .ok (.invokevirtual 242, 3) := by decide +kernel
theorem x_170_130 : decode (q_code 170) 130 = .ok (.aload_n 0, 1) := by decide +kernel
theorem x_170_131 : decode (q_code 170) 131 = .ok (.getfield 40, 3) := by decide +kernel
theorem x_170_134 : decode (q_code 170) 134 = .ok (.aload_n 0, 1) := by decide +kernel
theorem x_170_135 : decode (q_code 170) 135 = .ok (.getfield 21, 3) := by decide +kernel
theorem x_170_138 : decode (q_code 170) 138 = .ok (.aload_n 0, 1) := by decide +kernel
theorem x_170_139 : decode (q_code 170) 139 = .ok (.getfield 94, 3) := by decide +kernel
theorem x_170_142 : decode (q_code 170) 142 = .ok (.getfield 85, 3) := by decide +kernel
theorem x_170_145 : decode (q_code 170) 145 = .ok (.iload 6, 2) := by decide +kernel
theorem x_170_147 : decode (q_code 170) 147 = .ok (.iaload, 1) := by decide +kernel
theorem x_170_148 : decode (q_code 170) 148 = .ok (.invokevirtual 245, 3) := by decide +kernel
theorem x_170_151 : decode (q_code 170) 151 = .ok (.iinc 5 1, 3) := by decide +kernel
theorem x_170_154 : decode (q_code 170) 154 = .ok (.aload_n 0, 1) := by decide +kernel
theorem x_170_155 : decode (q_code 170) 155 = .ok (.getfield 9, 3) := by decide +kernel
theorem x_170_158 : decode (q_code 170) 158 = .ok (.iload_n 3, 1) := by decide +kernel
theorem x_170_159 : decode (q_code 170) 159 = .ok (.putfield 374, 3) := by decide +kernel
theorem x_170_162 : decode (q_code 170) 162 = .ok (.iinc 6 1, 3) := by decide +kernel
theorem x_170_165 : decode (q_code 170) 165 = .ok (.goto (-111), 3) := by decide +kernel
theorem x_170_168 : decode (q_code 170) 168 = .ok (.aload_n 0, 1) := by decide +kernel
theorem x_170_169 : decode (q_code 170) 169 = .ok (.getfield 40, 3) := by decide +kernel
theorem x_170_172 : decode (q_code 170) 172 = .ok (.iload 4, 2) := by decide +kernel
theorem x_170_174 : decode (q_code 170) 174 = .ok (.invokevirtual 189, 3) := by decide +kernel
theorem x_170_177 : decode (q_code 170) 177 = .ok (.aload_n 0, 1) := by decide +kernel
theorem x_170_178 : decode (q_code 170) 178 = .ok (.getfield 9, 3) := by decide +kernel
theorem x_170_181 : decode (q_code 170) 181 = .ok (.iload_n 2, 1) := by decide +kernel
theorem x_170_182 : decode (q_code 170) 182 = .ok (.putfield 374, 3) := by decide +kernel
theorem x_170_185 : decode (q_code 170) 185 = .ok (.return_, 1) := by decide +kernel
theorem x_171_0 : decode (q_code 171) 0 = .ok (.iload_n 1, 1) := by decide +kernel
theorem x_171_1 : decode (q_code 171) 1 = .ok (.istore_n 3, 1) := by decide +kernel
theorem x_171_2 : decode (q_code 171) 2 = .ok (.iload_n 3, 1) := by decide +kernel
theorem x_171_3 : decode (q_code 171) 3 = .ok (.iload_n 2, 1) := by decide +kernel
theorem x_171_4 : decode (q_code 171) 4 = .ok (.if_icmp .ge 64, 3) := by decide +kernel
theorem x_171_7 : decode (q_code 171) 7 = .ok (.iload_n 2, 1) := by decide +kernel
theorem x_171_8 : decode (q_code 171) 8 = .ok (.istore 4, 2) := by decide +kernel
theorem x_171_10 : decode (q_code 171) 10 = .ok (.iload 4, 2) := by decide +kernel
theorem x_171_12 : decode (q_code 171) 12 = .ok (.aload_n 0, 1) := by decide +kernel
theorem x_171_13 : decode (q_code 171) 13 = .ok (.getfield 9, 3) := by decide +kernel
theorem x_171_16 : decode (q_code 171) 16 = .ok (.getfield 374, 3) := by decide +kernel
theorem x_171_19 : decode (q_code 171) 19 = .ok (.if_icmp .ge 43, 3) := by decide +kernel
theorem x_171_22 : decode (q_code 171) 22 = .ok (.aload_n 0, 1) := by decide +kernel
theorem x_171_23 : decode (q_code 171) 23 = .ok (.getfield 21, 3) := by decide +kernel
theorem x_171_26 : decode (q_code 171) 26 = .ok (.aload_n 0, 1) := by decide +kernel
theorem x_171_27 : decode (q_code 171) 27 = .ok (.getfield 9, 3) := by decide +kernel
theorem x_171_30 : decode (q_code 171) 30 = .ok (.iload_n 3, 1) := by decide +kernel
theorem x_171_31 : decode (q_code 171) 31 = .ok (.invokevirtual 384, 3) := by decide +kernel
theorem x_171_34 : decode (q_code 171) 34 = .ok (.aload_n 0, 1) := by decide +kernel
theorem x_171_35 : decode (q_code 171) 35 = .ok (.getfield 21, 3) := by decide +kernel
theorem x_171_38 : decode (q_code 171) 38 = .ok (.aload_n 0, 1) := by decide +kernel
theorem x_171_39 : decode (q_code 171) 39 = .ok (.getfield 9, 3) := by decide +kernel
theorem x_171_42 : decode (q_code 171) 42 = .ok (.iload 4, 2) := by decide +kernel
theorem x_171_44 : decode (q_code 171) 44 = .ok (.invokevirtual 384, 3) := by decide +kernel
theorem x_171_47 : decode (q_code 171) 47 = .ok (.iconst 0, 1) := by decide +kernel
theorem x_171_48 : decode (q_code 171) 48 = .ok (.invokestatic 313, 3) := by decide +kernel
theorem x_171_51 : decode (q_code 171) 51 = .ok (.ifCond .ne 5, 3) := by decide +kernel
theorem x_171_54 : decode (q_code 171) 54 = .ok (.iconst 1, 1) := by decide +kernel
theorem x_171_55 : decode (q_code 171) 55 = .ok (.ireturn, 1) := by decide +kernel
theorem x_171_56 : decode (q_code 171) 56 = .ok (.iinc 4 1, 3) := by decide +kernel
theorem x_171_59 : decode (q_code 171) 59 = .ok (.goto (-49), 3) := by decide +kernel
theorem x_171_62 : decode (q_code 171) 62 = .ok (.iinc 3 1, 3) := by decide +kernel
theorem x_171_65 : decode (q_code 171) 65 = .ok (.goto (-63), 3) := by decide +kernel
theorem x_171_68 : decode (q_code 171) 68 = .ok (.iconst 0, 1) := by decide +kernel
theorem x_171_69 : decode (q_code 171) 69 = .ok (.ireturn, 1) := by decide +kernel
theorem m_X9_begin {d : Nat} {M : g_M} {Q : g_M → Prop} {a0 : Nat} {a1 : Nat} {a2 : Nat} (h : g_ok M → g_O M a1 8 ∧ g_O M a0 9 ∧ ∃ b3, g_r M a0 6 = some b3 ∧ ∃ n5, g_A M b3 1 n5 ∧ g_InR n5 ∧ (∀ M8, M8 = g_wi M a0 14 (min (g_i M a1 6) n5) → g_ok M8 → ∃ b12, g_r M8 a1 2 = some b12 ∧ ∃ b14, g_r M8 a0 6 = some b14 ∧ ∃ n16, g_A M8 b12 1 n16 ∧ ∃ n18, g_A M8 b14 1 n18 ∧ ((0 : Int) ≤ 0 ∧ (0 : Int) ≤ 0 ∧ (0 : Int) ≤ g_i M8 a0 14 ∧ (0 : Int) + (g_i M8 a0 14) ≤ n16 ∧ (0 : Int) + (g_i M8 a0 14) ≤ n18) ∧ (∀ M21, M21 = g_cp M8 b12 b14 0 0 (g_i M8 a0 14) → g_ok M21 → (∀ M25, M25 = g_wr M21 a0 13 (some a2) → g_ok M25 → (∀ M29, M29 = g_wi M25 a0 17 0 → g_ok M29 → Q M29))))) : g_Call (d + 1) 135 [.ref a0, .ref a1, .ref a2] M (g_qV Q) := by
  refine g_Call.ok fun hok0 => ?_
  replace h := h hok0
  refine r_body rfl (lv := [(0, .ref a0), (1, .ref a1), (2, .ref a2)]) rfl ?_
  refine g_Run.ok fun hok => ?_
  refine r_aload_n x_135_0 rfl ?_
  refine r_aload_n x_135_1 rfl ?_
  obtain ⟨hO1, h⟩ := h
  refine r_getI x_135_2 rfl (ci := 8) (k := 6) (ns := 1) (by decide +kernel) (by decide) rfl (kz := 6) rfl hO1 ?_
  refine r_aload_n x_135_5 rfl ?_
  obtain ⟨hO2, h⟩ := h
  obtain ⟨b3, hb4, h⟩ := h
  refine r_getR x_135_6 rfl (ci := 9) (k := 6) (ns := 0) (by decide +kernel) (by decide) rfl (kz := 6) rfl hO2 hb4 ?_
  obtain ⟨n5, hA6, h⟩ := h
  refine r_alen x_135_9 hA6 ?_
  obtain ⟨h7, h⟩ := h
  refine r_min x_135_10 rfl rfl rfl rfl (hok.1 _ _) h7 ?_
  refine r_putI x_135_13 (ci := 9) (k := 14) (ns := 0) (by decide +kernel) (by decide) (g_f0 (by decide +kernel)) rfl (g_min_R (hok.1 _ _) h7) trivial (kz := 14) rfl hO2 ?_
  obtain ⟨M8, hM9⟩ : ∃ Mz, Mz = g_wi M a0 14 (min (g_i M a1 6) n5) := ⟨_, rfl⟩
  rw [← hM9]
  refine g_Run.ok fun hok10 => ?_
  replace h := h M8 hM9 hok10
  have hx11 := g_extW hM9
  replace hO1 := hO1.up hx11
  replace hO2 := hO2.up hx11
  replace hA6 := hA6.up hx11
  refine r_aload_n x_135_16 rfl ?_
  obtain ⟨b12, hb13, h⟩ := h
  refine r_getR x_135_17 rfl (ci := 8) (k := 2) (ns := 1) (by decide +kernel) (by decide) rfl (kz := 2) rfl hO1 hb13 ?_
  refine r_iconst x_135_20 ?_
  refine r_aload_n x_135_21 rfl ?_
  obtain ⟨b14, hb15, h⟩ := h
  refine r_getR x_135_22 rfl (ci := 9) (k := 6) (ns := 0) (by decide +kernel) (by decide) rfl (kz := 6) rfl hO2 hb15 ?_
  refine r_iconst x_135_25 ?_
  refine r_aload_n x_135_26 rfl ?_
  refine r_getI x_135_27 rfl (ci := 9) (k := 14) (ns := 0) (by decide +kernel) (by decide) rfl (kz := 14) rfl hO2 ?_
  obtain ⟨n16, hA17, h⟩ := h
  obtain ⟨n18, hA19, h⟩ := h
  obtain ⟨h20, h⟩ := h
  refine r_copy x_135_30 rfl rfl rfl rfl rfl rfl (by decide) hA17 hA19 (g_Rk rfl) (g_Rk rfl) (hok10.1 _ _) h20.1 h20.2.1 h20.2.2.1 h20.2.2.2.1 h20.2.2.2.2 ?_
  obtain ⟨M21, hM22⟩ : ∃ Mz, Mz = g_cp M8 b12 b14 0 0 (g_i M8 a0 14) := ⟨_, rfl⟩
  rw [← hM22]
  refine g_Run.ok fun hok23 => ?_
  replace h := h M21 hM22 hok23
  have hx24 := g_extC hM22
  replace hO1 := hO1.up hx24
  replace hO2 := hO2.up hx24
  replace hA6 := hA6.up hx24
  replace hA17 := hA17.up hx24
  replace hA19 := hA19.up hx24
  refine r_aload_n x_135_33 rfl ?_
  refine r_aload_n x_135_34 rfl ?_
  refine r_putR x_135_35 (o := (some a2)) (ci := 9) (k := 13) (ns := 0) (by decide +kernel) (by decide) (g_fR (by decide +kernel) rfl) rfl (kz := 13) rfl hO2 ?_
  obtain ⟨M25, hM26⟩ : ∃ Mz, Mz = g_wr M21 a0 13 (some a2) := ⟨_, rfl⟩
  rw [← hM26]
  refine g_Run.ok fun hok27 => ?_
  replace h := h M25 hM26 hok27
  have hx28 := g_extR hM26
  replace hO1 := hO1.up hx28
  replace hO2 := hO2.up hx28
  replace hA6 := hA6.up hx28
  replace hA17 := hA17.up hx28
  replace hA19 := hA19.up hx28
  refine r_aload_n x_135_38 rfl ?_
  refine r_iconst x_135_39 ?_
  refine r_putI x_135_40 (ci := 9) (k := 17) (ns := 0) (by decide +kernel) (by decide) (g_f0 (by decide +kernel)) rfl (g_Rk rfl) trivial (kz := 17) rfl hO2 ?_
  obtain ⟨M29, hM30⟩ : ∃ Mz, Mz = g_wi M25 a0 17 0 := ⟨_, rfl⟩
  rw [← hM30]
  refine g_Run.ok fun hok31 => ?_
  replace h := h M29 hM30 hok31
  have hx32 := g_extW hM30
  replace hO1 := hO1.up hx32
  replace hO2 := hO2.up hx32
  replace hA6 := hA6.up hx32
  replace hA17 := hA17.up hx32
  replace hA19 := hA19.up hx32
  exact r_retV x_135_43 rfl h
theorem m_X9_isMatch {d : Nat} {M : g_M} {Q : Int → g_M → Prop} {a0 : Nat} {v1 : Int} (hv1 : g_InR v1) (h : g_ok M → g_O M a0 9 ∧ ∃ b2, g_r M a0 1 = some b2 ∧ g_Call d 112 [.ref b2, g_n v1] M (g_qI fun r7 M4 => g_ext M M4 → g_ok M4 → g_InR r7 → ∃ b9, g_r M4 a0 1 = some b9 ∧ g_Call d 108 [.ref b9, g_n r7] M4 (g_qI fun r14 M11 => g_ext M4 M11 → g_ok M11 → g_InR r14 → ((r14 = 3 → ∃ b16, g_r M11 a0 1 = some b16 ∧ g_Call d 115 [.ref b16, g_n r7, .ref (4 * 40 + 1)] M11 (g_qI fun r21 M18 => g_ext M11 M18 → g_ok M18 → g_InR r21 → ((r21 = 0 → Q 0 M18) ∧ (¬ r21 = 0 → ∃ b23, g_r M18 a0 1 = some b23 ∧ ∃ b25, g_r M18 a0 1 = some b25 ∧ g_Call d 111 [.ref b25, g_n r7] M18 (g_qI fun r30 M27 => g_ext M18 M27 → g_ok M27 → g_InR r30 → g_Call d 108 [.ref b23, g_n r30] M27 (g_qI fun r35 M32 => g_ext M27 M32 → g_ok M32 → g_InR r35 → ((r35 = 0 → Q 1 M32) ∧ (¬ r35 = 0 → Q 0 M32)))))))) ∧ (¬ r14 = 3 → Q 0 M11))))) : g_Call (d + 1) 136 [.ref a0, g_n v1] M (g_qI Q) := by
  refine g_Call.ok fun hok0 => ?_
  replace h := h hok0
  refine r_body rfl (lv := [(0, .ref a0), (1, g_n v1)]) rfl ?_
  refine g_Run.ok fun hok => ?_
  refine r_aload_n x_136_0 rfl ?_
  obtain ⟨hO1, h⟩ := h
  obtain ⟨b2, hb3, h⟩ := h
  refine r_getR x_136_1 rfl (ci := 9) (k := 1) (ns := 0) (by decide +kernel) (by decide) rfl (kz := 1) rfl hO1 hb3 ?_
  refine r_iload_n x_136_4 rfl ?_
  refine r_invS x_136_5 (z := 112) (ns := 1) (by decide +kernel) (as := [.ref b2, g_n v1]) (r := []) rfl rfl rfl ?_
  refine r_callI h fun r7 M4 hx5 hok6 hr8 h => ?_
  replace h := h hx5 hok6 hr8
  replace hO1 := hO1.up hx5
  refine r_istore_n x_136_8 (by decide +kernel) rfl (lv1 := [(0, .ref a0), (1, g_n v1), (2, g_n r7)]) rfl ?_
  refine r_aload_n x_136_9 rfl ?_
  obtain ⟨b9, hb10, h⟩ := h
  refine r_getR x_136_10 rfl (ci := 9) (k := 1) (ns := 0) (by decide +kernel) (by decide) rfl (kz := 1) rfl hO1 hb10 ?_
  refine r_iload_n x_136_13 rfl ?_
  refine r_invS x_136_14 (z := 108) (ns := 1) (by decide +kernel) (as := [.ref b9, g_n r7]) (r := []) rfl rfl rfl ?_
  refine r_callI h fun r14 M11 hx12 hok13 hr15 h => ?_
  replace h := h hx12 hok13 hr15
  replace hO1 := hO1.up hx12
  refine r_iconst x_136_17 ?_
  refine r_ic_ne x_136_18 (t := 56) (by decide +kernel) hr15 (g_Rk rfl) (fun hc => ?_) (fun hc => ?_)
  · replace h := h.2 hc
    refine r_iconst x_136_56 ?_
    exact r_retZ x_136_57 rfl (Or.inl rfl) h
  · replace h := h.1 hc
    refine r_aload_n x_136_21 rfl ?_
    obtain ⟨b16, hb17, h⟩ := h
    refine r_getR x_136_22 rfl (ci := 9) (k := 1) (ns := 0) (by decide +kernel) (by decide) rfl (kz := 1) rfl hO1 hb17 ?_
    refine r_iload_n x_136_25 rfl ?_
    refine r_ldc x_136_26 (v := .ref (4 * 40 + 1)) rfl ?_
    refine r_invS x_136_28 (z := 115) (ns := 1) (by decide +kernel) (as := [.ref b16, g_n r7, .ref (4 * 40 + 1)]) (r := []) rfl rfl rfl ?_
    refine r_callI h fun r21 M18 hx19 hok20 hr22 h => ?_
    replace h := h hx19 hok20 hr22
    replace hO1 := hO1.up hx19
    refine r_if_eq x_136_31 (t := 56) (by decide +kernel) hr22 (fun hc => ?_) (fun hc => ?_)
    · replace h := h.1 hc
      refine r_iconst x_136_56 ?_
      exact r_retZ x_136_57 rfl (Or.inl rfl) h
    · replace h := h.2 hc
      refine r_aload_n x_136_34 rfl ?_
      obtain ⟨b23, hb24, h⟩ := h
      refine r_getR x_136_35 rfl (ci := 9) (k := 1) (ns := 0) (by decide +kernel) (by decide) rfl (kz := 1) rfl hO1 hb24 ?_
      refine r_aload_n x_136_38 rfl ?_
      obtain ⟨b25, hb26, h⟩ := h
      refine r_getR x_136_39 rfl (ci := 9) (k := 1) (ns := 0) (by decide +kernel) (by decide) rfl (kz := 1) rfl hO1 hb26 ?_
      refine r_iload_n x_136_42 rfl ?_
      refine r_invS x_136_43 (z := 111) (ns := 1) (by decide +kernel) (as := [.ref b25, g_n r7]) (r := [.ref b23]) rfl rfl rfl ?_
      refine r_callI h fun r30 M27 hx28 hok29 hr31 h => ?_
      replace h := h hx28 hok29 hr31
      replace hO1 := hO1.up hx28
      refine r_invS x_136_46 (z := 108) (ns := 1) (by decide +kernel) (as := [.ref b23, g_n r30]) (r := []) rfl rfl rfl ?_
      refine r_callI h fun r35 M32 hx33 hok34 hr36 h => ?_
      replace h := h hx33 hok34 hr36
      replace hO1 := hO1.up hx33
      refine r_if_ne x_136_49 (t := 56) (by decide +kernel) hr36 (fun hc => ?_) (fun hc => ?_)
      · replace h := h.2 hc
        refine r_iconst x_136_56 ?_
        exact r_retZ x_136_57 rfl (Or.inl rfl) h
      · replace h := h.1 hc
        refine r_iconst x_136_52 ?_
        refine r_goto x_136_53 (t := 57) (by decide +kernel) ?_
        exact r_retZ x_136_57 rfl (Or.inr rfl) h
theorem m_X9_match {d : Nat} {M : g_M} {Q : g_M → Prop} {a0 : Nat} {a1 : Nat} {v2 : Int} (hv2 : g_InR v2) (h : g_ok M → g_Run d 137 5 [(0, .ref a0), (1, .ref a1), (2, g_n v2), (3, g_n 0), (4, g_n 0)] [] M (g_qV Q)) : g_Call (d + 1) 137 [.ref a0, .ref a1, g_n v2] M (g_qV Q) := by
  refine g_Call.ok fun hok0 => ?_
  replace h := h hok0
  refine r_body rfl (lv := [(0, .ref a0), (1, .ref a1), (2, g_n v2)]) rfl ?_
  refine g_Run.ok fun hok => ?_
  refine r_iconst x_137_0 ?_
  refine r_istore_n x_137_1 (by decide +kernel) rfl (lv1 := [(0, .ref a0), (1, .ref a1), (2, g_n v2), (3, g_n 0)]) rfl ?_
  refine r_iconst x_137_2 ?_
  refine r_istore x_137_3 (by decide +kernel) rfl (lv1 := [(0, .ref a0), (1, .ref a1), (2, g_n v2), (3, g_n 0), (4, g_n 0)]) rfl ?_
  exact h
theorem s_X9_match_5 {d : Nat} {M : g_M} {Q : g_M → Prop} {a0 : Nat} {a1 : Nat} {v2 : Int} (hv2 : g_InR v2) {v3 : Int} (hv3 : g_InR v3) {v4 : Int} (hv4 : g_InR v4) (h : g_ok M → g_O M a0 9 ∧ ((v4 < g_i M a0 14 → ∃ b6, g_r M a0 6 = some b6 ∧ ∃ n8, g_A M b6 1 n8 ∧ ((0 : Int) ≤ v4 ∧ (v4 : Int) < n8) ∧ g_O M a1 2 ∧ g_Call d 51 [.ref a1, g_n v2, g_n (g_i M b6 v4), g_n 0] M (g_qI fun r15 M12 => g_ext M M12 → g_ok M12 → g_InR r15 → ((r15 = 0 → g_InR (v4 + 1) ∧ g_Run d 137 5 [(0, .ref a0), (1, .ref a1), (2, g_n v2), (3, g_n v3), (4, g_n (v4 + 1))] [] M12 (g_qV Q)) ∧ (¬ r15 = 0 → ∃ b18, g_r M12 a0 6 = some b18 ∧ ∃ b20, g_r M12 a0 6 = some b20 ∧ ∃ n22, g_A M12 b20 1 n22 ∧ ((0 : Int) ≤ v4 ∧ (v4 : Int) < n22) ∧ ∃ n25, g_A M12 b18 1 n25 ∧ ((0 : Int) ≤ v3 ∧ (v3 : Int) < n25) ∧ (∀ M28, M28 = g_wi M12 b18 v3 (g_i M12 b20 v4) → g_ok M28 → g_InR (v3 + 1) ∧ g_InR (v4 + 1) ∧ g_Run d 137 5 [(0, .ref a0), (1, .ref a1), (2, g_n v2), (3, g_n (v3 + 1)), (4, g_n (v4 + 1))] [] M28 (g_qV Q)))))) ∧ (¬ v4 < g_i M a0 14 → (∀ M2, M2 = g_wi M a0 14 v3 → g_ok M2 → Q M2)))) : g_Run d 137 5 [(0, .ref a0), (1, .ref a1), (2, g_n v2), (3, g_n v3), (4, g_n v4)] [] M (g_qV Q) := by
  refine g_Run.ok fun hok => ?_
  replace h := h hok
  refine r_iload x_137_5 rfl ?_
  refine r_aload_n x_137_7 rfl ?_
  obtain ⟨hO1, h⟩ := h
  refine r_getI x_137_8 rfl (ci := 9) (k := 14) (ns := 0) (by decide +kernel) (by decide) rfl (kz := 14) rfl hO1 ?_
  refine r_ic_ge x_137_11 (t := 52) (by decide +kernel) hv4 (hok.1 _ _) (fun hc => ?_) (fun hc => ?_)
  · replace h := h.2 hc
    refine r_aload_n x_137_52 rfl ?_
    refine r_iload_n x_137_53 rfl ?_
    refine r_putI x_137_54 (ci := 9) (k := 14) (ns := 0) (by decide +kernel) (by decide) (g_f0 (by decide +kernel)) rfl hv3 trivial (kz := 14) rfl hO1 ?_
    obtain ⟨M2, hM3⟩ : ∃ Mz, Mz = g_wi M a0 14 v3 := ⟨_, rfl⟩
    rw [← hM3]
    refine g_Run.ok fun hok4 => ?_
    replace h := h M2 hM3 hok4
    have hx5 := g_extW hM3
    replace hO1 := hO1.up hx5
    exact r_retV x_137_57 rfl h
  · replace h := h.1 hc
    refine r_aload_n x_137_14 rfl ?_
    refine r_iload_n x_137_15 rfl ?_
    refine r_aload_n x_137_16 rfl ?_
    obtain ⟨b6, hb7, h⟩ := h
    refine r_getR x_137_17 rfl (ci := 9) (k := 6) (ns := 0) (by decide +kernel) (by decide) rfl (kz := 6) rfl hO1 hb7 ?_
    refine r_iload x_137_20 rfl ?_
    obtain ⟨n8, hA9, h⟩ := h
    obtain ⟨h10, h⟩ := h
    refine r_iald x_137_22 hA9 hv4 h10.1 h10.2 ?_
    refine r_iconst x_137_23 ?_
    obtain ⟨hO11, h⟩ := h
    refine r_invV x_137_24 (z := 51) (ns := 1) (by decide +kernel) (as := [g_n v2, g_n (g_i M b6 v4), g_n 0]) (r := []) rfl rfl rfl hO11 rfl rfl ?_
    refine r_callI h fun r15 M12 hx13 hok14 hr16 h => ?_
    replace h := h hx13 hok14 hr16
    replace hO1 := hO1.up hx13
    replace hO11 := hO11.up hx13
    replace hA9 := hA9.up hx13
    refine r_if_eq x_137_27 (t := 46) (by decide +kernel) hr16 (fun hc => ?_) (fun hc => ?_)
    · replace h := h.1 hc
      obtain ⟨h17, h⟩ := h
      refine r_iinc x_137_46 (by decide +kernel) rfl rfl (lv1 := [(0, .ref a0), (1, .ref a1), (2, g_n v2), (3, g_n v3), (4, g_n (v4 + 1))]) rfl ?_
      refine r_goto x_137_49 (t := 5) (by decide +kernel) ?_
      exact h
    · replace h := h.2 hc
      refine r_aload_n x_137_30 rfl ?_
      obtain ⟨b18, hb19, h⟩ := h
      refine r_getR x_137_31 rfl (ci := 9) (k := 6) (ns := 0) (by decide +kernel) (by decide) rfl (kz := 6) rfl hO1 hb19 ?_
      refine r_iload_n x_137_34 rfl ?_
      refine r_aload_n x_137_35 rfl ?_
      obtain ⟨b20, hb21, h⟩ := h
      refine r_getR x_137_36 rfl (ci := 9) (k := 6) (ns := 0) (by decide +kernel) (by decide) rfl (kz := 6) rfl hO1 hb21 ?_
      refine r_iload x_137_39 rfl ?_
      obtain ⟨n22, hA23, h⟩ := h
      obtain ⟨h24, h⟩ := h
      refine r_iald x_137_41 hA23 hv4 h24.1 h24.2 ?_
      obtain ⟨n25, hA26, h⟩ := h
      obtain ⟨h27, h⟩ := h
      refine r_iast x_137_42 hA26 hv3 h27.1 h27.2 (hok14.1 _ _) ?_
      obtain ⟨M28, hM29⟩ : ∃ Mz, Mz = g_wi M12 b18 v3 (g_i M12 b20 v4) := ⟨_, rfl⟩
      rw [← hM29]
      refine g_Run.ok fun hok30 => ?_
      replace h := h M28 hM29 hok30
      have hx31 := g_extW hM29
      replace hO1 := hO1.up hx31
      replace hO11 := hO11.up hx31
      replace hA9 := hA9.up hx31
      replace hA23 := hA23.up hx31
      replace hA26 := hA26.up hx31
      obtain ⟨h32, h⟩ := h
      refine r_iinc x_137_43 (by decide +kernel) rfl rfl (lv1 := [(0, .ref a0), (1, .ref a1), (2, g_n v2), (3, g_n (v3 + 1)), (4, g_n v4)]) rfl ?_
      obtain ⟨h33, h⟩ := h
      refine r_iinc x_137_46 (by decide +kernel) rfl rfl (lv1 := [(0, .ref a0), (1, .ref a1), (2, g_n v2), (3, g_n (v3 + 1)), (4, g_n (v4 + 1))]) rfl ?_
      refine r_goto x_137_49 (t := 5) (by decide +kernel) ?_
      exact h
theorem m_X9_stageOf {d : Nat} {M : g_M} {Q : Int → g_M → Prop} {a0 : Nat} {v1 : Int} (hv1 : g_InR v1) (h : g_ok M → g_Call d 115 [.ref a0, g_n v1, .ref (4 * 41 + 1)] M (g_qI fun r4 M1 => g_ext M M1 → g_ok M1 → g_InR r4 → ((r4 = 0 → g_Call d 115 [.ref a0, g_n v1, .ref (4 * 42 + 1)] M1 (g_qI fun r9 M6 => g_ext M1 M6 → g_ok M6 → g_InR r9 → ((r9 = 0 → g_Call d 115 [.ref a0, g_n v1, .ref (4 * 43 + 1)] M6 (g_qI fun r14 M11 => g_ext M6 M11 → g_ok M11 → g_InR r14 → ((r14 = 0 → g_Call d 115 [.ref a0, g_n v1, .ref (4 * 44 + 1)] M11 (g_qI fun r19 M16 => g_ext M11 M16 → g_ok M16 → g_InR r19 → ((r19 = 0 → g_Call d 115 [.ref a0, g_n v1, .ref (4 * 45 + 1)] M16 (g_qI fun r24 M21 => g_ext M16 M21 → g_ok M21 → g_InR r24 → ((r24 = 0 → g_Call d 115 [.ref a0, g_n v1, .ref (4 * 46 + 1)] M21 (g_qI fun r29 M26 => g_ext M21 M26 → g_ok M26 → g_InR r29 → ((r29 = 0 → g_Call d 115 [.ref a0, g_n v1, .ref (4 * 47 + 1)] M26 (g_qI fun r34 M31 => g_ext M26 M31 → g_ok M31 → g_InR r34 → ((r34 = 0 → Q 0 M31) ∧ (¬ r34 = 0 → Q 7 M31)))) ∧ (¬ r29 = 0 → Q 6 M26)))) ∧ (¬ r24 = 0 → Q 5 M21)))) ∧ (¬ r19 = 0 → Q 4 M16)))) ∧ (¬ r14 = 0 → Q 3 M11)))) ∧ (¬ r9 = 0 → Q 2 M6)))) ∧ (¬ r4 = 0 → Q 1 M1)))) : g_Call (d + 1) 138 [.ref a0, g_n v1] M (g_qI Q) := by
  refine g_Call.ok fun hok0 => ?_
  replace h := h hok0
  refine r_body rfl (lv := [(0, .ref a0), (1, g_n v1)]) rfl ?_
  refine g_Run.ok fun hok => ?_
  refine r_aload_n x_138_0 rfl ?_
  refine r_iload_n x_138_1 rfl ?_
  refine r_ldc x_138_2 (v := .ref (4 * 41 + 1)) rfl ?_
  refine r_invS x_138_4 (z := 115) (ns := 1) (by decide +kernel) (as := [.ref a0, g_n v1, .ref (4 * 41 + 1)]) (r := []) rfl rfl rfl ?_
  refine r_callI h fun r4 M1 hx2 hok3 hr5 h => ?_
  replace h := h hx2 hok3 hr5
  refine r_if_eq x_138_7 (t := 14) (by decide +kernel) hr5 (fun hc => ?_) (fun hc => ?_)
  · replace h := h.1 hc
    refine r_aload_n x_138_14 rfl ?_
    refine r_iload_n x_138_15 rfl ?_
    refine r_ldc x_138_16 (v := .ref (4 * 42 + 1)) rfl ?_
    refine r_invS x_138_18 (z := 115) (ns := 1) (by decide +kernel) (as := [.ref a0, g_n v1, .ref (4 * 42 + 1)]) (r := []) rfl rfl rfl ?_
    refine r_callI h fun r9 M6 hx7 hok8 hr10 h => ?_
    replace h := h hx7 hok8 hr10
    refine r_if_eq x_138_21 (t := 28) (by decide +kernel) hr10 (fun hc => ?_) (fun hc => ?_)
    · replace h := h.1 hc
      refine r_aload_n x_138_28 rfl ?_
      refine r_iload_n x_138_29 rfl ?_
      refine r_ldc x_138_30 (v := .ref (4 * 43 + 1)) rfl ?_
      refine r_invS x_138_32 (z := 115) (ns := 1) (by decide +kernel) (as := [.ref a0, g_n v1, .ref (4 * 43 + 1)]) (r := []) rfl rfl rfl ?_
      refine r_callI h fun r14 M11 hx12 hok13 hr15 h => ?_
      replace h := h hx12 hok13 hr15
      refine r_if_eq x_138_35 (t := 42) (by decide +kernel) hr15 (fun hc => ?_) (fun hc => ?_)
      · replace h := h.1 hc
        refine r_aload_n x_138_42 rfl ?_
        refine r_iload_n x_138_43 rfl ?_
        refine r_ldc x_138_44 (v := .ref (4 * 44 + 1)) rfl ?_
        refine r_invS x_138_46 (z := 115) (ns := 1) (by decide +kernel) (as := [.ref a0, g_n v1, .ref (4 * 44 + 1)]) (r := []) rfl rfl rfl ?_
        refine r_callI h fun r19 M16 hx17 hok18 hr20 h => ?_
        replace h := h hx17 hok18 hr20
        refine r_if_eq x_138_49 (t := 56) (by decide +kernel) hr20 (fun hc => ?_) (fun hc => ?_)
        · replace h := h.1 hc
          refine r_aload_n x_138_56 rfl ?_
          refine r_iload_n x_138_57 rfl ?_
          refine r_ldc x_138_58 (v := .ref (4 * 45 + 1)) rfl ?_
          refine r_invS x_138_60 (z := 115) (ns := 1) (by decide +kernel) (as := [.ref a0, g_n v1, .ref (4 * 45 + 1)]) (r := []) rfl rfl rfl ?_
          refine r_callI h fun r24 M21 hx22 hok23 hr25 h => ?_
          replace h := h hx22 hok23 hr25
          refine r_if_eq x_138_63 (t := 70) (by decide +kernel) hr25 (fun hc => ?_) (fun hc => ?_)
          · replace h := h.1 hc
            refine r_aload_n x_138_70 rfl ?_
            refine r_iload_n x_138_71 rfl ?_
            refine r_ldc x_138_72 (v := .ref (4 * 46 + 1)) rfl ?_
            refine r_invS x_138_74 (z := 115) (ns := 1) (by decide +kernel) (as := [.ref a0, g_n v1, .ref (4 * 46 + 1)]) (r := []) rfl rfl rfl ?_
            refine r_callI h fun r29 M26 hx27 hok28 hr30 h => ?_
            replace h := h hx27 hok28 hr30
            refine r_if_eq x_138_77 (t := 85) (by decide +kernel) hr30 (fun hc => ?_) (fun hc => ?_)
            · replace h := h.1 hc
              refine r_aload_n x_138_85 rfl ?_
              refine r_iload_n x_138_86 rfl ?_
              refine r_ldc x_138_87 (v := .ref (4 * 47 + 1)) rfl ?_
              refine r_invS x_138_89 (z := 115) (ns := 1) (by decide +kernel) (as := [.ref a0, g_n v1, .ref (4 * 47 + 1)]) (r := []) rfl rfl rfl ?_
              refine r_callI h fun r34 M31 hx32 hok33 hr35 h => ?_
              replace h := h hx32 hok33 hr35
              refine r_if_eq x_138_92 (t := 100) (by decide +kernel) hr35 (fun hc => ?_) (fun hc => ?_)
              · replace h := h.1 hc
                refine r_iconst x_138_100 ?_
                exact r_retI x_138_101 rfl (g_Rk rfl) h
              · replace h := h.2 hc
                refine r_bipush x_138_95 (x := 7) rfl ?_
                refine r_goto x_138_97 (t := 101) (by decide +kernel) ?_
                exact r_retI x_138_101 rfl (g_Rk rfl) h
            · replace h := h.2 hc
              refine r_bipush x_138_80 (x := 6) rfl ?_
              refine r_goto x_138_82 (t := 101) (by decide +kernel) ?_
              exact r_retI x_138_101 rfl (g_Rk rfl) h
          · replace h := h.2 hc
            refine r_iconst x_138_66 ?_
            refine r_goto x_138_67 (t := 101) (by decide +kernel) ?_
            exact r_retI x_138_101 rfl (g_Rk rfl) h
        · replace h := h.2 hc
          refine r_iconst x_138_52 ?_
          refine r_goto x_138_53 (t := 101) (by decide +kernel) ?_
          exact r_retI x_138_101 rfl (g_Rk rfl) h
      · replace h := h.2 hc
        refine r_iconst x_138_38 ?_
        refine r_goto x_138_39 (t := 101) (by decide +kernel) ?_
        exact r_retI x_138_101 rfl (g_Rk rfl) h
    · replace h := h.2 hc
      refine r_iconst x_138_24 ?_
      refine r_goto x_138_25 (t := 101) (by decide +kernel) ?_
      exact r_retI x_138_101 rfl (g_Rk rfl) h
  · replace h := h.2 hc
    refine r_iconst x_138_10 ?_
    refine r_goto x_138_11 (t := 101) (by decide +kernel) ?_
    exact r_retI x_138_101 rfl (g_Rk rfl) h
theorem m_X9_does {d : Nat} {M : g_M} {Q : Int → g_M → Prop} {a0 : Nat} {v1 : Int} (hv1 : g_InR v1) (h : g_ok M → g_O M a0 9 ∧ ∃ b2, g_r M a0 1 = some b2 ∧ g_Call d 112 [.ref b2, g_n v1] M (g_qI fun r7 M4 => g_ext M M4 → g_ok M4 → g_InR r7 → ∃ b9, g_r M4 a0 1 = some b9 ∧ g_Call d 108 [.ref b9, g_n r7] M4 (g_qI fun r14 M11 => g_ext M4 M11 → g_ok M11 → g_InR r14 → ((r14 = 0 → Q 1 M11) ∧ (¬ r14 = 0 → ∃ b16, g_r M11 a0 1 = some b16 ∧ ∃ b18, g_r M11 a0 1 = some b18 ∧ g_Call d 111 [.ref b18, g_n r7] M11 (g_qI fun r23 M20 => g_ext M11 M20 → g_ok M20 → g_InR r23 → g_Call d 108 [.ref b16, g_n r23] M20 (g_qI fun r28 M25 => g_ext M20 M25 → g_ok M25 → g_InR r28 → ((r28 = 0 → ∃ b30, g_r M25 a0 1 = some b30 ∧ g_Call d 138 [.ref b30, g_n r7] M25 (g_qI fun r35 M32 => g_ext M25 M32 → g_ok M32 → g_InR r35 → ((r35 = 1 → g_Call d 152 [.ref a0, g_n r7] M32 (g_qI fun r40 M37 => g_ext M32 M37 → g_ok M37 → g_InR r40 → Q r40 M37)) ∧ (¬ r35 = 1 → ((r35 = 2 → g_Call d 153 [.ref a0, g_n r7] M32 (g_qI fun r46 M43 => g_ext M32 M43 → g_ok M43 → g_InR r46 → Q r46 M43)) ∧ (¬ r35 = 2 → ((r35 = 3 → g_Call d 157 [.ref a0, g_n r7] M32 (g_qI fun r52 M49 => g_ext M32 M49 → g_ok M49 → g_InR r52 → Q r52 M49)) ∧ (¬ r35 = 3 → ((r35 = 4 → g_Call d 163 [.ref a0, g_n r7] M32 (g_qI fun r58 M55 => g_ext M32 M55 → g_ok M55 → g_InR r58 → Q r58 M55)) ∧ (¬ r35 = 4 → ((r35 = 5 → g_Call d 166 [.ref a0, g_n r7] M32 (g_qI fun r64 M61 => g_ext M32 M61 → g_ok M61 → g_InR r64 → Q r64 M61)) ∧ (¬ r35 = 5 → ((r35 = 6 → g_Call d 167 [.ref a0, g_n r7] M32 (g_qI fun r70 M67 => g_ext M32 M67 → g_ok M67 → g_InR r70 → Q r70 M67)) ∧ (¬ r35 = 6 → ((r35 = 7 → g_Call d 169 [.ref a0, g_n r7] M32 (g_qI fun r76 M73 => g_ext M32 M73 → g_ok M73 → g_InR r76 → Q r76 M73)) ∧ (¬ r35 = 7 → Q 1 M32)))))))))))))))) ∧ (¬ r28 = 0 → Q 1 M25))))))))) : g_Call (d + 1) 139 [.ref a0, g_n v1] M (g_qI Q) := by
  refine g_Call.ok fun hok0 => ?_
  replace h := h hok0
  refine r_body rfl (lv := [(0, .ref a0), (1, g_n v1)]) rfl ?_
  refine g_Run.ok fun hok => ?_
  refine r_aload_n x_139_0 rfl ?_
  obtain ⟨hO1, h⟩ := h
  obtain ⟨b2, hb3, h⟩ := h
  refine r_getR x_139_1 rfl (ci := 9) (k := 1) (ns := 0) (by decide +kernel) (by decide) rfl (kz := 1) rfl hO1 hb3 ?_
  refine r_iload_n x_139_4 rfl ?_
  refine r_invS x_139_5 (z := 112) (ns := 1) (by decide +kernel) (as := [.ref b2, g_n v1]) (r := []) rfl rfl rfl ?_
  refine r_callI h fun r7 M4 hx5 hok6 hr8 h => ?_
  replace h := h hx5 hok6 hr8
  replace hO1 := hO1.up hx5
  refine r_istore_n x_139_8 (by decide +kernel) rfl (lv1 := [(0, .ref a0), (1, g_n v1), (2, g_n r7)]) rfl ?_
  refine r_aload_n x_139_9 rfl ?_
  obtain ⟨b9, hb10, h⟩ := h
  refine r_getR x_139_10 rfl (ci := 9) (k := 1) (ns := 0) (by decide +kernel) (by decide) rfl (kz := 1) rfl hO1 hb10 ?_
  refine r_iload_n x_139_13 rfl ?_
  refine r_invS x_139_14 (z := 108) (ns := 1) (by decide +kernel) (as := [.ref b9, g_n r7]) (r := []) rfl rfl rfl ?_
  refine r_callI h fun r14 M11 hx12 hok13 hr15 h => ?_
  replace h := h hx12 hok13 hr15
  replace hO1 := hO1.up hx12
  refine r_if_eq x_139_17 (t := 38) (by decide +kernel) hr15 (fun hc => ?_) (fun hc => ?_)
  · replace h := h.1 hc
    refine r_iconst x_139_38 ?_
    exact r_retI x_139_39 rfl (g_Rk rfl) h
  · replace h := h.2 hc
    refine r_aload_n x_139_20 rfl ?_
    obtain ⟨b16, hb17, h⟩ := h
    refine r_getR x_139_21 rfl (ci := 9) (k := 1) (ns := 0) (by decide +kernel) (by decide) rfl (kz := 1) rfl hO1 hb17 ?_
    refine r_aload_n x_139_24 rfl ?_
    obtain ⟨b18, hb19, h⟩ := h
    refine r_getR x_139_25 rfl (ci := 9) (k := 1) (ns := 0) (by decide +kernel) (by decide) rfl (kz := 1) rfl hO1 hb19 ?_
    refine r_iload_n x_139_28 rfl ?_
    refine r_invS x_139_29 (z := 111) (ns := 1) (by decide +kernel) (as := [.ref b18, g_n r7]) (r := [.ref b16]) rfl rfl rfl ?_
    refine r_callI h fun r23 M20 hx21 hok22 hr24 h => ?_
    replace h := h hx21 hok22 hr24
    replace hO1 := hO1.up hx21
    refine r_invS x_139_32 (z := 108) (ns := 1) (by decide +kernel) (as := [.ref b16, g_n r23]) (r := []) rfl rfl rfl ?_
    refine r_callI h fun r28 M25 hx26 hok27 hr29 h => ?_
    replace h := h hx26 hok27 hr29
    replace hO1 := hO1.up hx26
    refine r_if_eq x_139_35 (t := 40) (by decide +kernel) hr29 (fun hc => ?_) (fun hc => ?_)
    · replace h := h.1 hc
      refine r_aload_n x_139_40 rfl ?_
      obtain ⟨b30, hb31, h⟩ := h
      refine r_getR x_139_41 rfl (ci := 9) (k := 1) (ns := 0) (by decide +kernel) (by decide) rfl (kz := 1) rfl hO1 hb31 ?_
      refine r_iload_n x_139_44 rfl ?_
      refine r_invS x_139_45 (z := 138) (ns := 0) (by decide +kernel) (as := [.ref b30, g_n r7]) (r := []) rfl rfl rfl ?_
      refine r_callI h fun r35 M32 hx33 hok34 hr36 h => ?_
      replace h := h hx33 hok34 hr36
      replace hO1 := hO1.up hx33
      by_cases hk42 : r35 = 1
      · refine r_tableAt x_139_48 hk42 (t := 92) (g_Rk rfl) (by decide +kernel) ?_
        replace h := h.1 hk42
        refine r_aload_n x_139_92 rfl ?_
        refine r_iload_n x_139_93 rfl ?_
        refine r_invV x_139_94 (z := 152) (ns := 0) (by decide +kernel) (as := [g_n r7]) (r := []) rfl rfl rfl hO1 rfl rfl ?_
        refine r_callI h fun r40 M37 hx38 hok39 hr41 h => ?_
        replace h := h hx38 hok39 hr41
        replace hO1 := hO1.up hx38
        exact r_retI x_139_97 rfl hr41 h
      replace h := h.2 hk42
      by_cases hk48 : r35 = 2
      · refine r_tableAt x_139_48 hk48 (t := 98) (g_Rk rfl) (by decide +kernel) ?_
        replace h := h.1 hk48
        refine r_aload_n x_139_98 rfl ?_
        refine r_iload_n x_139_99 rfl ?_
        refine r_invV x_139_100 (z := 153) (ns := 0) (by decide +kernel) (as := [g_n r7]) (r := []) rfl rfl rfl hO1 rfl rfl ?_
        refine r_callI h fun r46 M43 hx44 hok45 hr47 h => ?_
        replace h := h hx44 hok45 hr47
        replace hO1 := hO1.up hx44
        exact r_retI x_139_103 rfl hr47 h
      replace h := h.2 hk48
      by_cases hk54 : r35 = 3
      · refine r_tableAt x_139_48 hk54 (t := 104) (g_Rk rfl) (by decide +kernel) ?_
        replace h := h.1 hk54
        refine r_aload_n x_139_104 rfl ?_
        refine r_iload_n x_139_105 rfl ?_
        refine r_invV x_139_106 (z := 157) (ns := 0) (by decide +kernel) (as := [g_n r7]) (r := []) rfl rfl rfl hO1 rfl rfl ?_
        refine r_callI h fun r52 M49 hx50 hok51 hr53 h => ?_
        replace h := h hx50 hok51 hr53
        replace hO1 := hO1.up hx50
        exact r_retI x_139_109 rfl hr53 h
      replace h := h.2 hk54
      by_cases hk60 : r35 = 4
      · refine r_tableAt x_139_48 hk60 (t := 110) (g_Rk rfl) (by decide +kernel) ?_
        replace h := h.1 hk60
        refine r_aload_n x_139_110 rfl ?_
        refine r_iload_n x_139_111 rfl ?_
        refine r_invV x_139_112 (z := 163) (ns := 0) (by decide +kernel) (as := [g_n r7]) (r := []) rfl rfl rfl hO1 rfl rfl ?_
        refine r_callI h fun r58 M55 hx56 hok57 hr59 h => ?_
        replace h := h hx56 hok57 hr59
        replace hO1 := hO1.up hx56
        exact r_retI x_139_115 rfl hr59 h
      replace h := h.2 hk60
      by_cases hk66 : r35 = 5
      · refine r_tableAt x_139_48 hk66 (t := 116) (g_Rk rfl) (by decide +kernel) ?_
        replace h := h.1 hk66
        refine r_aload_n x_139_116 rfl ?_
        refine r_iload_n x_139_117 rfl ?_
        refine r_invV x_139_118 (z := 166) (ns := 0) (by decide +kernel) (as := [g_n r7]) (r := []) rfl rfl rfl hO1 rfl rfl ?_
        refine r_callI h fun r64 M61 hx62 hok63 hr65 h => ?_
        replace h := h hx62 hok63 hr65
        replace hO1 := hO1.up hx62
        exact r_retI x_139_121 rfl hr65 h
      replace h := h.2 hk66
      by_cases hk72 : r35 = 6
      · refine r_tableAt x_139_48 hk72 (t := 122) (g_Rk rfl) (by decide +kernel) ?_
        replace h := h.1 hk72
        refine r_aload_n x_139_122 rfl ?_
        refine r_iload_n x_139_123 rfl ?_
        refine r_invV x_139_124 (z := 167) (ns := 0) (by decide +kernel) (as := [g_n r7]) (r := []) rfl rfl rfl hO1 rfl rfl ?_
        refine r_callI h fun r70 M67 hx68 hok69 hr71 h => ?_
        replace h := h hx68 hok69 hr71
        replace hO1 := hO1.up hx68
        exact r_retI x_139_127 rfl hr71 h
      replace h := h.2 hk72
      by_cases hk78 : r35 = 7
      · refine r_tableAt x_139_48 hk78 (t := 128) (g_Rk rfl) (by decide +kernel) ?_
        replace h := h.1 hk78
        refine r_aload_n x_139_128 rfl ?_
        refine r_iload_n x_139_129 rfl ?_
        refine r_invV x_139_130 (z := 169) (ns := 0) (by decide +kernel) (as := [g_n r7]) (r := []) rfl rfl rfl hO1 rfl rfl ?_
        refine r_callI h fun r76 M73 hx74 hok75 hr77 h => ?_
        replace h := h hx74 hok75 hr77
        replace hO1 := hO1.up hx74
        exact r_retI x_139_133 rfl hr77 h
      replace h := h.2 hk78
      refine r_tableD x_139_48 hr36 (t := 134) (lo := 1) (hi := 7) (by omega) (by decide +kernel) ?_
      refine r_iconst x_139_134 ?_
      exact r_retI x_139_135 rfl (g_Rk rfl) h
    · replace h := h.2 hc
      refine r_iconst x_139_38 ?_
      exact r_retI x_139_39 rfl (g_Rk rfl) h
theorem m_X9_beginFresh {d : Nat} {M : g_M} {Q : g_M → Prop} {a0 : Nat} (h : g_ok M → g_O M a0 9 ∧ g_InR (1 - (g_i M a0 17)) ∧ (∀ M3, M3 = g_wi M a0 17 (1 - (g_i M a0 17)) → g_ok M3 → g_InR ((g_i M3 a0 17) * 40400) ∧ g_InR (82808 + ((g_i M3 a0 17) * 40400)) ∧ ∃ b9, g_r M3 a0 4 = some b9 ∧ g_InR ((82808 + ((g_i M3 a0 17) * 40400)) + 40400) ∧ g_O M3 b9 4 ∧ g_Call d 75 [.ref b9, g_n (82808 + ((g_i M3 a0 17) * 40400)), g_n ((82808 + ((g_i M3 a0 17) * 40400)) + 40400)] M3 (g_qV fun M13 => g_ext M3 M13 → g_ok M13 → ∃ b16, g_r M13 a0 5 = some b16 ∧ g_O M13 b16 4 ∧ g_Call d 75 [.ref b16, g_n 163608, g_n 246408] M13 (g_qV fun M19 => g_ext M13 M19 → g_ok M19 → (∀ M22, M22 = g_wi M19 a0 15 0 → g_ok M22 → (∀ M26, M26 = g_wi M22 a0 16 0 → g_ok M26 → (∀ M30, M30 = g_wi M26 a0 18 0 → g_ok M30 → (∀ M34, M34 = g_wi M30 a0 19 0 → g_ok M34 → Q M34)))))))) : g_Call (d + 1) 140 [.ref a0] M (g_qV Q) := by
  refine g_Call.ok fun hok0 => ?_
  replace h := h hok0
  refine r_body rfl (lv := [(0, .ref a0)]) rfl ?_
  refine g_Run.ok fun hok => ?_
  refine r_aload_n x_140_0 rfl ?_
  refine r_iconst x_140_1 ?_
  refine r_aload_n x_140_2 rfl ?_
  obtain ⟨hO1, h⟩ := h
  refine r_getI x_140_3 rfl (ci := 9) (k := 17) (ns := 0) (by decide +kernel) (by decide) rfl (kz := 17) rfl hO1 ?_
  refine r_isub x_140_6 ?_
  obtain ⟨h2, h⟩ := h
  refine r_putI x_140_7 (ci := 9) (k := 17) (ns := 0) (by decide +kernel) (by decide) (g_f0 (by decide +kernel)) rfl h2 trivial (kz := 17) rfl hO1 ?_
  obtain ⟨M3, hM4⟩ : ∃ Mz, Mz = g_wi M a0 17 (1 - (g_i M a0 17)) := ⟨_, rfl⟩
  rw [← hM4]
  refine g_Run.ok fun hok5 => ?_
  replace h := h M3 hM4 hok5
  have hx6 := g_extW hM4
  replace hO1 := hO1.up hx6
  refine r_ldc x_140_10 (v := g_n 82808) rfl ?_
  refine r_aload_n x_140_12 rfl ?_
  refine r_getI x_140_13 rfl (ci := 9) (k := 17) (ns := 0) (by decide +kernel) (by decide) rfl (kz := 17) rfl hO1 ?_
  refine r_ldc x_140_16 (v := g_n 40400) rfl ?_
  refine r_imul x_140_18 ?_
  obtain ⟨h7, h⟩ := h
  refine r_iadd x_140_19 ?_
  obtain ⟨h8, h⟩ := h
  refine r_istore_n x_140_20 (by decide +kernel) rfl (lv1 := [(0, .ref a0), (1, g_n (82808 + ((g_i M3 a0 17) * 40400)))]) rfl ?_
  refine r_aload_n x_140_21 rfl ?_
  obtain ⟨b9, hb10, h⟩ := h
  refine r_getR x_140_22 rfl (ci := 9) (k := 4) (ns := 0) (by decide +kernel) (by decide) rfl (kz := 4) rfl hO1 hb10 ?_
  refine r_iload_n x_140_25 rfl ?_
  refine r_iload_n x_140_26 rfl ?_
  refine r_ldc x_140_27 (v := g_n 40400) rfl ?_
  refine r_iadd x_140_29 ?_
  obtain ⟨h11, h⟩ := h
  obtain ⟨hO12, h⟩ := h
  refine r_invV x_140_30 (z := 75) (ns := 1) (by decide +kernel) (as := [g_n (82808 + ((g_i M3 a0 17) * 40400)), g_n ((82808 + ((g_i M3 a0 17) * 40400)) + 40400)]) (r := []) rfl rfl rfl hO12 rfl rfl ?_
  refine r_callV h fun M13 hx14 hok15 h => ?_
  replace h := h hx14 hok15
  replace hO1 := hO1.up hx14
  replace hO12 := hO12.up hx14
  refine r_aload_n x_140_33 rfl ?_
  obtain ⟨b16, hb17, h⟩ := h
  refine r_getR x_140_34 rfl (ci := 9) (k := 5) (ns := 0) (by decide +kernel) (by decide) rfl (kz := 5) rfl hO1 hb17 ?_
  refine r_ldc x_140_37 (v := g_n 163608) rfl ?_
  refine r_ldc x_140_39 (v := g_n 246408) rfl ?_
  obtain ⟨hO18, h⟩ := h
  refine r_invV x_140_41 (z := 75) (ns := 1) (by decide +kernel) (as := [g_n 163608, g_n 246408]) (r := []) rfl rfl rfl hO18 rfl rfl ?_
  refine r_callV h fun M19 hx20 hok21 h => ?_
  replace h := h hx20 hok21
  replace hO1 := hO1.up hx20
  replace hO12 := hO12.up hx20
  replace hO18 := hO18.up hx20
  refine r_aload_n x_140_44 rfl ?_
  refine r_iconst x_140_45 ?_
  refine r_putI x_140_46 (ci := 9) (k := 15) (ns := 0) (by decide +kernel) (by decide) (g_f0 (by decide +kernel)) rfl (g_Rk rfl) trivial (kz := 15) rfl hO1 ?_
  obtain ⟨M22, hM23⟩ : ∃ Mz, Mz = g_wi M19 a0 15 0 := ⟨_, rfl⟩
  rw [← hM23]
  refine g_Run.ok fun hok24 => ?_
  replace h := h M22 hM23 hok24
  have hx25 := g_extW hM23
  replace hO1 := hO1.up hx25
  replace hO12 := hO12.up hx25
  replace hO18 := hO18.up hx25
  refine r_aload_n x_140_49 rfl ?_
  refine r_iconst x_140_50 ?_
  refine r_putI x_140_51 (ci := 9) (k := 16) (ns := 0) (by decide +kernel) (by decide) (g_f0 (by decide +kernel)) rfl (g_Rk rfl) trivial (kz := 16) rfl hO1 ?_
  obtain ⟨M26, hM27⟩ : ∃ Mz, Mz = g_wi M22 a0 16 0 := ⟨_, rfl⟩
  rw [← hM27]
  refine g_Run.ok fun hok28 => ?_
  replace h := h M26 hM27 hok28
  have hx29 := g_extW hM27
  replace hO1 := hO1.up hx29
  replace hO12 := hO12.up hx29
  replace hO18 := hO18.up hx29
  refine r_aload_n x_140_54 rfl ?_
  refine r_iconst x_140_55 ?_
  refine r_putI x_140_56 (ci := 9) (k := 18) (ns := 0) (by decide +kernel) (by decide) (g_fZ (Or.inl rfl) (by decide +kernel)) rfl (g_Rk rfl) (g_zx (Or.inl rfl) rfl).2 (kz := 18) rfl hO1 ?_
  obtain ⟨M30, hM31⟩ : ∃ Mz, Mz = g_wi M26 a0 18 0 := ⟨_, rfl⟩
  rw [← hM31]
  refine g_Run.ok fun hok32 => ?_
  replace h := h M30 hM31 hok32
  have hx33 := g_extW hM31
  replace hO1 := hO1.up hx33
  replace hO12 := hO12.up hx33
  replace hO18 := hO18.up hx33
  refine r_aload_n x_140_59 rfl ?_
  refine r_iconst x_140_60 ?_
  refine r_putI x_140_61 (ci := 9) (k := 19) (ns := 0) (by decide +kernel) (by decide) (g_fZ (Or.inl rfl) (by decide +kernel)) rfl (g_Rk rfl) (g_zx (Or.inl rfl) rfl).2 (kz := 19) rfl hO1 ?_
  obtain ⟨M34, hM35⟩ : ∃ Mz, Mz = g_wi M30 a0 19 0 := ⟨_, rfl⟩
  rw [← hM35]
  refine g_Run.ok fun hok36 => ?_
  replace h := h M34 hM35 hok36
  have hx37 := g_extW hM35
  replace hO1 := hO1.up hx37
  replace hO12 := hO12.up hx37
  replace hO18 := hO18.up hx37
  exact r_retV x_140_64 rfl h
theorem m_X9_openDocument {d : Nat} {M : g_M} {Q : Int → g_M → Prop} {a0 : Nat} (h : g_ok M → g_O M a0 9 ∧ ∃ b2, g_r M a0 4 = some b2 ∧ g_O M b2 4 ∧ g_Call d 76 [.ref b2, g_n 3] M (g_qV fun M5 => g_ext M M5 → g_ok M5 → ∃ b8, g_r M5 a0 4 = some b8 ∧ g_O M5 b8 4 ∧ g_Call d 76 [.ref b8, g_n 0] M5 (g_qV fun M11 => g_ext M5 M11 → g_ok M11 → ∃ b14, g_r M11 a0 4 = some b14 ∧ g_O M11 b14 4 ∧ g_Call d 85 [.ref b14] M11 (g_qI fun r20 M17 => g_ext M11 M17 → g_ok M17 → g_InR r20 → Q r20 M17)))) : g_Call (d + 1) 141 [.ref a0] M (g_qI Q) := by
  refine g_Call.ok fun hok0 => ?_
  replace h := h hok0
  refine r_body rfl (lv := [(0, .ref a0)]) rfl ?_
  refine g_Run.ok fun hok => ?_
  refine r_aload_n x_141_0 rfl ?_
  obtain ⟨hO1, h⟩ := h
  obtain ⟨b2, hb3, h⟩ := h
  refine r_getR x_141_1 rfl (ci := 9) (k := 4) (ns := 0) (by decide +kernel) (by decide) rfl (kz := 4) rfl hO1 hb3 ?_
  refine r_iconst x_141_4 ?_
  obtain ⟨hO4, h⟩ := h
  refine r_invV x_141_5 (z := 76) (ns := 1) (by decide +kernel) (as := [g_n 3]) (r := []) rfl rfl rfl hO4 rfl rfl ?_
  refine r_callV h fun M5 hx6 hok7 h => ?_
  replace h := h hx6 hok7
  replace hO1 := hO1.up hx6
  replace hO4 := hO4.up hx6
  refine r_aload_n x_141_8 rfl ?_
  obtain ⟨b8, hb9, h⟩ := h
  refine r_getR x_141_9 rfl (ci := 9) (k := 4) (ns := 0) (by decide +kernel) (by decide) rfl (kz := 4) rfl hO1 hb9 ?_
  refine r_iconst x_141_12 ?_
  obtain ⟨hO10, h⟩ := h
  refine r_invV x_141_13 (z := 76) (ns := 1) (by decide +kernel) (as := [g_n 0]) (r := []) rfl rfl rfl hO10 rfl rfl ?_
  refine r_callV h fun M11 hx12 hok13 h => ?_
  replace h := h hx12 hok13
  replace hO1 := hO1.up hx12
  replace hO4 := hO4.up hx12
  replace hO10 := hO10.up hx12
  refine r_aload_n x_141_16 rfl ?_
  obtain ⟨b14, hb15, h⟩ := h
  refine r_getR x_141_17 rfl (ci := 9) (k := 4) (ns := 0) (by decide +kernel) (by decide) rfl (kz := 4) rfl hO1 hb15 ?_
  obtain ⟨hO16, h⟩ := h
  refine r_invV x_141_20 (z := 85) (ns := 1) (by decide +kernel) (as := []) (r := []) rfl rfl rfl hO16 rfl rfl ?_
  refine r_callI h fun r20 M17 hx18 hok19 hr21 h => ?_
  replace h := h hx18 hok19 hr21
  replace hO1 := hO1.up hx18
  replace hO4 := hO4.up hx18
  replace hO10 := hO10.up hx18
  replace hO16 := hO16.up hx18
  exact r_retI x_141_23 rfl hr21 h
theorem m_X9_closeDocument {d : Nat} {M : g_M} {Q : g_M → Prop} {a0 : Nat} {v1 : Int} (hv1 : g_InR v1) (h : g_ok M → g_O M a0 9 ∧ ∃ b2, g_r M a0 4 = some b2 ∧ g_O M b2 4 ∧ g_Call d 86 [.ref b2, g_n v1] M (g_qV fun M5 => g_ext M M5 → g_ok M5 → g_Call d 143 [.ref a0, g_n v1] M5 (g_qV fun M8 => g_ext M5 M8 → g_ok M8 → Q M8))) : g_Call (d + 1) 142 [.ref a0, g_n v1] M (g_qV Q) := by
  refine g_Call.ok fun hok0 => ?_
  replace h := h hok0
  refine r_body rfl (lv := [(0, .ref a0), (1, g_n v1)]) rfl ?_
  refine g_Run.ok fun hok => ?_
  refine r_aload_n x_142_0 rfl ?_
  obtain ⟨hO1, h⟩ := h
  obtain ⟨b2, hb3, h⟩ := h
  refine r_getR x_142_1 rfl (ci := 9) (k := 4) (ns := 0) (by decide +kernel) (by decide) rfl (kz := 4) rfl hO1 hb3 ?_
  refine r_iload_n x_142_4 rfl ?_
  obtain ⟨hO4, h⟩ := h
  refine r_invV x_142_5 (z := 86) (ns := 1) (by decide +kernel) (as := [g_n v1]) (r := []) rfl rfl rfl hO4 rfl rfl ?_
  refine r_callV h fun M5 hx6 hok7 h => ?_
  replace h := h hx6 hok7
  replace hO1 := hO1.up hx6
  replace hO4 := hO4.up hx6
  refine r_aload_n x_142_8 rfl ?_
  refine r_iload_n x_142_9 rfl ?_
  refine r_invV x_142_10 (z := 143) (ns := 0) (by decide +kernel) (as := [g_n v1]) (r := []) rfl rfl rfl hO1 rfl rfl ?_
  refine r_callV h fun M8 hx9 hok10 h => ?_
  replace h := h hx9 hok10
  replace hO1 := hO1.up hx9
  replace hO4 := hO4.up hx9
  exact r_retV x_142_13 rfl h
theorem m_X9_finishDocument {d : Nat} {M : g_M} {Q : g_M → Prop} {a0 : Nat} {v1 : Int} (hv1 : g_InR v1) (h : g_ok M → g_O M a0 9 ∧ ∃ b2, g_r M a0 4 = some b2 ∧ g_O M b2 4 ∧ g_InR ((g_i M b2 1) - v1) ∧ g_InR ((g_i M a0 16) + ((g_i M b2 1) - v1)) ∧ (∀ M7, M7 = g_wi M a0 16 ((g_i M a0 16) + ((g_i M b2 1) - v1)) → g_ok M7 → ∃ b11, g_r M7 a0 4 = some b11 ∧ g_O M7 b11 4 ∧ ((g_i M7 b11 3 = 0 → ((2000 < (g_i M b2 1) - v1 → (∀ M18, M18 = g_wi M7 a0 18 1 → g_ok M18 → Q M18)) ∧ (¬ 2000 < (g_i M b2 1) - v1 → ((40000 < g_i M7 a0 16 → (∀ M22, M22 = g_wi M7 a0 18 1 → g_ok M22 → Q M22)) ∧ (¬ 40000 < g_i M7 a0 16 → ∃ b26, g_r M7 a0 7 = some b26 ∧ ∃ n28, g_A M7 b26 1 n28 ∧ g_InR n28 ∧ ((g_i M7 a0 15 < n28 → ∃ b35, g_r M7 a0 1 = some b35 ∧ g_InR (v1 - 2) ∧ g_Call d 124 [.ref b35, g_n (v1 - 2), g_n 1] M7 (g_qI fun r41 M38 => g_ext M7 M38 → g_ok M38 → g_InR r41 → ((16 < r41 → (∀ M58, M58 = g_wi M38 a0 18 1 → g_ok M58 → Q M58)) ∧ (¬ 16 < r41 → ∃ b43, g_r M38 a0 7 = some b43 ∧ g_InR (v1 - 2) ∧ ∃ n46, g_A M38 b43 1 n46 ∧ ((0 : Int) ≤ g_i M38 a0 15 ∧ (g_i M38 a0 15 : Int) < n46) ∧ (∀ M49, M49 = g_wi M38 b43 (g_i M38 a0 15) (v1 - 2) → g_ok M49 → g_InR ((g_i M49 a0 15) + 1) ∧ (∀ M54, M54 = g_wi M49 a0 15 ((g_i M49 a0 15) + 1) → g_ok M54 → Q M54)))))) ∧ (¬ g_i M7 a0 15 < n28 → (∀ M31, M31 = g_wi M7 a0 18 1 → g_ok M31 → Q M31)))))))) ∧ (¬ g_i M7 b11 3 = 0 → (∀ M14, M14 = g_wi M7 a0 18 1 → g_ok M14 → Q M14))))) : g_Call (d + 1) 143 [.ref a0, g_n v1] M (g_qV Q) := by
  refine g_Call.ok fun hok0 => ?_
  replace h := h hok0
  refine r_body rfl (lv := [(0, .ref a0), (1, g_n v1)]) rfl ?_
  refine g_Run.ok fun hok => ?_
  refine r_aload_n x_143_0 rfl ?_
  obtain ⟨hO1, h⟩ := h
  obtain ⟨b2, hb3, h⟩ := h
  refine r_getR x_143_1 rfl (ci := 9) (k := 4) (ns := 0) (by decide +kernel) (by decide) rfl (kz := 4) rfl hO1 hb3 ?_
  obtain ⟨hO4, h⟩ := h
  refine r_getI x_143_4 rfl (ci := 4) (k := 1) (ns := 1) (by decide +kernel) (by decide) rfl (kz := 1) rfl hO4 ?_
  refine r_iload_n x_143_7 rfl ?_
  refine r_isub x_143_8 ?_
  obtain ⟨h5, h⟩ := h
  refine r_istore_n x_143_9 (by decide +kernel) rfl (lv1 := [(0, .ref a0), (1, g_n v1), (2, g_n ((g_i M b2 1) - v1))]) rfl ?_
  refine r_aload_n x_143_10 rfl ?_
  refine r_dup x_143_11 rfl ?_
  refine r_getI x_143_12 rfl (ci := 9) (k := 16) (ns := 0) (by decide +kernel) (by decide) rfl (kz := 16) rfl hO1 ?_
  refine r_iload_n x_143_15 rfl ?_
  refine r_iadd x_143_16 ?_
  obtain ⟨h6, h⟩ := h
  refine r_putI x_143_17 (ci := 9) (k := 16) (ns := 0) (by decide +kernel) (by decide) (g_f0 (by decide +kernel)) rfl h6 trivial (kz := 16) rfl hO1 ?_
  obtain ⟨M7, hM8⟩ : ∃ Mz, Mz = g_wi M a0 16 ((g_i M a0 16) + ((g_i M b2 1) - v1)) := ⟨_, rfl⟩
  rw [← hM8]
  refine g_Run.ok fun hok9 => ?_
  replace h := h M7 hM8 hok9
  have hx10 := g_extW hM8
  replace hO1 := hO1.up hx10
  replace hO4 := hO4.up hx10
  refine r_aload_n x_143_20 rfl ?_
  obtain ⟨b11, hb12, h⟩ := h
  refine r_getR x_143_21 rfl (ci := 9) (k := 4) (ns := 0) (by decide +kernel) (by decide) rfl (kz := 4) rfl hO1 hb12 ?_
  obtain ⟨hO13, h⟩ := h
  refine r_getI x_143_24 rfl (ci := 4) (k := 3) (ns := 1) (by decide +kernel) (by decide) rfl (kz := 3) rfl hO13 ?_
  refine r_if_ne x_143_27 (t := 74) (by decide +kernel) (hok9.1 _ _) (fun hc => ?_) (fun hc => ?_)
  · replace h := h.2 hc
    refine r_aload_n x_143_74 rfl ?_
    refine r_iconst x_143_75 ?_
    refine r_putI x_143_76 (ci := 9) (k := 18) (ns := 0) (by decide +kernel) (by decide) (g_fZ (Or.inr rfl) (by decide +kernel)) rfl (g_Rk rfl) (g_zx (Or.inr rfl) rfl).2 (kz := 18) rfl hO1 ?_
    obtain ⟨M14, hM15⟩ : ∃ Mz, Mz = g_wi M7 a0 18 1 := ⟨_, rfl⟩
    rw [← hM15]
    refine g_Run.ok fun hok16 => ?_
    replace h := h M14 hM15 hok16
    have hx17 := g_extW hM15
    replace hO1 := hO1.up hx17
    replace hO4 := hO4.up hx17
    replace hO13 := hO13.up hx17
    exact r_retV x_143_79 rfl h
  · replace h := h.1 hc
    refine r_iload_n x_143_30 rfl ?_
    refine r_sipush x_143_31 (x := 2000) rfl ?_
    refine r_ic_gt x_143_34 (t := 74) (by decide +kernel) h5 (g_Rk rfl) (fun hc => ?_) (fun hc => ?_)
    · replace h := h.1 hc
      refine r_aload_n x_143_74 rfl ?_
      refine r_iconst x_143_75 ?_
      refine r_putI x_143_76 (ci := 9) (k := 18) (ns := 0) (by decide +kernel) (by decide) (g_fZ (Or.inr rfl) (by decide +kernel)) rfl (g_Rk rfl) (g_zx (Or.inr rfl) rfl).2 (kz := 18) rfl hO1 ?_
      obtain ⟨M18, hM19⟩ : ∃ Mz, Mz = g_wi M7 a0 18 1 := ⟨_, rfl⟩
      rw [← hM19]
      refine g_Run.ok fun hok20 => ?_
      replace h := h M18 hM19 hok20
      have hx21 := g_extW hM19
      replace hO1 := hO1.up hx21
      replace hO4 := hO4.up hx21
      replace hO13 := hO13.up hx21
      exact r_retV x_143_79 rfl h
    · replace h := h.2 hc
      refine r_aload_n x_143_37 rfl ?_
      refine r_getI x_143_38 rfl (ci := 9) (k := 16) (ns := 0) (by decide +kernel) (by decide) rfl (kz := 16) rfl hO1 ?_
      refine r_ldc x_143_41 (v := g_n 40000) rfl ?_
      refine r_ic_gt x_143_43 (t := 74) (by decide +kernel) (hok9.1 _ _) (g_Rk rfl) (fun hc => ?_) (fun hc => ?_)
      · replace h := h.1 hc
        refine r_aload_n x_143_74 rfl ?_
        refine r_iconst x_143_75 ?_
        refine r_putI x_143_76 (ci := 9) (k := 18) (ns := 0) (by decide +kernel) (by decide) (g_fZ (Or.inr rfl) (by decide +kernel)) rfl (g_Rk rfl) (g_zx (Or.inr rfl) rfl).2 (kz := 18) rfl hO1 ?_
        obtain ⟨M22, hM23⟩ : ∃ Mz, Mz = g_wi M7 a0 18 1 := ⟨_, rfl⟩
        rw [← hM23]
        refine g_Run.ok fun hok24 => ?_
        replace h := h M22 hM23 hok24
        have hx25 := g_extW hM23
        replace hO1 := hO1.up hx25
        replace hO4 := hO4.up hx25
        replace hO13 := hO13.up hx25
        exact r_retV x_143_79 rfl h
      · replace h := h.2 hc
        refine r_aload_n x_143_46 rfl ?_
        refine r_getI x_143_47 rfl (ci := 9) (k := 15) (ns := 0) (by decide +kernel) (by decide) rfl (kz := 15) rfl hO1 ?_
        refine r_aload_n x_143_50 rfl ?_
        obtain ⟨b26, hb27, h⟩ := h
        refine r_getR x_143_51 rfl (ci := 9) (k := 7) (ns := 0) (by decide +kernel) (by decide) rfl (kz := 7) rfl hO1 hb27 ?_
        obtain ⟨n28, hA29, h⟩ := h
        refine r_alen x_143_54 hA29 ?_
        obtain ⟨h30, h⟩ := h
        refine r_ic_ge x_143_55 (t := 74) (by decide +kernel) (hok9.1 _ _) h30 (fun hc => ?_) (fun hc => ?_)
        · replace h := h.2 hc
          refine r_aload_n x_143_74 rfl ?_
          refine r_iconst x_143_75 ?_
          refine r_putI x_143_76 (ci := 9) (k := 18) (ns := 0) (by decide +kernel) (by decide) (g_fZ (Or.inr rfl) (by decide +kernel)) rfl (g_Rk rfl) (g_zx (Or.inr rfl) rfl).2 (kz := 18) rfl hO1 ?_
          obtain ⟨M31, hM32⟩ : ∃ Mz, Mz = g_wi M7 a0 18 1 := ⟨_, rfl⟩
          rw [← hM32]
          refine g_Run.ok fun hok33 => ?_
          replace h := h M31 hM32 hok33
          have hx34 := g_extW hM32
          replace hO1 := hO1.up hx34
          replace hO4 := hO4.up hx34
          replace hO13 := hO13.up hx34
          replace hA29 := hA29.up hx34
          exact r_retV x_143_79 rfl h
        · replace h := h.1 hc
          refine r_aload_n x_143_58 rfl ?_
          obtain ⟨b35, hb36, h⟩ := h
          refine r_getR x_143_59 rfl (ci := 9) (k := 1) (ns := 0) (by decide +kernel) (by decide) rfl (kz := 1) rfl hO1 hb36 ?_
          refine r_iload_n x_143_62 rfl ?_
          refine r_iconst x_143_63 ?_
          refine r_isub x_143_64 ?_
          obtain ⟨h37, h⟩ := h
          refine r_iconst x_143_65 ?_
          refine r_invS x_143_66 (z := 124) (ns := 1) (by decide +kernel) (as := [.ref b35, g_n (v1 - 2), g_n 1]) (r := []) rfl rfl rfl ?_
          refine r_callI h fun r41 M38 hx39 hok40 hr42 h => ?_
          replace h := h hx39 hok40 hr42
          replace hO1 := hO1.up hx39
          replace hO4 := hO4.up hx39
          replace hO13 := hO13.up hx39
          replace hA29 := hA29.up hx39
          refine r_bipush x_143_69 (x := 16) rfl ?_
          refine r_ic_le x_143_71 (t := 80) (by decide +kernel) hr42 (g_Rk rfl) (fun hc => ?_) (fun hc => ?_)
          · replace h := h.2 hc
            refine r_aload_n x_143_80 rfl ?_
            obtain ⟨b43, hb44, h⟩ := h
            refine r_getR x_143_81 rfl (ci := 9) (k := 7) (ns := 0) (by decide +kernel) (by decide) rfl (kz := 7) rfl hO1 hb44 ?_
            refine r_aload_n x_143_84 rfl ?_
            refine r_getI x_143_85 rfl (ci := 9) (k := 15) (ns := 0) (by decide +kernel) (by decide) rfl (kz := 15) rfl hO1 ?_
            refine r_iload_n x_143_88 rfl ?_
            refine r_iconst x_143_89 ?_
            refine r_isub x_143_90 ?_
            obtain ⟨h45, h⟩ := h
            obtain ⟨n46, hA47, h⟩ := h
            obtain ⟨h48, h⟩ := h
            refine r_iast x_143_91 hA47 (hok40.1 _ _) h48.1 h48.2 h45 ?_
            obtain ⟨M49, hM50⟩ : ∃ Mz, Mz = g_wi M38 b43 (g_i M38 a0 15) (v1 - 2) := ⟨_, rfl⟩
            rw [← hM50]
            refine g_Run.ok fun hok51 => ?_
            replace h := h M49 hM50 hok51
            have hx52 := g_extW hM50
            replace hO1 := hO1.up hx52
            replace hO4 := hO4.up hx52
            replace hO13 := hO13.up hx52
            replace hA29 := hA29.up hx52
            replace hA47 := hA47.up hx52
            refine r_aload_n x_143_92 rfl ?_
            refine r_dup x_143_93 rfl ?_
            refine r_getI x_143_94 rfl (ci := 9) (k := 15) (ns := 0) (by decide +kernel) (by decide) rfl (kz := 15) rfl hO1 ?_
            refine r_iconst x_143_97 ?_
            refine r_iadd x_143_98 ?_
            obtain ⟨h53, h⟩ := h
            refine r_putI x_143_99 (ci := 9) (k := 15) (ns := 0) (by decide +kernel) (by decide) (g_f0 (by decide +kernel)) rfl h53 trivial (kz := 15) rfl hO1 ?_
            obtain ⟨M54, hM55⟩ : ∃ Mz, Mz = g_wi M49 a0 15 ((g_i M49 a0 15) + 1) := ⟨_, rfl⟩
            rw [← hM55]
            refine g_Run.ok fun hok56 => ?_
            replace h := h M54 hM55 hok56
            have hx57 := g_extW hM55
            replace hO1 := hO1.up hx57
            replace hO4 := hO4.up hx57
            replace hO13 := hO13.up hx57
            replace hA29 := hA29.up hx57
            replace hA47 := hA47.up hx57
            exact r_retV x_143_102 rfl h
          · replace h := h.1 hc
            refine r_aload_n x_143_74 rfl ?_
            refine r_iconst x_143_75 ?_
            refine r_putI x_143_76 (ci := 9) (k := 18) (ns := 0) (by decide +kernel) (by decide) (g_fZ (Or.inr rfl) (by decide +kernel)) rfl (g_Rk rfl) (g_zx (Or.inr rfl) rfl).2 (kz := 18) rfl hO1 ?_
            obtain ⟨M58, hM59⟩ : ∃ Mz, Mz = g_wi M38 a0 18 1 := ⟨_, rfl⟩
            rw [← hM59]
            refine g_Run.ok fun hok60 => ?_
            replace h := h M58 hM59 hok60
            have hx61 := g_extW hM59
            replace hO1 := hO1.up hx61
            replace hO4 := hO4.up hx61
            replace hO13 := hO13.up hx61
            replace hA29 := hA29.up hx61
            exact r_retV x_143_79 rfl h
theorem m_X9_endFresh {d : Nat} {M : g_M} {Q : Int → g_M → Prop} {a0 : Nat} (h : g_ok M → g_O M a0 9 ∧ ((g_i M a0 18 = 0 → ∃ b2, g_r M a0 7 = some b2 ∧ ∃ b4, g_r M a0 6 = some b4 ∧ ∃ n6, g_A M b2 1 n6 ∧ ∃ n8, g_A M b4 1 n8 ∧ ((0 : Int) ≤ 0 ∧ (0 : Int) ≤ 0 ∧ (0 : Int) ≤ g_i M a0 15 ∧ (0 : Int) + (g_i M a0 15) ≤ n6 ∧ (0 : Int) + (g_i M a0 15) ≤ n8) ∧ (∀ M11, M11 = g_cp M b2 b4 0 0 (g_i M a0 15) → g_ok M11 → (∀ M15, M15 = g_wi M11 a0 14 (g_i M11 a0 15) → g_ok M15 → Q 0 M15))) ∧ (¬ g_i M a0 18 = 0 → Q 5 M))) : g_Call (d + 1) 144 [.ref a0] M (g_qI Q) := by
  refine g_Call.ok fun hok0 => ?_
  replace h := h hok0
  refine r_body rfl (lv := [(0, .ref a0)]) rfl ?_
  refine g_Run.ok fun hok => ?_
  refine r_aload_n x_144_0 rfl ?_
  obtain ⟨hO1, h⟩ := h
  refine r_getI x_144_1 rfl (ci := 9) (k := 18) (ns := 0) (by decide +kernel) (by decide) rfl (kz := 18) rfl hO1 ?_
  refine r_if_eq x_144_4 (t := 9) (by decide +kernel) (hok.1 _ _) (fun hc => ?_) (fun hc => ?_)
  · replace h := h.1 hc
    refine r_aload_n x_144_9 rfl ?_
    obtain ⟨b2, hb3, h⟩ := h
    refine r_getR x_144_10 rfl (ci := 9) (k := 7) (ns := 0) (by decide +kernel) (by decide) rfl (kz := 7) rfl hO1 hb3 ?_
    refine r_iconst x_144_13 ?_
    refine r_aload_n x_144_14 rfl ?_
    obtain ⟨b4, hb5, h⟩ := h
    refine r_getR x_144_15 rfl (ci := 9) (k := 6) (ns := 0) (by decide +kernel) (by decide) rfl (kz := 6) rfl hO1 hb5 ?_
    refine r_iconst x_144_18 ?_
    refine r_aload_n x_144_19 rfl ?_
    refine r_getI x_144_20 rfl (ci := 9) (k := 15) (ns := 0) (by decide +kernel) (by decide) rfl (kz := 15) rfl hO1 ?_
    obtain ⟨n6, hA7, h⟩ := h
    obtain ⟨n8, hA9, h⟩ := h
    obtain ⟨h10, h⟩ := h
    refine r_copy x_144_23 rfl rfl rfl rfl rfl rfl (by decide) hA7 hA9 (g_Rk rfl) (g_Rk rfl) (hok.1 _ _) h10.1 h10.2.1 h10.2.2.1 h10.2.2.2.1 h10.2.2.2.2 ?_
    obtain ⟨M11, hM12⟩ : ∃ Mz, Mz = g_cp M b2 b4 0 0 (g_i M a0 15) := ⟨_, rfl⟩
    rw [← hM12]
    refine g_Run.ok fun hok13 => ?_
    replace h := h M11 hM12 hok13
    have hx14 := g_extC hM12
    replace hO1 := hO1.up hx14
    replace hA7 := hA7.up hx14
    replace hA9 := hA9.up hx14
    refine r_aload_n x_144_26 rfl ?_
    refine r_aload_n x_144_27 rfl ?_
    refine r_getI x_144_28 rfl (ci := 9) (k := 15) (ns := 0) (by decide +kernel) (by decide) rfl (kz := 15) rfl hO1 ?_
    refine r_putI x_144_31 (ci := 9) (k := 14) (ns := 0) (by decide +kernel) (by decide) (g_f0 (by decide +kernel)) rfl (hok13.1 _ _) trivial (kz := 14) rfl hO1 ?_
    obtain ⟨M15, hM16⟩ : ∃ Mz, Mz = g_wi M11 a0 14 (g_i M11 a0 15) := ⟨_, rfl⟩
    rw [← hM16]
    refine g_Run.ok fun hok17 => ?_
    replace h := h M15 hM16 hok17
    have hx18 := g_extW hM16
    replace hO1 := hO1.up hx18
    replace hA7 := hA7.up hx18
    replace hA9 := hA9.up hx18
    refine r_iconst x_144_34 ?_
    exact r_retI x_144_35 rfl (g_Rk rfl) h
  · replace h := h.2 hc
    refine r_iconst x_144_7 ?_
    exact r_retI x_144_8 rfl (g_Rk rfl) h
theorem m_X9_isPlain {d : Nat} {M : g_M} {Q : Int → g_M → Prop} {a0 : Nat} {v1 : Int} (hv1 : g_InR v1) {v2 : Int} (hv2 : g_InR v2) (h : g_ok M → ((v1 < 0 → Q 0 M) ∧ (¬ v1 < 0 → ((v1 < v2 → g_O M a0 9 ∧ ∃ b2, g_r M a0 1 = some b2 ∧ ∃ n4, g_A M b2 0 n4 ∧ g_InR n4 ∧ ((n4 < v2 → Q 0 M) ∧ (¬ n4 < v2 → ∃ b7, g_r M a0 1 = some b7 ∧ ∃ n9, g_A M b7 0 n9 ∧ ((0 : Int) ≤ v1 ∧ (v1 : Int) < n9) ∧ ((g_i M b7 v1 = 36 → Q 0 M) ∧ (¬ g_i M b7 v1 = 36 → g_Run d 145 33 [(0, .ref a0), (1, g_n v1), (2, g_n v2), (3, g_n v1)] [] M (g_qI Q)))))) ∧ (¬ v1 < v2 → Q 0 M))))) : g_Call (d + 1) 145 [.ref a0, g_n v1, g_n v2] M (g_qI Q) := by
  refine g_Call.ok fun hok0 => ?_
  replace h := h hok0
  refine r_body rfl (lv := [(0, .ref a0), (1, g_n v1), (2, g_n v2)]) rfl ?_
  refine g_Run.ok fun hok => ?_
  refine r_iload_n x_145_0 rfl ?_
  refine r_if_lt x_145_1 (t := 29) (by decide +kernel) hv1 (fun hc => ?_) (fun hc => ?_)
  · replace h := h.1 hc
    refine r_iconst x_145_29 ?_
    exact r_retZ x_145_30 rfl (Or.inl rfl) h
  · replace h := h.2 hc
    refine r_iload_n x_145_4 rfl ?_
    refine r_iload_n x_145_5 rfl ?_
    refine r_ic_ge x_145_6 (t := 29) (by decide +kernel) hv1 hv2 (fun hc => ?_) (fun hc => ?_)
    · replace h := h.2 hc
      refine r_iconst x_145_29 ?_
      exact r_retZ x_145_30 rfl (Or.inl rfl) h
    · replace h := h.1 hc
      refine r_iload_n x_145_9 rfl ?_
      refine r_aload_n x_145_10 rfl ?_
      obtain ⟨hO1, h⟩ := h
      obtain ⟨b2, hb3, h⟩ := h
      refine r_getR x_145_11 rfl (ci := 9) (k := 1) (ns := 0) (by decide +kernel) (by decide) rfl (kz := 1) rfl hO1 hb3 ?_
      obtain ⟨n4, hA5, h⟩ := h
      refine r_alen x_145_14 hA5 ?_
      obtain ⟨h6, h⟩ := h
      refine r_ic_gt x_145_15 (t := 29) (by decide +kernel) hv2 h6 (fun hc => ?_) (fun hc => ?_)
      · replace h := h.1 hc
        refine r_iconst x_145_29 ?_
        exact r_retZ x_145_30 rfl (Or.inl rfl) h
      · replace h := h.2 hc
        refine r_aload_n x_145_18 rfl ?_
        obtain ⟨b7, hb8, h⟩ := h
        refine r_getR x_145_19 rfl (ci := 9) (k := 1) (ns := 0) (by decide +kernel) (by decide) rfl (kz := 1) rfl hO1 hb8 ?_
        refine r_iload_n x_145_22 rfl ?_
        obtain ⟨n9, hA10, h⟩ := h
        obtain ⟨h11, h⟩ := h
        refine r_bald x_145_23 (Or.inl rfl) hA10 hv1 h11.1 h11.2 ?_
        refine r_bipush x_145_24 (x := 36) rfl ?_
        refine r_ic_ne x_145_26 (t := 31) (by decide +kernel) (hok.1 _ _) (g_Rk rfl) (fun hc => ?_) (fun hc => ?_)
        · replace h := h.2 hc
          refine r_iload_n x_145_31 rfl ?_
          refine r_istore_n x_145_32 (by decide +kernel) rfl (lv1 := [(0, .ref a0), (1, g_n v1), (2, g_n v2), (3, g_n v1)]) rfl ?_
          exact h
        · replace h := h.1 hc
          refine r_iconst x_145_29 ?_
          exact r_retZ x_145_30 rfl (Or.inl rfl) h
theorem s_X9_isPlain_33 {d : Nat} {M : g_M} {Q : Int → g_M → Prop} {a0 : Nat} {v1 : Int} (hv1 : g_InR v1) {v2 : Int} (hv2 : g_InR v2) {v3 : Int} (hv3 : g_InR v3) (h : g_ok M → ((v3 < v2 → g_O M a0 9 ∧ ∃ b2, g_r M a0 1 = some b2 ∧ ∃ n4, g_A M b2 0 n4 ∧ ((0 : Int) ≤ v3 ∧ (v3 : Int) < n4) ∧ ((g_i M b2 v3 = 46 → Q 0 M) ∧ (¬ g_i M b2 v3 = 46 → ∃ b7, g_r M a0 1 = some b7 ∧ ∃ n9, g_A M b7 0 n9 ∧ ((0 : Int) ≤ v3 ∧ (v3 : Int) < n9) ∧ ((g_i M b7 v3 = 0 → Q 0 M) ∧ (¬ g_i M b7 v3 = 0 → g_InR (v3 + 1) ∧ g_Run d 145 33 [(0, .ref a0), (1, g_n v1), (2, g_n v2), (3, g_n (v3 + 1))] [] M (g_qI Q)))))) ∧ (¬ v3 < v2 → Q 1 M))) : g_Run d 145 33 [(0, .ref a0), (1, g_n v1), (2, g_n v2), (3, g_n v3)] [] M (g_qI Q) := by
  refine g_Run.ok fun hok => ?_
  replace h := h hok
  refine r_iload_n x_145_33 rfl ?_
  refine r_iload_n x_145_34 rfl ?_
  refine r_ic_ge x_145_35 (t := 66) (by decide +kernel) hv3 hv2 (fun hc => ?_) (fun hc => ?_)
  · replace h := h.2 hc
    refine r_iconst x_145_66 ?_
    exact r_retZ x_145_67 rfl (Or.inr rfl) h
  · replace h := h.1 hc
    refine r_aload_n x_145_38 rfl ?_
    obtain ⟨hO1, h⟩ := h
    obtain ⟨b2, hb3, h⟩ := h
    refine r_getR x_145_39 rfl (ci := 9) (k := 1) (ns := 0) (by decide +kernel) (by decide) rfl (kz := 1) rfl hO1 hb3 ?_
    refine r_iload_n x_145_42 rfl ?_
    obtain ⟨n4, hA5, h⟩ := h
    obtain ⟨h6, h⟩ := h
    refine r_bald x_145_43 (Or.inl rfl) hA5 hv3 h6.1 h6.2 ?_
    refine r_bipush x_145_44 (x := 46) rfl ?_
    refine r_ic_eq x_145_46 (t := 58) (by decide +kernel) (hok.1 _ _) (g_Rk rfl) (fun hc => ?_) (fun hc => ?_)
    · replace h := h.1 hc
      refine r_iconst x_145_58 ?_
      exact r_retZ x_145_59 rfl (Or.inl rfl) h
    · replace h := h.2 hc
      refine r_aload_n x_145_49 rfl ?_
      obtain ⟨b7, hb8, h⟩ := h
      refine r_getR x_145_50 rfl (ci := 9) (k := 1) (ns := 0) (by decide +kernel) (by decide) rfl (kz := 1) rfl hO1 hb8 ?_
      refine r_iload_n x_145_53 rfl ?_
      obtain ⟨n9, hA10, h⟩ := h
      obtain ⟨h11, h⟩ := h
      refine r_bald x_145_54 (Or.inl rfl) hA10 hv3 h11.1 h11.2 ?_
      refine r_if_ne x_145_55 (t := 60) (by decide +kernel) (hok.1 _ _) (fun hc => ?_) (fun hc => ?_)
      · replace h := h.2 hc
        obtain ⟨h12, h⟩ := h
        refine r_iinc x_145_60 (by decide +kernel) rfl rfl (lv1 := [(0, .ref a0), (1, g_n v1), (2, g_n v2), (3, g_n (v3 + 1))]) rfl ?_
        refine r_goto x_145_63 (t := 33) (by decide +kernel) ?_
        exact h
      · replace h := h.1 hc
        refine r_iconst x_145_58 ?_
        exact r_retZ x_145_59 rfl (Or.inl rfl) h
theorem m_X9_hasPlainName {d : Nat} {M : g_M} {Q : Int → g_M → Prop} {a0 : Nat} {v1 : Int} (hv1 : g_InR v1) (h : g_ok M → g_InR (v1 + 1) ∧ g_O M a0 9 ∧ ∃ b3, g_r M a0 1 = some b3 ∧ g_Call d 110 [.ref b3, g_n v1] M (g_qI fun r8 M5 => g_ext M M5 → g_ok M5 → g_InR r8 → g_InR (r8 - 1) ∧ g_Call d 145 [.ref a0, g_n (v1 + 1), g_n (r8 - 1)] M5 (g_qI fun r14 M11 => g_ext M5 M11 → g_ok M11 → g_InR r14 → (r14 = 0 ∨ r14 = 1) ∧ Q r14 M11))) : g_Call (d + 1) 146 [.ref a0, g_n v1] M (g_qI Q) := by
  refine g_Call.ok fun hok0 => ?_
  replace h := h hok0
  refine r_body rfl (lv := [(0, .ref a0), (1, g_n v1)]) rfl ?_
  refine g_Run.ok fun hok => ?_
  refine r_aload_n x_146_0 rfl ?_
  refine r_iload_n x_146_1 rfl ?_
  refine r_iconst x_146_2 ?_
  refine r_iadd x_146_3 ?_
  obtain ⟨h1, h⟩ := h
  refine r_aload_n x_146_4 rfl ?_
  obtain ⟨hO2, h⟩ := h
  obtain ⟨b3, hb4, h⟩ := h
  refine r_getR x_146_5 rfl (ci := 9) (k := 1) (ns := 0) (by decide +kernel) (by decide) rfl (kz := 1) rfl hO2 hb4 ?_
  refine r_iload_n x_146_8 rfl ?_
  refine r_invS x_146_9 (z := 110) (ns := 1) (by decide +kernel) (as := [.ref b3, g_n v1]) (r := [g_n (v1 + 1), .ref a0]) rfl rfl rfl ?_
  refine r_callI h fun r8 M5 hx6 hok7 hr9 h => ?_
  replace h := h hx6 hok7 hr9
  replace hO2 := hO2.up hx6
  refine r_iconst x_146_12 ?_
  refine r_isub x_146_13 ?_
  obtain ⟨h10, h⟩ := h
  refine r_invV x_146_14 (z := 145) (ns := 0) (by decide +kernel) (as := [g_n (v1 + 1), g_n (r8 - 1)]) (r := []) rfl rfl rfl hO2 rfl rfl ?_
  refine r_callI h fun r14 M11 hx12 hok13 hr15 h => ?_
  replace h := h hx12 hok13 hr15
  replace hO2 := hO2.up hx12
  obtain ⟨hz, h⟩ := h
  exact r_retZ x_146_17 rfl hz h
theorem m_X9_isDollarText {d : Nat} {M : g_M} {Q : Int → g_M → Prop} {a0 : Nat} {v1 : Int} (hv1 : g_InR v1) (h : g_ok M → g_O M a0 9 ∧ ∃ b2, g_r M a0 1 = some b2 ∧ g_Call d 110 [.ref b2, g_n v1] M (g_qI fun r7 M4 => g_ext M M4 → g_ok M4 → g_InR r7 → ∃ b9, g_r M4 a0 1 = some b9 ∧ g_Call d 108 [.ref b9, g_n v1] M4 (g_qI fun r14 M11 => g_ext M4 M11 → g_ok M11 → g_InR r14 → ((r14 = 2 → ∃ b16, g_r M11 a0 1 = some b16 ∧ g_Call d 109 [.ref b16, g_n r7] M11 (g_qI fun r21 M18 => g_ext M11 M18 → g_ok M18 → g_InR r21 → ((1 < r21 → ∃ b23, g_r M18 a0 1 = some b23 ∧ g_InR (r7 + 4) ∧ g_Call d 108 [.ref b23, g_n (r7 + 4)] M18 (g_qI fun r29 M26 => g_ext M18 M26 → g_ok M26 → g_InR r29 → ((r29 = 36 → Q 1 M26) ∧ (¬ r29 = 36 → Q 0 M26)))) ∧ (¬ 1 < r21 → Q 0 M18)))) ∧ (¬ r14 = 2 → Q 0 M11))))) : g_Call (d + 1) 147 [.ref a0, g_n v1] M (g_qI Q) := by
  refine g_Call.ok fun hok0 => ?_
  replace h := h hok0
  refine r_body rfl (lv := [(0, .ref a0), (1, g_n v1)]) rfl ?_
  refine g_Run.ok fun hok => ?_
  refine r_aload_n x_147_0 rfl ?_
  obtain ⟨hO1, h⟩ := h
  obtain ⟨b2, hb3, h⟩ := h
  refine r_getR x_147_1 rfl (ci := 9) (k := 1) (ns := 0) (by decide +kernel) (by decide) rfl (kz := 1) rfl hO1 hb3 ?_
  refine r_iload_n x_147_4 rfl ?_
  refine r_invS x_147_5 (z := 110) (ns := 1) (by decide +kernel) (as := [.ref b2, g_n v1]) (r := []) rfl rfl rfl ?_
  refine r_callI h fun r7 M4 hx5 hok6 hr8 h => ?_
  replace h := h hx5 hok6 hr8
  replace hO1 := hO1.up hx5
  refine r_istore_n x_147_8 (by decide +kernel) rfl (lv1 := [(0, .ref a0), (1, g_n v1), (2, g_n r7)]) rfl ?_
  refine r_aload_n x_147_9 rfl ?_
  obtain ⟨b9, hb10, h⟩ := h
  refine r_getR x_147_10 rfl (ci := 9) (k := 1) (ns := 0) (by decide +kernel) (by decide) rfl (kz := 1) rfl hO1 hb10 ?_
  refine r_iload_n x_147_13 rfl ?_
  refine r_invS x_147_14 (z := 108) (ns := 1) (by decide +kernel) (as := [.ref b9, g_n v1]) (r := []) rfl rfl rfl ?_
  refine r_callI h fun r14 M11 hx12 hok13 hr15 h => ?_
  replace h := h hx12 hok13 hr15
  replace hO1 := hO1.up hx12
  refine r_iconst x_147_17 ?_
  refine r_ic_ne x_147_18 (t := 52) (by decide +kernel) hr15 (g_Rk rfl) (fun hc => ?_) (fun hc => ?_)
  · replace h := h.2 hc
    refine r_iconst x_147_52 ?_
    exact r_retZ x_147_53 rfl (Or.inl rfl) h
  · replace h := h.1 hc
    refine r_aload_n x_147_21 rfl ?_
    obtain ⟨b16, hb17, h⟩ := h
    refine r_getR x_147_22 rfl (ci := 9) (k := 1) (ns := 0) (by decide +kernel) (by decide) rfl (kz := 1) rfl hO1 hb17 ?_
    refine r_iload_n x_147_25 rfl ?_
    refine r_invS x_147_26 (z := 109) (ns := 1) (by decide +kernel) (as := [.ref b16, g_n r7]) (r := []) rfl rfl rfl ?_
    refine r_callI h fun r21 M18 hx19 hok20 hr22 h => ?_
    replace h := h hx19 hok20 hr22
    replace hO1 := hO1.up hx19
    refine r_iconst x_147_29 ?_
    refine r_ic_le x_147_30 (t := 52) (by decide +kernel) hr22 (g_Rk rfl) (fun hc => ?_) (fun hc => ?_)
    · replace h := h.2 hc
      refine r_iconst x_147_52 ?_
      exact r_retZ x_147_53 rfl (Or.inl rfl) h
    · replace h := h.1 hc
      refine r_aload_n x_147_33 rfl ?_
      obtain ⟨b23, hb24, h⟩ := h
      refine r_getR x_147_34 rfl (ci := 9) (k := 1) (ns := 0) (by decide +kernel) (by decide) rfl (kz := 1) rfl hO1 hb24 ?_
      refine r_iload_n x_147_37 rfl ?_
      refine r_iconst x_147_38 ?_
      refine r_iadd x_147_39 ?_
      obtain ⟨h25, h⟩ := h
      refine r_invS x_147_40 (z := 108) (ns := 1) (by decide +kernel) (as := [.ref b23, g_n (r7 + 4)]) (r := []) rfl rfl rfl ?_
      refine r_callI h fun r29 M26 hx27 hok28 hr30 h => ?_
      replace h := h hx27 hok28 hr30
      replace hO1 := hO1.up hx27
      refine r_bipush x_147_43 (x := 36) rfl ?_
      refine r_ic_ne x_147_45 (t := 52) (by decide +kernel) hr30 (g_Rk rfl) (fun hc => ?_) (fun hc => ?_)
      · replace h := h.2 hc
        refine r_iconst x_147_52 ?_
        exact r_retZ x_147_53 rfl (Or.inl rfl) h
      · replace h := h.1 hc
        refine r_iconst x_147_48 ?_
        refine r_goto x_147_49 (t := 53) (by decide +kernel) ?_
        exact r_retZ x_147_53 rfl (Or.inr rfl) h
theorem m_X9_isWrongExpression {d : Nat} {M : g_M} {Q : Int → g_M → Prop} {a0 : Nat} {v1 : Int} (hv1 : g_InR v1) (h : g_ok M → g_O M a0 9 ∧ g_Call d 147 [.ref a0, g_n v1] M (g_qI fun r5 M2 => g_ext M M2 → g_ok M2 → g_InR r5 → ((r5 = 0 → Q 0 M2) ∧ (¬ r5 = 0 → ∃ b7, g_r M2 a0 2 = some b7 ∧ ∃ b9, g_r M2 a0 1 = some b9 ∧ g_O M2 b7 5 ∧ g_Call d 92 [.ref b7, .ref b9, g_n v1, g_n 1] M2 (g_qI fun r15 M12 => g_ext M2 M12 → g_ok M12 → g_InR r15 → ((r15 = 0 → Q 1 M12) ∧ (¬ r15 = 0 → Q 0 M12))))))) : g_Call (d + 1) 148 [.ref a0, g_n v1] M (g_qI Q) := by
  refine g_Call.ok fun hok0 => ?_
  replace h := h hok0
  refine r_body rfl (lv := [(0, .ref a0), (1, g_n v1)]) rfl ?_
  refine g_Run.ok fun hok => ?_
  refine r_aload_n x_148_0 rfl ?_
  refine r_iload_n x_148_1 rfl ?_
  obtain ⟨hO1, h⟩ := h
  refine r_invV x_148_2 (z := 147) (ns := 0) (by decide +kernel) (as := [g_n v1]) (r := []) rfl rfl rfl hO1 rfl rfl ?_
  refine r_callI h fun r5 M2 hx3 hok4 hr6 h => ?_
  replace h := h hx3 hok4 hr6
  replace hO1 := hO1.up hx3
  refine r_if_eq x_148_5 (t := 28) (by decide +kernel) hr6 (fun hc => ?_) (fun hc => ?_)
  · replace h := h.1 hc
    refine r_iconst x_148_28 ?_
    exact r_retZ x_148_29 rfl (Or.inl rfl) h
  · replace h := h.2 hc
    refine r_aload_n x_148_8 rfl ?_
    obtain ⟨b7, hb8, h⟩ := h
    refine r_getR x_148_9 rfl (ci := 9) (k := 2) (ns := 0) (by decide +kernel) (by decide) rfl (kz := 2) rfl hO1 hb8 ?_
    refine r_aload_n x_148_12 rfl ?_
    obtain ⟨b9, hb10, h⟩ := h
    refine r_getR x_148_13 rfl (ci := 9) (k := 1) (ns := 0) (by decide +kernel) (by decide) rfl (kz := 1) rfl hO1 hb10 ?_
    refine r_iload_n x_148_16 rfl ?_
    refine r_iconst x_148_17 ?_
    obtain ⟨hO11, h⟩ := h
    refine r_invV x_148_18 (z := 92) (ns := 1) (by decide +kernel) (as := [.ref b9, g_n v1, g_n 1]) (r := []) rfl rfl rfl hO11 rfl rfl ?_
    refine r_callI h fun r15 M12 hx13 hok14 hr16 h => ?_
    replace h := h hx13 hok14 hr16
    replace hO1 := hO1.up hx13
    replace hO11 := hO11.up hx13
    refine r_if_ne x_148_21 (t := 28) (by decide +kernel) hr16 (fun hc => ?_) (fun hc => ?_)
    · replace h := h.2 hc
      refine r_iconst x_148_28 ?_
      exact r_retZ x_148_29 rfl (Or.inl rfl) h
    · replace h := h.1 hc
      refine r_iconst x_148_24 ?_
      refine r_goto x_148_25 (t := 29) (by decide +kernel) ?_
      exact r_retZ x_148_29 rfl (Or.inr rfl) h
theorem m_X9_valueOf {d : Nat} {M : g_M} {Q : Int → g_M → Prop} {a0 : Nat} {v1 : Int} (hv1 : g_InR v1) {v2 : Int} (hv2 : g_InR v2) (h : g_ok M → g_O M a0 9 ∧ g_Call d 147 [.ref a0, g_n v1] M (g_qI fun r5 M2 => g_ext M M2 → g_ok M2 → g_InR r5 → ((r5 = 0 → Q v1 M2) ∧ (¬ r5 = 0 → ∃ b7, g_r M2 a0 2 = some b7 ∧ ∃ b9, g_r M2 a0 1 = some b9 ∧ g_O M2 b7 5 ∧ g_Call d 92 [.ref b7, .ref b9, g_n v1, g_n 1] M2 (g_qI fun r15 M12 => g_ext M2 M12 → g_ok M12 → g_InR r15 → g_Run d 149 29 [(0, .ref a0), (1, g_n v1), (2, g_n v2), (3, g_n v2), (4, g_n 0)] [] M12 (g_qI Q)))))) : g_Call (d + 1) 149 [.ref a0, g_n v1, g_n v2] M (g_qI Q) := by
  refine g_Call.ok fun hok0 => ?_
  replace h := h hok0
  refine r_body rfl (lv := [(0, .ref a0), (1, g_n v1), (2, g_n v2)]) rfl ?_
  refine g_Run.ok fun hok => ?_
  refine r_aload_n x_149_0 rfl ?_
  refine r_iload_n x_149_1 rfl ?_
  obtain ⟨hO1, h⟩ := h
  refine r_invV x_149_2 (z := 147) (ns := 0) (by decide +kernel) (as := [g_n v1]) (r := []) rfl rfl rfl hO1 rfl rfl ?_
  refine r_callI h fun r5 M2 hx3 hok4 hr6 h => ?_
  replace h := h hx3 hok4 hr6
  replace hO1 := hO1.up hx3
  refine r_if_ne x_149_5 (t := 10) (by decide +kernel) hr6 (fun hc => ?_) (fun hc => ?_)
  · replace h := h.2 hc
    refine r_aload_n x_149_10 rfl ?_
    obtain ⟨b7, hb8, h⟩ := h
    refine r_getR x_149_11 rfl (ci := 9) (k := 2) (ns := 0) (by decide +kernel) (by decide) rfl (kz := 2) rfl hO1 hb8 ?_
    refine r_aload_n x_149_14 rfl ?_
    obtain ⟨b9, hb10, h⟩ := h
    refine r_getR x_149_15 rfl (ci := 9) (k := 1) (ns := 0) (by decide +kernel) (by decide) rfl (kz := 1) rfl hO1 hb10 ?_
    refine r_iload_n x_149_18 rfl ?_
    refine r_iconst x_149_19 ?_
    obtain ⟨hO11, h⟩ := h
    refine r_invV x_149_20 (z := 92) (ns := 1) (by decide +kernel) (as := [.ref b9, g_n v1, g_n 1]) (r := []) rfl rfl rfl hO11 rfl rfl ?_
    refine r_callI h fun r15 M12 hx13 hok14 hr16 h => ?_
    replace h := h hx13 hok14 hr16
    replace hO1 := hO1.up hx13
    replace hO11 := hO11.up hx13
    refine r_pop x_149_23 rfl ?_
    refine r_iload_n x_149_24 rfl ?_
    refine r_istore_n x_149_25 (by decide +kernel) rfl (lv1 := [(0, .ref a0), (1, g_n v1), (2, g_n v2), (3, g_n v2)]) rfl ?_
    refine r_iconst x_149_26 ?_
    refine r_istore x_149_27 (by decide +kernel) rfl (lv1 := [(0, .ref a0), (1, g_n v1), (2, g_n v2), (3, g_n v2), (4, g_n 0)]) rfl ?_
    exact h
  · replace h := h.1 hc
    refine r_iload_n x_149_8 rfl ?_
    exact r_retI x_149_9 rfl hv1 h
theorem s_X9_valueOf_29 {d : Nat} {M : g_M} {Q : Int → g_M → Prop} {a0 : Nat} {v1 : Int} (hv1 : g_InR v1) {v2 : Int} (hv2 : g_InR v2) {v3 : Int} (hv3 : g_InR v3) {v4 : Int} (hv4 : g_InR v4) (h : g_ok M → g_O M a0 9 ∧ ∃ b2, g_r M a0 2 = some b2 ∧ g_O M b2 5 ∧ ((v4 < g_i M b2 3 → ((v3 < 0 → Q v3 M) ∧ (¬ v3 < 0 → ∃ b5, g_r M a0 1 = some b5 ∧ g_Call d 108 [.ref b5, g_n v3] M (g_qI fun r10 M7 => g_ext M M7 → g_ok M7 → g_InR r10 → ((r10 = 4 → ∃ b49, g_r M7 a0 5 = some b49 ∧ g_O M7 b49 4 ∧ ∃ b52, g_r M7 a0 5 = some b52 ∧ g_O M7 b52 4 ∧ g_Call d 76 [.ref b52, g_n 4] M7 (g_qV fun M55 => g_ext M7 M55 → g_ok M55 → ∃ b58, g_r M55 a0 5 = some b58 ∧ g_O M55 b58 4 ∧ g_Call d 76 [.ref b58, g_n 0] M55 (g_qV fun M61 => g_ext M55 M61 → g_ok M61 → g_Call d 150 [.ref a0, g_n v3, g_n v4, g_n 0] M61 (g_qV fun M64 => g_ext M61 M64 → g_ok M64 → Q (g_i M7 b49 1) M64)))) ∧ (¬ r10 = 4 → ∃ b12, g_r M7 a0 1 = some b12 ∧ g_Call d 108 [.ref b12, g_n v3] M7 (g_qI fun r17 M14 => g_ext M7 M14 → g_ok M14 → g_InR r17 → ((r17 = 3 → ∃ b20, g_r M14 a0 1 = some b20 ∧ ∃ b22, g_r M14 a0 2 = some b22 ∧ g_O M14 b22 5 ∧ ∃ b25, g_r M14 b22 0 = some b25 ∧ ∃ b27, g_r M14 a0 2 = some b27 ∧ g_O M14 b27 5 ∧ ∃ b30, g_r M14 b27 1 = some b30 ∧ ∃ n32, g_A M14 b30 1 n32 ∧ ((0 : Int) ≤ v4 ∧ (v4 : Int) < n32) ∧ ∃ b35, g_r M14 a0 2 = some b35 ∧ g_O M14 b35 5 ∧ ∃ b38, g_r M14 b35 2 = some b38 ∧ ∃ n40, g_A M14 b38 1 n40 ∧ ((0 : Int) ≤ v4 ∧ (v4 : Int) < n40) ∧ g_Call d 114 [.ref b20, g_n v3, .ref b25, g_n (g_i M14 b30 v4), g_n (g_i M14 b38 v4)] M14 (g_qI fun r46 M43 => g_ext M14 M43 → g_ok M43 → g_InR r46 → g_InR (v4 + 1) ∧ g_Run d 149 29 [(0, .ref a0), (1, g_n v1), (2, g_n v2), (3, g_n r46), (4, g_n (v4 + 1))] [] M43 (g_qI Q))) ∧ (¬ r17 = 3 → g_InR (v4 + 1) ∧ g_Run d 149 29 [(0, .ref a0), (1, g_n v1), (2, g_n v2), (3, g_n ((-1))), (4, g_n (v4 + 1))] [] M14 (g_qI Q)))))))))) ∧ (¬ v4 < g_i M b2 3 → Q v3 M))) : g_Run d 149 29 [(0, .ref a0), (1, g_n v1), (2, g_n v2), (3, g_n v3), (4, g_n v4)] [] M (g_qI Q) := by
  refine g_Run.ok fun hok => ?_
  replace h := h hok
  refine r_iload x_149_29 rfl ?_
  refine r_aload_n x_149_31 rfl ?_
  obtain ⟨hO1, h⟩ := h
  obtain ⟨b2, hb3, h⟩ := h
  refine r_getR x_149_32 rfl (ci := 9) (k := 2) (ns := 0) (by decide +kernel) (by decide) rfl (kz := 2) rfl hO1 hb3 ?_
  obtain ⟨hO4, h⟩ := h
  refine r_getI x_149_35 rfl (ci := 5) (k := 3) (ns := 1) (by decide +kernel) (by decide) rfl (kz := 3) rfl hO4 ?_
  refine r_ic_ge x_149_38 (t := 151) (by decide +kernel) hv4 (hok.1 _ _) (fun hc => ?_) (fun hc => ?_)
  · replace h := h.2 hc
    refine r_iload_n x_149_151 rfl ?_
    exact r_retI x_149_152 rfl hv3 h
  · replace h := h.1 hc
    refine r_iload_n x_149_41 rfl ?_
    refine r_if_lt x_149_42 (t := 151) (by decide +kernel) hv3 (fun hc => ?_) (fun hc => ?_)
    · replace h := h.1 hc
      refine r_iload_n x_149_151 rfl ?_
      exact r_retI x_149_152 rfl hv3 h
    · replace h := h.2 hc
      refine r_aload_n x_149_45 rfl ?_
      obtain ⟨b5, hb6, h⟩ := h
      refine r_getR x_149_46 rfl (ci := 9) (k := 1) (ns := 0) (by decide +kernel) (by decide) rfl (kz := 1) rfl hO1 hb6 ?_
      refine r_iload_n x_149_49 rfl ?_
      refine r_invS x_149_50 (z := 108) (ns := 1) (by decide +kernel) (as := [.ref b5, g_n v3]) (r := []) rfl rfl rfl ?_
      refine r_callI h fun r10 M7 hx8 hok9 hr11 h => ?_
      replace h := h hx8 hok9 hr11
      replace hO1 := hO1.up hx8
      replace hO4 := hO4.up hx8
      refine r_iconst x_149_53 ?_
      refine r_ic_ne x_149_54 (t := 93) (by decide +kernel) hr11 (g_Rk rfl) (fun hc => ?_) (fun hc => ?_)
      · replace h := h.2 hc
        refine r_aload_n x_149_93 rfl ?_
        obtain ⟨b12, hb13, h⟩ := h
        refine r_getR x_149_94 rfl (ci := 9) (k := 1) (ns := 0) (by decide +kernel) (by decide) rfl (kz := 1) rfl hO1 hb13 ?_
        refine r_iload_n x_149_97 rfl ?_
        refine r_invS x_149_98 (z := 108) (ns := 1) (by decide +kernel) (as := [.ref b12, g_n v3]) (r := []) rfl rfl rfl ?_
        refine r_callI h fun r17 M14 hx15 hok16 hr18 h => ?_
        replace h := h hx15 hok16 hr18
        replace hO1 := hO1.up hx15
        replace hO4 := hO4.up hx15
        refine r_iconst x_149_101 ?_
        refine r_ic_ne x_149_102 (t := 143) (by decide +kernel) hr18 (g_Rk rfl) (fun hc => ?_) (fun hc => ?_)
        · replace h := h.2 hc
          refine r_iconst x_149_143 ?_
          refine r_istore_n x_149_144 (by decide +kernel) rfl (lv1 := [(0, .ref a0), (1, g_n v1), (2, g_n v2), (3, g_n ((-1))), (4, g_n v4)]) rfl ?_
          obtain ⟨h19, h⟩ := h
          refine r_iinc x_149_145 (by decide +kernel) rfl rfl (lv1 := [(0, .ref a0), (1, g_n v1), (2, g_n v2), (3, g_n ((-1))), (4, g_n (v4 + 1))]) rfl ?_
          refine r_goto x_149_148 (t := 29) (by decide +kernel) ?_
          exact h
        · replace h := h.1 hc
          refine r_aload_n x_149_105 rfl ?_
          obtain ⟨b20, hb21, h⟩ := h
          refine r_getR x_149_106 rfl (ci := 9) (k := 1) (ns := 0) (by decide +kernel) (by decide) rfl (kz := 1) rfl hO1 hb21 ?_
          refine r_iload_n x_149_109 rfl ?_
          refine r_aload_n x_149_110 rfl ?_
          obtain ⟨b22, hb23, h⟩ := h
          refine r_getR x_149_111 rfl (ci := 9) (k := 2) (ns := 0) (by decide +kernel) (by decide) rfl (kz := 2) rfl hO1 hb23 ?_
          obtain ⟨hO24, h⟩ := h
          obtain ⟨b25, hb26, h⟩ := h
          refine r_getR x_149_114 rfl (ci := 5) (k := 0) (ns := 1) (by decide +kernel) (by decide) rfl (kz := 0) rfl hO24 hb26 ?_
          refine r_aload_n x_149_117 rfl ?_
          obtain ⟨b27, hb28, h⟩ := h
          refine r_getR x_149_118 rfl (ci := 9) (k := 2) (ns := 0) (by decide +kernel) (by decide) rfl (kz := 2) rfl hO1 hb28 ?_
          obtain ⟨hO29, h⟩ := h
          obtain ⟨b30, hb31, h⟩ := h
          refine r_getR x_149_121 rfl (ci := 5) (k := 1) (ns := 1) (by decide +kernel) (by decide) rfl (kz := 1) rfl hO29 hb31 ?_
          refine r_iload x_149_124 rfl ?_
          obtain ⟨n32, hA33, h⟩ := h
          obtain ⟨h34, h⟩ := h
          refine r_iald x_149_126 hA33 hv4 h34.1 h34.2 ?_
          refine r_aload_n x_149_127 rfl ?_
          obtain ⟨b35, hb36, h⟩ := h
          refine r_getR x_149_128 rfl (ci := 9) (k := 2) (ns := 0) (by decide +kernel) (by decide) rfl (kz := 2) rfl hO1 hb36 ?_
          obtain ⟨hO37, h⟩ := h
          obtain ⟨b38, hb39, h⟩ := h
          refine r_getR x_149_131 rfl (ci := 5) (k := 2) (ns := 1) (by decide +kernel) (by decide) rfl (kz := 2) rfl hO37 hb39 ?_
          refine r_iload x_149_134 rfl ?_
          obtain ⟨n40, hA41, h⟩ := h
          obtain ⟨h42, h⟩ := h
          refine r_iald x_149_136 hA41 hv4 h42.1 h42.2 ?_
          refine r_invS x_149_137 (z := 114) (ns := 1) (by decide +kernel) (as := [.ref b20, g_n v3, .ref b25, g_n (g_i M14 b30 v4), g_n (g_i M14 b38 v4)]) (r := []) rfl rfl rfl ?_
          refine r_callI h fun r46 M43 hx44 hok45 hr47 h => ?_
          replace h := h hx44 hok45 hr47
          replace hO1 := hO1.up hx44
          replace hO4 := hO4.up hx44
          replace hO24 := hO24.up hx44
          replace hO29 := hO29.up hx44
          replace hO37 := hO37.up hx44
          replace hA33 := hA33.up hx44
          replace hA41 := hA41.up hx44
          refine r_goto x_149_140 (t := 144) (by decide +kernel) ?_
          refine r_istore_n x_149_144 (by decide +kernel) rfl (lv1 := [(0, .ref a0), (1, g_n v1), (2, g_n v2), (3, g_n r46), (4, g_n v4)]) rfl ?_
          obtain ⟨h48, h⟩ := h
          refine r_iinc x_149_145 (by decide +kernel) rfl rfl (lv1 := [(0, .ref a0), (1, g_n v1), (2, g_n v2), (3, g_n r46), (4, g_n (v4 + 1))]) rfl ?_
          refine r_goto x_149_148 (t := 29) (by decide +kernel) ?_
          exact h
      · replace h := h.1 hc
        refine r_aload_n x_149_57 rfl ?_
        obtain ⟨b49, hb50, h⟩ := h
        refine r_getR x_149_58 rfl (ci := 9) (k := 5) (ns := 0) (by decide +kernel) (by decide) rfl (kz := 5) rfl hO1 hb50 ?_
        obtain ⟨hO51, h⟩ := h
        refine r_getI x_149_61 rfl (ci := 4) (k := 1) (ns := 1) (by decide +kernel) (by decide) rfl (kz := 1) rfl hO51 ?_
        refine r_istore x_149_64 (by decide +kernel) rfl (lv1 := [(0, .ref a0), (1, g_n v1), (2, g_n v2), (3, g_n v3), (4, g_n v4), (5, g_n (g_i M7 b49 1))]) rfl ?_
        refine r_aload_n x_149_66 rfl ?_
        obtain ⟨b52, hb53, h⟩ := h
        refine r_getR x_149_67 rfl (ci := 9) (k := 5) (ns := 0) (by decide +kernel) (by decide) rfl (kz := 5) rfl hO1 hb53 ?_
        refine r_iconst x_149_70 ?_
        obtain ⟨hO54, h⟩ := h
        refine r_invV x_149_71 (z := 76) (ns := 1) (by decide +kernel) (as := [g_n 4]) (r := []) rfl rfl rfl hO54 rfl rfl ?_
        refine r_callV h fun M55 hx56 hok57 h => ?_
        replace h := h hx56 hok57
        replace hO1 := hO1.up hx56
        replace hO4 := hO4.up hx56
        replace hO51 := hO51.up hx56
        replace hO54 := hO54.up hx56
        refine r_aload_n x_149_74 rfl ?_
        obtain ⟨b58, hb59, h⟩ := h
        refine r_getR x_149_75 rfl (ci := 9) (k := 5) (ns := 0) (by decide +kernel) (by decide) rfl (kz := 5) rfl hO1 hb59 ?_
        refine r_iconst x_149_78 ?_
        obtain ⟨hO60, h⟩ := h
        refine r_invV x_149_79 (z := 76) (ns := 1) (by decide +kernel) (as := [g_n 0]) (r := []) rfl rfl rfl hO60 rfl rfl ?_
        refine r_callV h fun M61 hx62 hok63 h => ?_
        replace h := h hx62 hok63
        replace hO1 := hO1.up hx62
        replace hO4 := hO4.up hx62
        replace hO51 := hO51.up hx62
        replace hO54 := hO54.up hx62
        replace hO60 := hO60.up hx62
        refine r_aload_n x_149_82 rfl ?_
        refine r_iload_n x_149_83 rfl ?_
        refine r_iload x_149_84 rfl ?_
        refine r_iconst x_149_86 ?_
        refine r_invV x_149_87 (z := 150) (ns := 0) (by decide +kernel) (as := [g_n v3, g_n v4, g_n 0]) (r := []) rfl rfl rfl hO1 rfl rfl ?_
        refine r_callV h fun M64 hx65 hok66 h => ?_
        replace h := h hx65 hok66
        replace hO1 := hO1.up hx65
        replace hO4 := hO4.up hx65
        replace hO51 := hO51.up hx65
        replace hO54 := hO54.up hx65
        replace hO60 := hO60.up hx65
        refine r_iload x_149_90 rfl ?_
        exact r_retI x_149_92 rfl (hok9.1 _ _) h
theorem m_X9_writeRow {d : Nat} {M : g_M} {Q : g_M → Prop} {a0 : Nat} {v1 : Int} (hv1 : g_InR v1) {v2 : Int} (hv2 : g_InR v2) {v3 : Int} (hv3 : g_InR v3) (h : g_ok M → g_O M a0 9 ∧ ∃ b2, g_r M a0 5 = some b2 ∧ g_O M b2 4 ∧ g_Call d 85 [.ref b2] M (g_qI fun r8 M5 => g_ext M M5 → g_ok M5 → g_InR r8 → ∃ b10, g_r M5 a0 1 = some b10 ∧ g_Call d 112 [.ref b10, g_n v1] M5 (g_qI fun r15 M12 => g_ext M5 M12 → g_ok M12 → g_InR r15 → g_Run d 150 25 [(0, .ref a0), (1, g_n v1), (2, g_n v2), (3, g_n v3), (4, g_n r8), (5, g_n 0), (6, g_n r15), (7, g_n 0)] [] M12 (g_qV Q)))) : g_Call (d + 1) 150 [.ref a0, g_n v1, g_n v2, g_n v3] M (g_qV Q) := by
  refine g_Call.ok fun hok0 => ?_
  replace h := h hok0
  refine r_body rfl (lv := [(0, .ref a0), (1, g_n v1), (2, g_n v2), (3, g_n v3)]) rfl ?_
  refine g_Run.ok fun hok => ?_
  refine r_aload_n x_150_0 rfl ?_
  obtain ⟨hO1, h⟩ := h
  obtain ⟨b2, hb3, h⟩ := h
  refine r_getR x_150_1 rfl (ci := 9) (k := 5) (ns := 0) (by decide +kernel) (by decide) rfl (kz := 5) rfl hO1 hb3 ?_
  obtain ⟨hO4, h⟩ := h
  refine r_invV x_150_4 (z := 85) (ns := 1) (by decide +kernel) (as := []) (r := []) rfl rfl rfl hO4 rfl rfl ?_
  refine r_callI h fun r8 M5 hx6 hok7 hr9 h => ?_
  replace h := h hx6 hok7 hr9
  replace hO1 := hO1.up hx6
  replace hO4 := hO4.up hx6
  refine r_istore x_150_7 (by decide +kernel) rfl (lv1 := [(0, .ref a0), (1, g_n v1), (2, g_n v2), (3, g_n v3), (4, g_n r8)]) rfl ?_
  refine r_iconst x_150_9 ?_
  refine r_istore x_150_10 (by decide +kernel) rfl (lv1 := [(0, .ref a0), (1, g_n v1), (2, g_n v2), (3, g_n v3), (4, g_n r8), (5, g_n 0)]) rfl ?_
  refine r_aload_n x_150_12 rfl ?_
  obtain ⟨b10, hb11, h⟩ := h
  refine r_getR x_150_13 rfl (ci := 9) (k := 1) (ns := 0) (by decide +kernel) (by decide) rfl (kz := 1) rfl hO1 hb11 ?_
  refine r_iload_n x_150_16 rfl ?_
  refine r_invS x_150_17 (z := 112) (ns := 1) (by decide +kernel) (as := [.ref b10, g_n v1]) (r := []) rfl rfl rfl ?_
  refine r_callI h fun r15 M12 hx13 hok14 hr16 h => ?_
  replace h := h hx13 hok14 hr16
  replace hO1 := hO1.up hx13
  replace hO4 := hO4.up hx13
  refine r_istore x_150_20 (by decide +kernel) rfl (lv1 := [(0, .ref a0), (1, g_n v1), (2, g_n v2), (3, g_n v3), (4, g_n r8), (5, g_n 0), (6, g_n r15)]) rfl ?_
  refine r_iconst x_150_22 ?_
  refine r_istore x_150_23 (by decide +kernel) rfl (lv1 := [(0, .ref a0), (1, g_n v1), (2, g_n v2), (3, g_n v3), (4, g_n r8), (5, g_n 0), (6, g_n r15), (7, g_n 0)]) rfl ?_
  exact h
theorem s_X9_writeRow_25 {d : Nat} {M : g_M} {Q : g_M → Prop} {a0 : Nat} {v1 : Int} (hv1 : g_InR v1) {v2 : Int} (hv2 : g_InR v2) {v3 : Int} (hv3 : g_InR v3) {v4 : Int} (hv4 : g_InR v4) {v5 : Int} (hv5 : g_InR v5) {v6 : Int} (hv6 : g_InR v6) {v7 : Int} (hv7 : g_InR v7) (h : g_ok M → ((v7 < 100000 → g_O M a0 9 ∧ ∃ b9, g_r M a0 1 = some b9 ∧ g_Call d 108 [.ref b9, g_n v6] M (g_qI fun r14 M11 => g_ext M M11 → g_ok M11 → g_InR r14 → ((r14 = 0 → ∃ b16, g_r M11 a0 5 = some b16 ∧ g_O M11 b16 4 ∧ g_Call d 86 [.ref b16, g_n v4] M11 (g_qV fun M19 => g_ext M11 M19 → g_ok M19 → Q M19)) ∧ (¬ r14 = 0 → ∃ b22, g_r M11 a0 1 = some b22 ∧ g_Call d 108 [.ref b22, g_n v6] M11 (g_qI fun r27 M24 => g_ext M11 M24 → g_ok M24 → g_InR r27 → ((r27 = 3 → g_Run d 150 68 [(0, .ref a0), (1, g_n v1), (2, g_n v2), (3, g_n v3), (4, g_n v4), (5, g_n v5), (6, g_n v6), (7, g_n v7), (8, g_n v6), (9, g_n v2)] [] M24 (g_qV Q)) ∧ (¬ r27 = 3 → g_Run d 150 68 [(0, .ref a0), (1, g_n v1), (2, g_n v2), (3, g_n v3), (4, g_n v4), (5, g_n v5), (6, g_n v6), (7, g_n v7), (8, g_n ((-1))), (9, g_n v2)] [] M24 (g_qV Q)))))))) ∧ (¬ v7 < 100000 → g_O M a0 9 ∧ ∃ b2, g_r M a0 5 = some b2 ∧ g_O M b2 4 ∧ g_Call d 86 [.ref b2, g_n v4] M (g_qV fun M5 => g_ext M M5 → g_ok M5 → Q M5)))) : g_Run d 150 25 [(0, .ref a0), (1, g_n v1), (2, g_n v2), (3, g_n v3), (4, g_n v4), (5, g_n v5), (6, g_n v6), (7, g_n v7)] [] M (g_qV Q) := by
  refine g_Run.ok fun hok => ?_
  replace h := h hok
  refine r_iload x_150_25 rfl ?_
  refine r_ldc x_150_27 (v := g_n 100000) rfl ?_
  refine r_ic_ge x_150_29 (t := 251) (by decide +kernel) hv7 (g_Rk rfl) (fun hc => ?_) (fun hc => ?_)
  · replace h := h.2 hc
    refine r_aload_n x_150_251 rfl ?_
    obtain ⟨hO1, h⟩ := h
    obtain ⟨b2, hb3, h⟩ := h
    refine r_getR x_150_252 rfl (ci := 9) (k := 5) (ns := 0) (by decide +kernel) (by decide) rfl (kz := 5) rfl hO1 hb3 ?_
    refine r_iload x_150_255 rfl ?_
    obtain ⟨hO4, h⟩ := h
    refine r_invV x_150_257 (z := 86) (ns := 1) (by decide +kernel) (as := [g_n v4]) (r := []) rfl rfl rfl hO4 rfl rfl ?_
    refine r_callV h fun M5 hx6 hok7 h => ?_
    replace h := h hx6 hok7
    replace hO1 := hO1.up hx6
    replace hO4 := hO4.up hx6
    exact r_retV x_150_260 rfl h
  · replace h := h.1 hc
    refine r_aload_n x_150_32 rfl ?_
    obtain ⟨hO8, h⟩ := h
    obtain ⟨b9, hb10, h⟩ := h
    refine r_getR x_150_33 rfl (ci := 9) (k := 1) (ns := 0) (by decide +kernel) (by decide) rfl (kz := 1) rfl hO8 hb10 ?_
    refine r_iload x_150_36 rfl ?_
    refine r_invS x_150_38 (z := 108) (ns := 1) (by decide +kernel) (as := [.ref b9, g_n v6]) (r := []) rfl rfl rfl ?_
    refine r_callI h fun r14 M11 hx12 hok13 hr15 h => ?_
    replace h := h hx12 hok13 hr15
    replace hO8 := hO8.up hx12
    refine r_if_eq x_150_41 (t := 251) (by decide +kernel) hr15 (fun hc => ?_) (fun hc => ?_)
    · replace h := h.1 hc
      refine r_aload_n x_150_251 rfl ?_
      obtain ⟨b16, hb17, h⟩ := h
      refine r_getR x_150_252 rfl (ci := 9) (k := 5) (ns := 0) (by decide +kernel) (by decide) rfl (kz := 5) rfl hO8 hb17 ?_
      refine r_iload x_150_255 rfl ?_
      obtain ⟨hO18, h⟩ := h
      refine r_invV x_150_257 (z := 86) (ns := 1) (by decide +kernel) (as := [g_n v4]) (r := []) rfl rfl rfl hO18 rfl rfl ?_
      refine r_callV h fun M19 hx20 hok21 h => ?_
      replace h := h hx20 hok21
      replace hO8 := hO8.up hx20
      replace hO18 := hO18.up hx20
      exact r_retV x_150_260 rfl h
    · replace h := h.2 hc
      refine r_aload_n x_150_44 rfl ?_
      obtain ⟨b22, hb23, h⟩ := h
      refine r_getR x_150_45 rfl (ci := 9) (k := 1) (ns := 0) (by decide +kernel) (by decide) rfl (kz := 1) rfl hO8 hb23 ?_
      refine r_iload x_150_48 rfl ?_
      refine r_invS x_150_50 (z := 108) (ns := 1) (by decide +kernel) (as := [.ref b22, g_n v6]) (r := []) rfl rfl rfl ?_
      refine r_callI h fun r27 M24 hx25 hok26 hr28 h => ?_
      replace h := h hx25 hok26 hr28
      replace hO8 := hO8.up hx25
      refine r_iconst x_150_53 ?_
      refine r_ic_ne x_150_54 (t := 62) (by decide +kernel) hr28 (g_Rk rfl) (fun hc => ?_) (fun hc => ?_)
      · replace h := h.2 hc
        refine r_iconst x_150_62 ?_
        refine r_istore x_150_63 (by decide +kernel) rfl (lv1 := [(0, .ref a0), (1, g_n v1), (2, g_n v2), (3, g_n v3), (4, g_n v4), (5, g_n v5), (6, g_n v6), (7, g_n v7), (8, g_n ((-1)))]) rfl ?_
        refine r_iload_n x_150_65 rfl ?_
        refine r_istore x_150_66 (by decide +kernel) rfl (lv1 := [(0, .ref a0), (1, g_n v1), (2, g_n v2), (3, g_n v3), (4, g_n v4), (5, g_n v5), (6, g_n v6), (7, g_n v7), (8, g_n ((-1))), (9, g_n v2)]) rfl ?_
        exact h
      · replace h := h.1 hc
        refine r_iload x_150_57 rfl ?_
        refine r_goto x_150_59 (t := 63) (by decide +kernel) ?_
        refine r_istore x_150_63 (by decide +kernel) rfl (lv1 := [(0, .ref a0), (1, g_n v1), (2, g_n v2), (3, g_n v3), (4, g_n v4), (5, g_n v5), (6, g_n v6), (7, g_n v7), (8, g_n v6)]) rfl ?_
        refine r_iload_n x_150_65 rfl ?_
        refine r_istore x_150_66 (by decide +kernel) rfl (lv1 := [(0, .ref a0), (1, g_n v1), (2, g_n v2), (3, g_n v3), (4, g_n v4), (5, g_n v5), (6, g_n v6), (7, g_n v7), (8, g_n v6), (9, g_n v2)]) rfl ?_
        exact h
theorem s_X9_writeRow_68 {d : Nat} {M : g_M} {Q : g_M → Prop} {a0 : Nat} {v1 : Int} (hv1 : g_InR v1) {v2 : Int} (hv2 : g_InR v2) {v3 : Int} (hv3 : g_InR v3) {v4 : Int} (hv4 : g_InR v4) {v5 : Int} (hv5 : g_InR v5) {v6 : Int} (hv6 : g_InR v6) {v7 : Int} (hv7 : g_InR v7) {v8 : Int} (hv8 : g_InR v8) {v9 : Int} (hv9 : g_InR v9) (h : g_ok M → g_O M a0 9 ∧ ∃ b2, g_r M a0 2 = some b2 ∧ g_O M b2 5 ∧ ((v9 < g_i M b2 3 → ∃ b5, g_r M a0 1 = some b5 ∧ g_Call d 108 [.ref b5, g_n v8] M (g_qI fun r10 M7 => g_ext M M7 → g_ok M7 → g_InR r10 → ((r10 = 3 → ∃ b12, g_r M7 a0 1 = some b12 ∧ ∃ b14, g_r M7 a0 2 = some b14 ∧ g_O M7 b14 5 ∧ ∃ b17, g_r M7 b14 0 = some b17 ∧ ∃ b19, g_r M7 a0 2 = some b19 ∧ g_O M7 b19 5 ∧ ∃ b22, g_r M7 b19 1 = some b22 ∧ ∃ n24, g_A M7 b22 1 n24 ∧ ((0 : Int) ≤ v9 ∧ (v9 : Int) < n24) ∧ ∃ b27, g_r M7 a0 2 = some b27 ∧ g_O M7 b27 5 ∧ ∃ b30, g_r M7 b27 2 = some b30 ∧ ∃ n32, g_A M7 b30 1 n32 ∧ ((0 : Int) ≤ v9 ∧ (v9 : Int) < n32) ∧ g_Call d 114 [.ref b12, g_n v8, .ref b17, g_n (g_i M7 b22 v9), g_n (g_i M7 b30 v9)] M7 (g_qI fun r38 M35 => g_ext M7 M35 → g_ok M35 → g_InR r38 → g_InR (v9 + 1) ∧ g_Run d 150 68 [(0, .ref a0), (1, g_n v1), (2, g_n v2), (3, g_n v3), (4, g_n v4), (5, g_n v5), (6, g_n v6), (7, g_n v7), (8, g_n r38), (9, g_n (v9 + 1))] [] M35 (g_qV Q))) ∧ (¬ r10 = 3 → g_Run d 150 137 [(0, .ref a0), (1, g_n v1), (2, g_n v2), (3, g_n v3), (4, g_n v4), (5, g_n v5), (6, g_n v6), (7, g_n v7), (8, g_n v8), (9, g_n v9)] [] M7 (g_qV Q))))) ∧ (¬ v9 < g_i M b2 3 → g_Run d 150 137 [(0, .ref a0), (1, g_n v1), (2, g_n v2), (3, g_n v3), (4, g_n v4), (5, g_n v5), (6, g_n v6), (7, g_n v7), (8, g_n v8), (9, g_n v9)] [] M (g_qV Q)))) : g_Run d 150 68 [(0, .ref a0), (1, g_n v1), (2, g_n v2), (3, g_n v3), (4, g_n v4), (5, g_n v5), (6, g_n v6), (7, g_n v7), (8, g_n v8), (9, g_n v9)] [] M (g_qV Q) := by
  refine g_Run.ok fun hok => ?_
  replace h := h hok
  refine r_iload x_150_68 rfl ?_
  refine r_aload_n x_150_70 rfl ?_
  obtain ⟨hO1, h⟩ := h
  obtain ⟨b2, hb3, h⟩ := h
  refine r_getR x_150_71 rfl (ci := 9) (k := 2) (ns := 0) (by decide +kernel) (by decide) rfl (kz := 2) rfl hO1 hb3 ?_
  obtain ⟨hO4, h⟩ := h
  refine r_getI x_150_74 rfl (ci := 5) (k := 3) (ns := 1) (by decide +kernel) (by decide) rfl (kz := 3) rfl hO4 ?_
  refine r_ic_ge x_150_77 (t := 137) (by decide +kernel) hv9 (hok.1 _ _) (fun hc => ?_) (fun hc => ?_)
  · replace h := h.2 hc
    exact h
  · replace h := h.1 hc
    refine r_aload_n x_150_80 rfl ?_
    obtain ⟨b5, hb6, h⟩ := h
    refine r_getR x_150_81 rfl (ci := 9) (k := 1) (ns := 0) (by decide +kernel) (by decide) rfl (kz := 1) rfl hO1 hb6 ?_
    refine r_iload x_150_84 rfl ?_
    refine r_invS x_150_86 (z := 108) (ns := 1) (by decide +kernel) (as := [.ref b5, g_n v8]) (r := []) rfl rfl rfl ?_
    refine r_callI h fun r10 M7 hx8 hok9 hr11 h => ?_
    replace h := h hx8 hok9 hr11
    replace hO1 := hO1.up hx8
    replace hO4 := hO4.up hx8
    refine r_iconst x_150_89 ?_
    refine r_ic_ne x_150_90 (t := 137) (by decide +kernel) hr11 (g_Rk rfl) (fun hc => ?_) (fun hc => ?_)
    · replace h := h.2 hc
      exact h
    · replace h := h.1 hc
      refine r_aload_n x_150_93 rfl ?_
      obtain ⟨b12, hb13, h⟩ := h
      refine r_getR x_150_94 rfl (ci := 9) (k := 1) (ns := 0) (by decide +kernel) (by decide) rfl (kz := 1) rfl hO1 hb13 ?_
      refine r_iload x_150_97 rfl ?_
      refine r_aload_n x_150_99 rfl ?_
      obtain ⟨b14, hb15, h⟩ := h
      refine r_getR x_150_100 rfl (ci := 9) (k := 2) (ns := 0) (by decide +kernel) (by decide) rfl (kz := 2) rfl hO1 hb15 ?_
      obtain ⟨hO16, h⟩ := h
      obtain ⟨b17, hb18, h⟩ := h
      refine r_getR x_150_103 rfl (ci := 5) (k := 0) (ns := 1) (by decide +kernel) (by decide) rfl (kz := 0) rfl hO16 hb18 ?_
      refine r_aload_n x_150_106 rfl ?_
      obtain ⟨b19, hb20, h⟩ := h
      refine r_getR x_150_107 rfl (ci := 9) (k := 2) (ns := 0) (by decide +kernel) (by decide) rfl (kz := 2) rfl hO1 hb20 ?_
      obtain ⟨hO21, h⟩ := h
      obtain ⟨b22, hb23, h⟩ := h
      refine r_getR x_150_110 rfl (ci := 5) (k := 1) (ns := 1) (by decide +kernel) (by decide) rfl (kz := 1) rfl hO21 hb23 ?_
      refine r_iload x_150_113 rfl ?_
      obtain ⟨n24, hA25, h⟩ := h
      obtain ⟨h26, h⟩ := h
      refine r_iald x_150_115 hA25 hv9 h26.1 h26.2 ?_
      refine r_aload_n x_150_116 rfl ?_
      obtain ⟨b27, hb28, h⟩ := h
      refine r_getR x_150_117 rfl (ci := 9) (k := 2) (ns := 0) (by decide +kernel) (by decide) rfl (kz := 2) rfl hO1 hb28 ?_
      obtain ⟨hO29, h⟩ := h
      obtain ⟨b30, hb31, h⟩ := h
      refine r_getR x_150_120 rfl (ci := 5) (k := 2) (ns := 1) (by decide +kernel) (by decide) rfl (kz := 2) rfl hO29 hb31 ?_
      refine r_iload x_150_123 rfl ?_
      obtain ⟨n32, hA33, h⟩ := h
      obtain ⟨h34, h⟩ := h
      refine r_iald x_150_125 hA33 hv9 h34.1 h34.2 ?_
      refine r_invS x_150_126 (z := 114) (ns := 1) (by decide +kernel) (as := [.ref b12, g_n v8, .ref b17, g_n (g_i M7 b22 v9), g_n (g_i M7 b30 v9)]) (r := []) rfl rfl rfl ?_
      refine r_callI h fun r38 M35 hx36 hok37 hr39 h => ?_
      replace h := h hx36 hok37 hr39
      replace hO1 := hO1.up hx36
      replace hO4 := hO4.up hx36
      replace hO16 := hO16.up hx36
      replace hO21 := hO21.up hx36
      replace hO29 := hO29.up hx36
      replace hA25 := hA25.up hx36
      replace hA33 := hA33.up hx36
      refine r_istore x_150_129 (by decide +kernel) rfl (lv1 := [(0, .ref a0), (1, g_n v1), (2, g_n v2), (3, g_n v3), (4, g_n v4), (5, g_n v5), (6, g_n v6), (7, g_n v7), (8, g_n r38), (9, g_n v9)]) rfl ?_
      obtain ⟨h40, h⟩ := h
      refine r_iinc x_150_131 (by decide +kernel) rfl rfl (lv1 := [(0, .ref a0), (1, g_n v1), (2, g_n v2), (3, g_n v3), (4, g_n v4), (5, g_n v5), (6, g_n v6), (7, g_n v7), (8, g_n r38), (9, g_n (v9 + 1))]) rfl ?_
      refine r_goto x_150_134 (t := 68) (by decide +kernel) ?_
      exact h
theorem s_X9_writeRow_137 {d : Nat} {M : g_M} {Q : g_M → Prop} {a0 : Nat} {v1 : Int} (hv1 : g_InR v1) {v2 : Int} (hv2 : g_InR v2) {v3 : Int} (hv3 : g_InR v3) {v4 : Int} (hv4 : g_InR v4) {v5 : Int} (hv5 : g_InR v5) {v6 : Int} (hv6 : g_InR v6) {v7 : Int} (hv7 : g_InR v7) {v8 : Int} (hv8 : g_InR v8) {v9 : Int} (hv9 : g_InR v9) (h : g_ok M → ((v8 < 0 → g_Run d 150 191 [(0, .ref a0), (1, g_n v1), (2, g_n v2), (3, g_n v3), (4, g_n v4), (5, g_n v5), (6, g_n v6), (7, g_n v7), (8, g_n v8), (9, g_n v9)] [] M (g_qV Q)) ∧ (¬ v8 < 0 → g_O M a0 9 ∧ ∃ b2, g_r M a0 2 = some b2 ∧ g_O M b2 5 ∧ ((v9 = g_i M b2 3 → ∃ b5, g_r M a0 5 = some b5 ∧ ∃ b7, g_r M a0 1 = some b7 ∧ g_Call d 108 [.ref b7, g_n v8] M (g_qI fun r12 M9 => g_ext M M9 → g_ok M9 → g_InR r12 → g_O M9 b5 4 ∧ g_Call d 83 [.ref b5, g_n r12, g_n v5] M9 (g_qV fun M15 => g_ext M9 M15 → g_ok M15 → ∃ b18, g_r M15 a0 5 = some b18 ∧ ∃ b20, g_r M15 a0 1 = some b20 ∧ g_O M15 b18 4 ∧ g_Call d 84 [.ref b18, .ref b20, g_n v8] M15 (g_qV fun M23 => g_ext M15 M23 → g_ok M23 → g_InR (v5 + 1) ∧ ∃ b27, g_r M23 a0 1 = some b27 ∧ g_Call d 111 [.ref b27, g_n v6] M23 (g_qI fun r32 M29 => g_ext M23 M29 → g_ok M29 → g_InR r32 → g_InR (v7 + 1) ∧ g_Run d 150 25 [(0, .ref a0), (1, g_n v1), (2, g_n v2), (3, g_n v3), (4, g_n v4), (5, g_n (v5 + 1)), (6, g_n r32), (7, g_n (v7 + 1))] [] M29 (g_qV Q)))))) ∧ (¬ v9 = g_i M b2 3 → g_Run d 150 191 [(0, .ref a0), (1, g_n v1), (2, g_n v2), (3, g_n v3), (4, g_n v4), (5, g_n v5), (6, g_n v6), (7, g_n v7), (8, g_n v8), (9, g_n v9)] [] M (g_qV Q)))))) : g_Run d 150 137 [(0, .ref a0), (1, g_n v1), (2, g_n v2), (3, g_n v3), (4, g_n v4), (5, g_n v5), (6, g_n v6), (7, g_n v7), (8, g_n v8), (9, g_n v9)] [] M (g_qV Q) := by
  refine g_Run.ok fun hok => ?_
  replace h := h hok
  refine r_iload x_150_137 rfl ?_
  refine r_if_lt x_150_139 (t := 191) (by decide +kernel) hv8 (fun hc => ?_) (fun hc => ?_)
  · replace h := h.1 hc
    exact h
  · replace h := h.2 hc
    refine r_iload x_150_142 rfl ?_
    refine r_aload_n x_150_144 rfl ?_
    obtain ⟨hO1, h⟩ := h
    obtain ⟨b2, hb3, h⟩ := h
    refine r_getR x_150_145 rfl (ci := 9) (k := 2) (ns := 0) (by decide +kernel) (by decide) rfl (kz := 2) rfl hO1 hb3 ?_
    obtain ⟨hO4, h⟩ := h
    refine r_getI x_150_148 rfl (ci := 5) (k := 3) (ns := 1) (by decide +kernel) (by decide) rfl (kz := 3) rfl hO4 ?_
    refine r_ic_ne x_150_151 (t := 191) (by decide +kernel) hv9 (hok.1 _ _) (fun hc => ?_) (fun hc => ?_)
    · replace h := h.2 hc
      exact h
    · replace h := h.1 hc
      refine r_aload_n x_150_154 rfl ?_
      obtain ⟨b5, hb6, h⟩ := h
      refine r_getR x_150_155 rfl (ci := 9) (k := 5) (ns := 0) (by decide +kernel) (by decide) rfl (kz := 5) rfl hO1 hb6 ?_
      refine r_aload_n x_150_158 rfl ?_
      obtain ⟨b7, hb8, h⟩ := h
      refine r_getR x_150_159 rfl (ci := 9) (k := 1) (ns := 0) (by decide +kernel) (by decide) rfl (kz := 1) rfl hO1 hb8 ?_
      refine r_iload x_150_162 rfl ?_
      refine r_invS x_150_164 (z := 108) (ns := 1) (by decide +kernel) (as := [.ref b7, g_n v8]) (r := [.ref b5]) rfl rfl rfl ?_
      refine r_callI h fun r12 M9 hx10 hok11 hr13 h => ?_
      replace h := h hx10 hok11 hr13
      replace hO1 := hO1.up hx10
      replace hO4 := hO4.up hx10
      refine r_iload x_150_167 rfl ?_
      obtain ⟨hO14, h⟩ := h
      refine r_invV x_150_169 (z := 83) (ns := 1) (by decide +kernel) (as := [g_n r12, g_n v5]) (r := []) rfl rfl rfl hO14 rfl rfl ?_
      refine r_callV h fun M15 hx16 hok17 h => ?_
      replace h := h hx16 hok17
      replace hO1 := hO1.up hx16
      replace hO4 := hO4.up hx16
      replace hO14 := hO14.up hx16
      refine r_aload_n x_150_172 rfl ?_
      obtain ⟨b18, hb19, h⟩ := h
      refine r_getR x_150_173 rfl (ci := 9) (k := 5) (ns := 0) (by decide +kernel) (by decide) rfl (kz := 5) rfl hO1 hb19 ?_
      refine r_aload_n x_150_176 rfl ?_
      obtain ⟨b20, hb21, h⟩ := h
      refine r_getR x_150_177 rfl (ci := 9) (k := 1) (ns := 0) (by decide +kernel) (by decide) rfl (kz := 1) rfl hO1 hb21 ?_
      refine r_iload x_150_180 rfl ?_
      obtain ⟨hO22, h⟩ := h
      refine r_invV x_150_182 (z := 84) (ns := 1) (by decide +kernel) (as := [.ref b20, g_n v8]) (r := []) rfl rfl rfl hO22 rfl rfl ?_
      refine r_callV h fun M23 hx24 hok25 h => ?_
      replace h := h hx24 hok25
      replace hO1 := hO1.up hx24
      replace hO4 := hO4.up hx24
      replace hO14 := hO14.up hx24
      replace hO22 := hO22.up hx24
      obtain ⟨h26, h⟩ := h
      refine r_iinc x_150_185 (by decide +kernel) rfl rfl (lv1 := [(0, .ref a0), (1, g_n v1), (2, g_n v2), (3, g_n v3), (4, g_n v4), (5, g_n (v5 + 1)), (6, g_n v6), (7, g_n v7), (8, g_n v8), (9, g_n v9)]) rfl ?_
      refine r_goto x_150_188 (t := 234) (by decide +kernel) ?_
      refine r_aload_n x_150_234 rfl ?_
      obtain ⟨b27, hb28, h⟩ := h
      refine r_getR x_150_235 rfl (ci := 9) (k := 1) (ns := 0) (by decide +kernel) (by decide) rfl (kz := 1) rfl hO1 hb28 ?_
      refine r_iload x_150_238 rfl ?_
      refine r_invS x_150_240 (z := 111) (ns := 1) (by decide +kernel) (as := [.ref b27, g_n v6]) (r := []) rfl rfl rfl ?_
      refine r_callI h fun r32 M29 hx30 hok31 hr33 h => ?_
      replace h := h hx30 hok31 hr33
      replace hO1 := hO1.up hx30
      replace hO4 := hO4.up hx30
      replace hO14 := hO14.up hx30
      replace hO22 := hO22.up hx30
      refine r_istore x_150_243 (by decide +kernel) rfl (lv1 := [(0, .ref a0), (1, g_n v1), (2, g_n v2), (3, g_n v3), (4, g_n v4), (5, g_n (v5 + 1)), (6, g_n r32), (7, g_n v7), (8, g_n v8), (9, g_n v9)]) rfl ?_
      obtain ⟨h34, h⟩ := h
      refine r_iinc x_150_245 (by decide +kernel) rfl rfl (lv1 := [(0, .ref a0), (1, g_n v1), (2, g_n v2), (3, g_n v3), (4, g_n v4), (5, g_n (v5 + 1)), (6, g_n r32), (7, g_n (v7 + 1)), (8, g_n v8), (9, g_n v9)]) rfl ?_
      refine r_goto x_150_248 (t := 25) (by decide +kernel) ?_
      refine g_drop [0, 1, 2, 3, 4, 5, 6, 7] (lv1 := [(0, .ref a0), (1, g_n v1), (2, g_n v2), (3, g_n v3), (4, g_n v4), (5, g_n (v5 + 1)), (6, g_n r32), (7, g_n (v7 + 1))]) rfl ?_
      exact h
theorem s_X9_writeRow_191 {d : Nat} {M : g_M} {Q : g_M → Prop} {a0 : Nat} {v1 : Int} (hv1 : g_InR v1) {v2 : Int} (hv2 : g_InR v2) {v3 : Int} (hv3 : g_InR v3) {v4 : Int} (hv4 : g_InR v4) {v5 : Int} (hv5 : g_InR v5) {v6 : Int} (hv6 : g_InR v6) {v7 : Int} (hv7 : g_InR v7) {v8 : Int} (hv8 : g_InR v8) {v9 : Int} (hv9 : g_InR v9) (h : g_ok M → g_O M a0 9 ∧ ∃ b2, g_r M a0 1 = some b2 ∧ g_Call d 108 [.ref b2, g_n v8] M (g_qI fun r7 M4 => g_ext M M4 → g_ok M4 → g_InR r7 → ((r7 = 4 → ((v3 < 60 → ∃ b25, g_r M4 a0 5 = some b25 ∧ g_O M4 b25 4 ∧ g_Call d 83 [.ref b25, g_n 4, g_n v5] M4 (g_qV fun M28 => g_ext M4 M28 → g_ok M28 → g_InR (v3 + 1) ∧ g_Call d 150 [.ref a0, g_n v8, g_n v9, g_n (v3 + 1)] M28 (g_qV fun M32 => g_ext M28 M32 → g_ok M32 → g_InR (v5 + 1) ∧ ∃ b36, g_r M32 a0 1 = some b36 ∧ g_Call d 111 [.ref b36, g_n v6] M32 (g_qI fun r41 M38 => g_ext M32 M38 → g_ok M38 → g_InR r41 → g_InR (v7 + 1) ∧ g_Run d 150 25 [(0, .ref a0), (1, g_n v1), (2, g_n v2), (3, g_n v3), (4, g_n v4), (5, g_n (v5 + 1)), (6, g_n r41), (7, g_n (v7 + 1))] [] M38 (g_qV Q))))) ∧ (¬ v3 < 60 → ∃ b17, g_r M4 a0 1 = some b17 ∧ g_Call d 111 [.ref b17, g_n v6] M4 (g_qI fun r22 M19 => g_ext M4 M19 → g_ok M19 → g_InR r22 → g_InR (v7 + 1) ∧ g_Run d 150 25 [(0, .ref a0), (1, g_n v1), (2, g_n v2), (3, g_n v3), (4, g_n v4), (5, g_n v5), (6, g_n r22), (7, g_n (v7 + 1))] [] M19 (g_qV Q))))) ∧ (¬ r7 = 4 → ∃ b9, g_r M4 a0 1 = some b9 ∧ g_Call d 111 [.ref b9, g_n v6] M4 (g_qI fun r14 M11 => g_ext M4 M11 → g_ok M11 → g_InR r14 → g_InR (v7 + 1) ∧ g_Run d 150 25 [(0, .ref a0), (1, g_n v1), (2, g_n v2), (3, g_n v3), (4, g_n v4), (5, g_n v5), (6, g_n r14), (7, g_n (v7 + 1))] [] M11 (g_qV Q)))))) : g_Run d 150 191 [(0, .ref a0), (1, g_n v1), (2, g_n v2), (3, g_n v3), (4, g_n v4), (5, g_n v5), (6, g_n v6), (7, g_n v7), (8, g_n v8), (9, g_n v9)] [] M (g_qV Q) := by
  refine g_Run.ok fun hok => ?_
  replace h := h hok
  refine r_aload_n x_150_191 rfl ?_
  obtain ⟨hO1, h⟩ := h
  obtain ⟨b2, hb3, h⟩ := h
  refine r_getR x_150_192 rfl (ci := 9) (k := 1) (ns := 0) (by decide +kernel) (by decide) rfl (kz := 1) rfl hO1 hb3 ?_
  refine r_iload x_150_195 rfl ?_
  refine r_invS x_150_197 (z := 108) (ns := 1) (by decide +kernel) (as := [.ref b2, g_n v8]) (r := []) rfl rfl rfl ?_
  refine r_callI h fun r7 M4 hx5 hok6 hr8 h => ?_
  replace h := h hx5 hok6 hr8
  replace hO1 := hO1.up hx5
  refine r_iconst x_150_200 ?_
  refine r_ic_ne x_150_201 (t := 234) (by decide +kernel) hr8 (g_Rk rfl) (fun hc => ?_) (fun hc => ?_)
  · replace h := h.2 hc
    refine r_aload_n x_150_234 rfl ?_
    obtain ⟨b9, hb10, h⟩ := h
    refine r_getR x_150_235 rfl (ci := 9) (k := 1) (ns := 0) (by decide +kernel) (by decide) rfl (kz := 1) rfl hO1 hb10 ?_
    refine r_iload x_150_238 rfl ?_
    refine r_invS x_150_240 (z := 111) (ns := 1) (by decide +kernel) (as := [.ref b9, g_n v6]) (r := []) rfl rfl rfl ?_
    refine r_callI h fun r14 M11 hx12 hok13 hr15 h => ?_
    replace h := h hx12 hok13 hr15
    replace hO1 := hO1.up hx12
    refine r_istore x_150_243 (by decide +kernel) rfl (lv1 := [(0, .ref a0), (1, g_n v1), (2, g_n v2), (3, g_n v3), (4, g_n v4), (5, g_n v5), (6, g_n r14), (7, g_n v7), (8, g_n v8), (9, g_n v9)]) rfl ?_
    obtain ⟨h16, h⟩ := h
    refine r_iinc x_150_245 (by decide +kernel) rfl rfl (lv1 := [(0, .ref a0), (1, g_n v1), (2, g_n v2), (3, g_n v3), (4, g_n v4), (5, g_n v5), (6, g_n r14), (7, g_n (v7 + 1)), (8, g_n v8), (9, g_n v9)]) rfl ?_
    refine r_goto x_150_248 (t := 25) (by decide +kernel) ?_
    refine g_drop [0, 1, 2, 3, 4, 5, 6, 7] (lv1 := [(0, .ref a0), (1, g_n v1), (2, g_n v2), (3, g_n v3), (4, g_n v4), (5, g_n v5), (6, g_n r14), (7, g_n (v7 + 1))]) rfl ?_
    exact h
  · replace h := h.1 hc
    refine r_iload_n x_150_204 rfl ?_
    refine r_bipush x_150_205 (x := 60) rfl ?_
    refine r_ic_ge x_150_207 (t := 234) (by decide +kernel) hv3 (g_Rk rfl) (fun hc => ?_) (fun hc => ?_)
    · replace h := h.2 hc
      refine r_aload_n x_150_234 rfl ?_
      obtain ⟨b17, hb18, h⟩ := h
      refine r_getR x_150_235 rfl (ci := 9) (k := 1) (ns := 0) (by decide +kernel) (by decide) rfl (kz := 1) rfl hO1 hb18 ?_
      refine r_iload x_150_238 rfl ?_
      refine r_invS x_150_240 (z := 111) (ns := 1) (by decide +kernel) (as := [.ref b17, g_n v6]) (r := []) rfl rfl rfl ?_
      refine r_callI h fun r22 M19 hx20 hok21 hr23 h => ?_
      replace h := h hx20 hok21 hr23
      replace hO1 := hO1.up hx20
      refine r_istore x_150_243 (by decide +kernel) rfl (lv1 := [(0, .ref a0), (1, g_n v1), (2, g_n v2), (3, g_n v3), (4, g_n v4), (5, g_n v5), (6, g_n r22), (7, g_n v7), (8, g_n v8), (9, g_n v9)]) rfl ?_
      obtain ⟨h24, h⟩ := h
      refine r_iinc x_150_245 (by decide +kernel) rfl rfl (lv1 := [(0, .ref a0), (1, g_n v1), (2, g_n v2), (3, g_n v3), (4, g_n v4), (5, g_n v5), (6, g_n r22), (7, g_n (v7 + 1)), (8, g_n v8), (9, g_n v9)]) rfl ?_
      refine r_goto x_150_248 (t := 25) (by decide +kernel) ?_
      refine g_drop [0, 1, 2, 3, 4, 5, 6, 7] (lv1 := [(0, .ref a0), (1, g_n v1), (2, g_n v2), (3, g_n v3), (4, g_n v4), (5, g_n v5), (6, g_n r22), (7, g_n (v7 + 1))]) rfl ?_
      exact h
    · replace h := h.1 hc
      refine r_aload_n x_150_210 rfl ?_
      obtain ⟨b25, hb26, h⟩ := h
      refine r_getR x_150_211 rfl (ci := 9) (k := 5) (ns := 0) (by decide +kernel) (by decide) rfl (kz := 5) rfl hO1 hb26 ?_
      refine r_iconst x_150_214 ?_
      refine r_iload x_150_215 rfl ?_
      obtain ⟨hO27, h⟩ := h
      refine r_invV x_150_217 (z := 83) (ns := 1) (by decide +kernel) (as := [g_n 4, g_n v5]) (r := []) rfl rfl rfl hO27 rfl rfl ?_
      refine r_callV h fun M28 hx29 hok30 h => ?_
      replace h := h hx29 hok30
      replace hO1 := hO1.up hx29
      replace hO27 := hO27.up hx29
      refine r_aload_n x_150_220 rfl ?_
      refine r_iload x_150_221 rfl ?_
      refine r_iload x_150_223 rfl ?_
      refine r_iload_n x_150_225 rfl ?_
      refine r_iconst x_150_226 ?_
      refine r_iadd x_150_227 ?_
      obtain ⟨h31, h⟩ := h
      refine r_invV x_150_228 (z := 150) (ns := 0) (by decide +kernel) (as := [g_n v8, g_n v9, g_n (v3 + 1)]) (r := []) rfl rfl rfl hO1 rfl rfl ?_
      refine r_callV h fun M32 hx33 hok34 h => ?_
      replace h := h hx33 hok34
      replace hO1 := hO1.up hx33
      replace hO27 := hO27.up hx33
      obtain ⟨h35, h⟩ := h
      refine r_iinc x_150_231 (by decide +kernel) rfl rfl (lv1 := [(0, .ref a0), (1, g_n v1), (2, g_n v2), (3, g_n v3), (4, g_n v4), (5, g_n (v5 + 1)), (6, g_n v6), (7, g_n v7), (8, g_n v8), (9, g_n v9)]) rfl ?_
      refine r_aload_n x_150_234 rfl ?_
      obtain ⟨b36, hb37, h⟩ := h
      refine r_getR x_150_235 rfl (ci := 9) (k := 1) (ns := 0) (by decide +kernel) (by decide) rfl (kz := 1) rfl hO1 hb37 ?_
      refine r_iload x_150_238 rfl ?_
      refine r_invS x_150_240 (z := 111) (ns := 1) (by decide +kernel) (as := [.ref b36, g_n v6]) (r := []) rfl rfl rfl ?_
      refine r_callI h fun r41 M38 hx39 hok40 hr42 h => ?_
      replace h := h hx39 hok40 hr42
      replace hO1 := hO1.up hx39
      replace hO27 := hO27.up hx39
      refine r_istore x_150_243 (by decide +kernel) rfl (lv1 := [(0, .ref a0), (1, g_n v1), (2, g_n v2), (3, g_n v3), (4, g_n v4), (5, g_n (v5 + 1)), (6, g_n r41), (7, g_n v7), (8, g_n v8), (9, g_n v9)]) rfl ?_
      obtain ⟨h43, h⟩ := h
      refine r_iinc x_150_245 (by decide +kernel) rfl rfl (lv1 := [(0, .ref a0), (1, g_n v1), (2, g_n v2), (3, g_n v3), (4, g_n v4), (5, g_n (v5 + 1)), (6, g_n r41), (7, g_n (v7 + 1)), (8, g_n v8), (9, g_n v9)]) rfl ?_
      refine r_goto x_150_248 (t := 25) (by decide +kernel) ?_
      refine g_drop [0, 1, 2, 3, 4, 5, 6, 7] (lv1 := [(0, .ref a0), (1, g_n v1), (2, g_n v2), (3, g_n v3), (4, g_n v4), (5, g_n (v5 + 1)), (6, g_n r41), (7, g_n (v7 + 1))]) rfl ?_
      exact h
theorem m_X9_wrongInProject {d : Nat} {M : g_M} {Q : Int → g_M → Prop} {a0 : Nat} {v1 : Int} (hv1 : g_InR v1) (h : g_ok M → g_O M a0 9 ∧ ∃ b2, g_r M a0 1 = some b2 ∧ g_Call d 112 [.ref b2, g_n v1] M (g_qI fun r7 M4 => g_ext M M4 → g_ok M4 → g_InR r7 → ∃ b9, g_r M4 a0 1 = some b9 ∧ g_Call d 108 [.ref b9, g_n v1] M4 (g_qI fun r14 M11 => g_ext M4 M11 → g_ok M11 → g_InR r14 → ((r14 = 3 → ∃ b16, g_r M11 a0 1 = some b16 ∧ g_Call d 108 [.ref b16, g_n r7] M11 (g_qI fun r21 M18 => g_ext M11 M18 → g_ok M18 → g_InR r21 → ((r21 = 0 → Q 2 M18) ∧ (¬ r21 = 0 → g_Run d 151 36 [(0, .ref a0), (1, g_n v1), (2, g_n r7), (3, g_n 0)] [] M18 (g_qI Q))))) ∧ (¬ r14 = 3 → Q 2 M11))))) : g_Call (d + 1) 151 [.ref a0, g_n v1] M (g_qI Q) := by
  refine g_Call.ok fun hok0 => ?_
  replace h := h hok0
  refine r_body rfl (lv := [(0, .ref a0), (1, g_n v1)]) rfl ?_
  refine g_Run.ok fun hok => ?_
  refine r_aload_n x_151_0 rfl ?_
  obtain ⟨hO1, h⟩ := h
  obtain ⟨b2, hb3, h⟩ := h
  refine r_getR x_151_1 rfl (ci := 9) (k := 1) (ns := 0) (by decide +kernel) (by decide) rfl (kz := 1) rfl hO1 hb3 ?_
  refine r_iload_n x_151_4 rfl ?_
  refine r_invS x_151_5 (z := 112) (ns := 1) (by decide +kernel) (as := [.ref b2, g_n v1]) (r := []) rfl rfl rfl ?_
  refine r_callI h fun r7 M4 hx5 hok6 hr8 h => ?_
  replace h := h hx5 hok6 hr8
  replace hO1 := hO1.up hx5
  refine r_istore_n x_151_8 (by decide +kernel) rfl (lv1 := [(0, .ref a0), (1, g_n v1), (2, g_n r7)]) rfl ?_
  refine r_aload_n x_151_9 rfl ?_
  obtain ⟨b9, hb10, h⟩ := h
  refine r_getR x_151_10 rfl (ci := 9) (k := 1) (ns := 0) (by decide +kernel) (by decide) rfl (kz := 1) rfl hO1 hb10 ?_
  refine r_iload_n x_151_13 rfl ?_
  refine r_invS x_151_14 (z := 108) (ns := 1) (by decide +kernel) (as := [.ref b9, g_n v1]) (r := []) rfl rfl rfl ?_
  refine r_callI h fun r14 M11 hx12 hok13 hr15 h => ?_
  replace h := h hx12 hok13 hr15
  replace hO1 := hO1.up hx12
  refine r_iconst x_151_17 ?_
  refine r_ic_ne x_151_18 (t := 32) (by decide +kernel) hr15 (g_Rk rfl) (fun hc => ?_) (fun hc => ?_)
  · replace h := h.2 hc
    refine r_iconst x_151_32 ?_
    exact r_retI x_151_33 rfl (g_Rk rfl) h
  · replace h := h.1 hc
    refine r_aload_n x_151_21 rfl ?_
    obtain ⟨b16, hb17, h⟩ := h
    refine r_getR x_151_22 rfl (ci := 9) (k := 1) (ns := 0) (by decide +kernel) (by decide) rfl (kz := 1) rfl hO1 hb17 ?_
    refine r_iload_n x_151_25 rfl ?_
    refine r_invS x_151_26 (z := 108) (ns := 1) (by decide +kernel) (as := [.ref b16, g_n r7]) (r := []) rfl rfl rfl ?_
    refine r_callI h fun r21 M18 hx19 hok20 hr22 h => ?_
    replace h := h hx19 hok20 hr22
    replace hO1 := hO1.up hx19
    refine r_if_ne x_151_29 (t := 34) (by decide +kernel) hr22 (fun hc => ?_) (fun hc => ?_)
    · replace h := h.2 hc
      refine r_iconst x_151_34 ?_
      refine r_istore_n x_151_35 (by decide +kernel) rfl (lv1 := [(0, .ref a0), (1, g_n v1), (2, g_n r7), (3, g_n 0)]) rfl ?_
      exact h
    · replace h := h.1 hc
      refine r_iconst x_151_32 ?_
      exact r_retI x_151_33 rfl (g_Rk rfl) h
theorem s_X9_wrongInProject_36 {d : Nat} {M : g_M} {Q : Int → g_M → Prop} {a0 : Nat} {v1 : Int} (hv1 : g_InR v1) {v2 : Int} (hv2 : g_InR v2) {v3 : Int} (hv3 : g_InR v3) (h : g_ok M → ((v3 < 2000 → g_O M a0 9 ∧ ∃ b2, g_r M a0 1 = some b2 ∧ g_Call d 108 [.ref b2, g_n v2] M (g_qI fun r7 M4 => g_ext M M4 → g_ok M4 → g_InR r7 → ((r7 = 0 → Q 0 M4) ∧ (¬ r7 = 0 → g_Call d 146 [.ref a0, g_n v2] M4 (g_qI fun r12 M9 => g_ext M4 M9 → g_ok M9 → g_InR r12 → ((r12 = 0 → Q 2 M9) ∧ (¬ r12 = 0 → g_Call d 148 [.ref a0, g_n v2] M9 (g_qI fun r17 M14 => g_ext M9 M14 → g_ok M14 → g_InR r17 → ((r17 = 0 → ∃ b19, g_r M14 a0 1 = some b19 ∧ g_Call d 111 [.ref b19, g_n v2] M14 (g_qI fun r24 M21 => g_ext M14 M21 → g_ok M21 → g_InR r24 → g_InR (v3 + 1) ∧ g_Run d 151 36 [(0, .ref a0), (1, g_n v1), (2, g_n r24), (3, g_n (v3 + 1))] [] M21 (g_qI Q))) ∧ (¬ r17 = 0 → Q 3 M14)))))))))) ∧ (¬ v3 < 2000 → Q 0 M))) : g_Run d 151 36 [(0, .ref a0), (1, g_n v1), (2, g_n v2), (3, g_n v3)] [] M (g_qI Q) := by
  refine g_Run.ok fun hok => ?_
  replace h := h hok
  refine r_iload_n x_151_36 rfl ?_
  refine r_sipush x_151_37 (x := 2000) rfl ?_
  refine r_ic_ge x_151_40 (t := 89) (by decide +kernel) hv3 (g_Rk rfl) (fun hc => ?_) (fun hc => ?_)
  · replace h := h.2 hc
    refine r_iconst x_151_89 ?_
    exact r_retI x_151_90 rfl (g_Rk rfl) h
  · replace h := h.1 hc
    refine r_aload_n x_151_43 rfl ?_
    obtain ⟨hO1, h⟩ := h
    obtain ⟨b2, hb3, h⟩ := h
    refine r_getR x_151_44 rfl (ci := 9) (k := 1) (ns := 0) (by decide +kernel) (by decide) rfl (kz := 1) rfl hO1 hb3 ?_
    refine r_iload_n x_151_47 rfl ?_
    refine r_invS x_151_48 (z := 108) (ns := 1) (by decide +kernel) (as := [.ref b2, g_n v2]) (r := []) rfl rfl rfl ?_
    refine r_callI h fun r7 M4 hx5 hok6 hr8 h => ?_
    replace h := h hx5 hok6 hr8
    replace hO1 := hO1.up hx5
    refine r_if_eq x_151_51 (t := 89) (by decide +kernel) hr8 (fun hc => ?_) (fun hc => ?_)
    · replace h := h.1 hc
      refine r_iconst x_151_89 ?_
      exact r_retI x_151_90 rfl (g_Rk rfl) h
    · replace h := h.2 hc
      refine r_aload_n x_151_54 rfl ?_
      refine r_iload_n x_151_55 rfl ?_
      refine r_invV x_151_56 (z := 146) (ns := 0) (by decide +kernel) (as := [g_n v2]) (r := []) rfl rfl rfl hO1 rfl rfl ?_
      refine r_callI h fun r12 M9 hx10 hok11 hr13 h => ?_
      replace h := h hx10 hok11 hr13
      replace hO1 := hO1.up hx10
      refine r_if_ne x_151_59 (t := 64) (by decide +kernel) hr13 (fun hc => ?_) (fun hc => ?_)
      · replace h := h.2 hc
        refine r_aload_n x_151_64 rfl ?_
        refine r_iload_n x_151_65 rfl ?_
        refine r_invV x_151_66 (z := 148) (ns := 0) (by decide +kernel) (as := [g_n v2]) (r := []) rfl rfl rfl hO1 rfl rfl ?_
        refine r_callI h fun r17 M14 hx15 hok16 hr18 h => ?_
        replace h := h hx15 hok16 hr18
        replace hO1 := hO1.up hx15
        refine r_if_eq x_151_69 (t := 74) (by decide +kernel) hr18 (fun hc => ?_) (fun hc => ?_)
        · replace h := h.1 hc
          refine r_aload_n x_151_74 rfl ?_
          obtain ⟨b19, hb20, h⟩ := h
          refine r_getR x_151_75 rfl (ci := 9) (k := 1) (ns := 0) (by decide +kernel) (by decide) rfl (kz := 1) rfl hO1 hb20 ?_
          refine r_iload_n x_151_78 rfl ?_
          refine r_invS x_151_79 (z := 111) (ns := 1) (by decide +kernel) (as := [.ref b19, g_n v2]) (r := []) rfl rfl rfl ?_
          refine r_callI h fun r24 M21 hx22 hok23 hr25 h => ?_
          replace h := h hx22 hok23 hr25
          replace hO1 := hO1.up hx22
          refine r_istore_n x_151_82 (by decide +kernel) rfl (lv1 := [(0, .ref a0), (1, g_n v1), (2, g_n r24), (3, g_n v3)]) rfl ?_
          obtain ⟨h26, h⟩ := h
          refine r_iinc x_151_83 (by decide +kernel) rfl rfl (lv1 := [(0, .ref a0), (1, g_n v1), (2, g_n r24), (3, g_n (v3 + 1))]) rfl ?_
          refine r_goto x_151_86 (t := 36) (by decide +kernel) ?_
          exact h
        · replace h := h.2 hc
          refine r_iconst x_151_72 ?_
          exact r_retI x_151_73 rfl (g_Rk rfl) h
      · replace h := h.1 hc
        refine r_iconst x_151_62 ?_
        exact r_retI x_151_63 rfl (g_Rk rfl) h
theorem m_X9_project {d : Nat} {M : g_M} {Q : Int → g_M → Prop} {a0 : Nat} {v1 : Int} (hv1 : g_InR v1) (h : g_ok M → g_O M a0 9 ∧ g_Call d 151 [.ref a0, g_n v1] M (g_qI fun r5 M2 => g_ext M M2 → g_ok M2 → g_InR r5 → ((r5 = 0 → g_Call d 140 [.ref a0] M2 (g_qV fun M7 => g_ext M2 M7 → g_ok M7 → g_Run d 152 18 [(0, .ref a0), (1, g_n v1), (2, g_n r5), (3, g_n 0)] [] M7 (g_qI Q))) ∧ (¬ r5 = 0 → Q r5 M2)))) : g_Call (d + 1) 152 [.ref a0, g_n v1] M (g_qI Q) := by
  refine g_Call.ok fun hok0 => ?_
  replace h := h hok0
  refine r_body rfl (lv := [(0, .ref a0), (1, g_n v1)]) rfl ?_
  refine g_Run.ok fun hok => ?_
  refine r_aload_n x_152_0 rfl ?_
  refine r_iload_n x_152_1 rfl ?_
  obtain ⟨hO1, h⟩ := h
  refine r_invV x_152_2 (z := 151) (ns := 0) (by decide +kernel) (as := [g_n v1]) (r := []) rfl rfl rfl hO1 rfl rfl ?_
  refine r_callI h fun r5 M2 hx3 hok4 hr6 h => ?_
  replace h := h hx3 hok4 hr6
  replace hO1 := hO1.up hx3
  refine r_istore_n x_152_5 (by decide +kernel) rfl (lv1 := [(0, .ref a0), (1, g_n v1), (2, g_n r5)]) rfl ?_
  refine r_iload_n x_152_6 rfl ?_
  refine r_if_eq x_152_7 (t := 12) (by decide +kernel) hr6 (fun hc => ?_) (fun hc => ?_)
  · replace h := h.1 hc
    refine r_aload_n x_152_12 rfl ?_
    refine r_invV x_152_13 (z := 140) (ns := 0) (by decide +kernel) (as := []) (r := []) rfl rfl rfl hO1 rfl rfl ?_
    refine r_callV h fun M7 hx8 hok9 h => ?_
    replace h := h hx8 hok9
    replace hO1 := hO1.up hx8
    refine r_iconst x_152_16 ?_
    refine r_istore_n x_152_17 (by decide +kernel) rfl (lv1 := [(0, .ref a0), (1, g_n v1), (2, g_n r5), (3, g_n 0)]) rfl ?_
    exact h
  · replace h := h.2 hc
    refine r_iload_n x_152_10 rfl ?_
    exact r_retI x_152_11 rfl hr6 h
theorem s_X9_project_18 {d : Nat} {M : g_M} {Q : Int → g_M → Prop} {a0 : Nat} {v1 : Int} (hv1 : g_InR v1) {v2 : Int} (hv2 : g_InR v2) {v3 : Int} (hv3 : g_InR v3) (h : g_ok M → g_O M a0 9 ∧ ((v3 < g_i M a0 14 → ∃ b7, g_r M a0 5 = some b7 ∧ g_O M b7 4 ∧ g_Call d 75 [.ref b7, g_n 163608, g_n 246408] M (g_qV fun M10 => g_ext M M10 → g_ok M10 → g_Call d 141 [.ref a0] M10 (g_qI fun r16 M13 => g_ext M10 M13 → g_ok M13 → g_InR r16 → ∃ b18, g_r M13 a0 1 = some b18 ∧ g_Call d 112 [.ref b18, g_n v1] M13 (g_qI fun r23 M20 => g_ext M13 M20 → g_ok M20 → g_InR r23 → g_Run d 152 56 [(0, .ref a0), (1, g_n v1), (2, g_n v2), (3, g_n v3), (4, g_n r16), (5, g_n r23), (6, g_n 0)] [] M20 (g_qI Q))))) ∧ (¬ v3 < g_i M a0 14 → g_Call d 144 [.ref a0] M (g_qI fun r5 M2 => g_ext M M2 → g_ok M2 → g_InR r5 → Q r5 M2)))) : g_Run d 152 18 [(0, .ref a0), (1, g_n v1), (2, g_n v2), (3, g_n v3)] [] M (g_qI Q) := by
  refine g_Run.ok fun hok => ?_
  replace h := h hok
  refine r_iload_n x_152_18 rfl ?_
  refine r_aload_n x_152_19 rfl ?_
  obtain ⟨hO1, h⟩ := h
  refine r_getI x_152_20 rfl (ci := 9) (k := 14) (ns := 0) (by decide +kernel) (by decide) rfl (kz := 14) rfl hO1 ?_
  refine r_ic_ge x_152_23 (t := 215) (by decide +kernel) hv3 (hok.1 _ _) (fun hc => ?_) (fun hc => ?_)
  · replace h := h.2 hc
    refine r_aload_n x_152_215 rfl ?_
    refine r_invV x_152_216 (z := 144) (ns := 0) (by decide +kernel) (as := []) (r := []) rfl rfl rfl hO1 rfl rfl ?_
    refine r_callI h fun r5 M2 hx3 hok4 hr6 h => ?_
    replace h := h hx3 hok4 hr6
    replace hO1 := hO1.up hx3
    exact r_retI x_152_219 rfl hr6 h
  · replace h := h.1 hc
    refine r_aload_n x_152_26 rfl ?_
    obtain ⟨b7, hb8, h⟩ := h
    refine r_getR x_152_27 rfl (ci := 9) (k := 5) (ns := 0) (by decide +kernel) (by decide) rfl (kz := 5) rfl hO1 hb8 ?_
    refine r_ldc x_152_30 (v := g_n 163608) rfl ?_
    refine r_ldc x_152_32 (v := g_n 246408) rfl ?_
    obtain ⟨hO9, h⟩ := h
    refine r_invV x_152_34 (z := 75) (ns := 1) (by decide +kernel) (as := [g_n 163608, g_n 246408]) (r := []) rfl rfl rfl hO9 rfl rfl ?_
    refine r_callV h fun M10 hx11 hok12 h => ?_
    replace h := h hx11 hok12
    replace hO1 := hO1.up hx11
    replace hO9 := hO9.up hx11
    refine r_aload_n x_152_37 rfl ?_
    refine r_invV x_152_38 (z := 141) (ns := 0) (by decide +kernel) (as := []) (r := []) rfl rfl rfl hO1 rfl rfl ?_
    refine r_callI h fun r16 M13 hx14 hok15 hr17 h => ?_
    replace h := h hx14 hok15 hr17
    replace hO1 := hO1.up hx14
    replace hO9 := hO9.up hx14
    refine r_istore x_152_41 (by decide +kernel) rfl (lv1 := [(0, .ref a0), (1, g_n v1), (2, g_n v2), (3, g_n v3), (4, g_n r16)]) rfl ?_
    refine r_aload_n x_152_43 rfl ?_
    obtain ⟨b18, hb19, h⟩ := h
    refine r_getR x_152_44 rfl (ci := 9) (k := 1) (ns := 0) (by decide +kernel) (by decide) rfl (kz := 1) rfl hO1 hb19 ?_
    refine r_iload_n x_152_47 rfl ?_
    refine r_invS x_152_48 (z := 112) (ns := 1) (by decide +kernel) (as := [.ref b18, g_n v1]) (r := []) rfl rfl rfl ?_
    refine r_callI h fun r23 M20 hx21 hok22 hr24 h => ?_
    replace h := h hx21 hok22 hr24
    replace hO1 := hO1.up hx21
    replace hO9 := hO9.up hx21
    refine r_istore x_152_51 (by decide +kernel) rfl (lv1 := [(0, .ref a0), (1, g_n v1), (2, g_n v2), (3, g_n v3), (4, g_n r16), (5, g_n r23)]) rfl ?_
    refine r_iconst x_152_53 ?_
    refine r_istore x_152_54 (by decide +kernel) rfl (lv1 := [(0, .ref a0), (1, g_n v1), (2, g_n v2), (3, g_n v3), (4, g_n r16), (5, g_n r23), (6, g_n 0)]) rfl ?_
    exact h
theorem s_X9_project_56 {d : Nat} {M : g_M} {Q : Int → g_M → Prop} {a0 : Nat} {v1 : Int} (hv1 : g_InR v1) {v2 : Int} (hv2 : g_InR v2) {v3 : Int} (hv3 : g_InR v3) {v4 : Int} (hv4 : g_InR v4) {v5 : Int} (hv5 : g_InR v5) {v6 : Int} (hv6 : g_InR v6) (h : g_ok M → ((v6 < 2000 → g_O M a0 9 ∧ ∃ b7, g_r M a0 1 = some b7 ∧ g_Call d 108 [.ref b7, g_n v5] M (g_qI fun r12 M9 => g_ext M M9 → g_ok M9 → g_InR r12 → ((r12 = 0 → g_Call d 142 [.ref a0, g_n v4] M9 (g_qV fun M14 => g_ext M9 M14 → g_ok M14 → g_InR (v3 + 1) ∧ g_Run d 152 18 [(0, .ref a0), (1, g_n v1), (2, g_n v2), (3, g_n (v3 + 1))] [] M14 (g_qI Q))) ∧ (¬ r12 = 0 → ∃ b18, g_r M9 a0 1 = some b18 ∧ g_Call d 110 [.ref b18, g_n v5] M9 (g_qI fun r23 M20 => g_ext M9 M20 → g_ok M20 → g_InR r23 → g_InR (r23 - 1) ∧ ∃ b26, g_r M20 a0 1 = some b26 ∧ g_Call d 119 [.ref b26, g_n v5, g_n 1] M20 (g_qI fun r31 M28 => g_ext M20 M28 → g_ok M28 → g_InR r31 → ((r31 = 0 → ∃ b33, g_r M28 a0 6 = some b33 ∧ ∃ n35, g_A M28 b33 1 n35 ∧ ((0 : Int) ≤ v3 ∧ (v3 : Int) < n35) ∧ g_Call d 149 [.ref a0, g_n v5, g_n (g_i M28 b33 v3)] M28 (g_qI fun r41 M38 => g_ext M28 M38 → g_ok M38 → g_InR r41 → g_Run d 152 140 [(0, .ref a0), (1, g_n v1), (2, g_n v2), (3, g_n v3), (4, g_n v4), (5, g_n v5), (6, g_n v6), (7, g_n (r23 - 1))] [g_n r41] M38 (g_qI Q))) ∧ (¬ r31 = 0 → ∃ b43, g_r M28 a0 1 = some b43 ∧ ∃ b45, g_r M28 a0 6 = some b45 ∧ ∃ n47, g_A M28 b45 1 n47 ∧ ((0 : Int) ≤ v3 ∧ (v3 : Int) < n47) ∧ ∃ b50, g_r M28 a0 1 = some b50 ∧ g_InR (v5 + 1) ∧ g_Call d 114 [.ref b43, g_n (g_i M28 b45 v3), .ref b50, g_n (v5 + 1), g_n (r23 - 1)] M28 (g_qI fun r56 M53 => g_ext M28 M53 → g_ok M53 → g_InR r56 → g_Run d 152 140 [(0, .ref a0), (1, g_n v1), (2, g_n v2), (3, g_n v3), (4, g_n v4), (5, g_n v5), (6, g_n v6), (7, g_n (r23 - 1))] [g_n r56] M53 (g_qI Q)))))))))) ∧ (¬ v6 < 2000 → g_O M a0 9 ∧ g_Call d 142 [.ref a0, g_n v4] M (g_qV fun M2 => g_ext M M2 → g_ok M2 → g_InR (v3 + 1) ∧ g_Run d 152 18 [(0, .ref a0), (1, g_n v1), (2, g_n v2), (3, g_n (v3 + 1))] [] M2 (g_qI Q))))) : g_Run d 152 56 [(0, .ref a0), (1, g_n v1), (2, g_n v2), (3, g_n v3), (4, g_n v4), (5, g_n v5), (6, g_n v6)] [] M (g_qI Q) := by
  refine g_Run.ok fun hok => ?_
  replace h := h hok
  refine r_iload x_152_56 rfl ?_
  refine r_sipush x_152_58 (x := 2000) rfl ?_
  refine r_ic_ge x_152_61 (t := 203) (by decide +kernel) hv6 (g_Rk rfl) (fun hc => ?_) (fun hc => ?_)
  · replace h := h.2 hc
    refine r_aload_n x_152_203 rfl ?_
    refine r_iload x_152_204 rfl ?_
    obtain ⟨hO1, h⟩ := h
    refine r_invV x_152_206 (z := 142) (ns := 0) (by decide +kernel) (as := [g_n v4]) (r := []) rfl rfl rfl hO1 rfl rfl ?_
    refine r_callV h fun M2 hx3 hok4 h => ?_
    replace h := h hx3 hok4
    replace hO1 := hO1.up hx3
    obtain ⟨h5, h⟩ := h
    refine r_iinc x_152_209 (by decide +kernel) rfl rfl (lv1 := [(0, .ref a0), (1, g_n v1), (2, g_n v2), (3, g_n (v3 + 1)), (4, g_n v4), (5, g_n v5), (6, g_n v6)]) rfl ?_
    refine r_goto x_152_212 (t := 18) (by decide +kernel) ?_
    refine g_drop [0, 1, 2, 3] (lv1 := [(0, .ref a0), (1, g_n v1), (2, g_n v2), (3, g_n (v3 + 1))]) rfl ?_
    exact h
  · replace h := h.1 hc
    refine r_aload_n x_152_64 rfl ?_
    obtain ⟨hO6, h⟩ := h
    obtain ⟨b7, hb8, h⟩ := h
    refine r_getR x_152_65 rfl (ci := 9) (k := 1) (ns := 0) (by decide +kernel) (by decide) rfl (kz := 1) rfl hO6 hb8 ?_
    refine r_iload x_152_68 rfl ?_
    refine r_invS x_152_70 (z := 108) (ns := 1) (by decide +kernel) (as := [.ref b7, g_n v5]) (r := []) rfl rfl rfl ?_
    refine r_callI h fun r12 M9 hx10 hok11 hr13 h => ?_
    replace h := h hx10 hok11 hr13
    replace hO6 := hO6.up hx10
    refine r_if_eq x_152_73 (t := 203) (by decide +kernel) hr13 (fun hc => ?_) (fun hc => ?_)
    · replace h := h.1 hc
      refine r_aload_n x_152_203 rfl ?_
      refine r_iload x_152_204 rfl ?_
      refine r_invV x_152_206 (z := 142) (ns := 0) (by decide +kernel) (as := [g_n v4]) (r := []) rfl rfl rfl hO6 rfl rfl ?_
      refine r_callV h fun M14 hx15 hok16 h => ?_
      replace h := h hx15 hok16
      replace hO6 := hO6.up hx15
      obtain ⟨h17, h⟩ := h
      refine r_iinc x_152_209 (by decide +kernel) rfl rfl (lv1 := [(0, .ref a0), (1, g_n v1), (2, g_n v2), (3, g_n (v3 + 1)), (4, g_n v4), (5, g_n v5), (6, g_n v6)]) rfl ?_
      refine r_goto x_152_212 (t := 18) (by decide +kernel) ?_
      refine g_drop [0, 1, 2, 3] (lv1 := [(0, .ref a0), (1, g_n v1), (2, g_n v2), (3, g_n (v3 + 1))]) rfl ?_
      exact h
    · replace h := h.2 hc
      refine r_aload_n x_152_76 rfl ?_
      obtain ⟨b18, hb19, h⟩ := h
      refine r_getR x_152_77 rfl (ci := 9) (k := 1) (ns := 0) (by decide +kernel) (by decide) rfl (kz := 1) rfl hO6 hb19 ?_
      refine r_iload x_152_80 rfl ?_
      refine r_invS x_152_82 (z := 110) (ns := 1) (by decide +kernel) (as := [.ref b18, g_n v5]) (r := []) rfl rfl rfl ?_
      refine r_callI h fun r23 M20 hx21 hok22 hr24 h => ?_
      replace h := h hx21 hok22 hr24
      replace hO6 := hO6.up hx21
      refine r_iconst x_152_85 ?_
      refine r_isub x_152_86 ?_
      obtain ⟨h25, h⟩ := h
      refine r_istore x_152_87 (by decide +kernel) rfl (lv1 := [(0, .ref a0), (1, g_n v1), (2, g_n v2), (3, g_n v3), (4, g_n v4), (5, g_n v5), (6, g_n v6), (7, g_n (r23 - 1))]) rfl ?_
      refine r_aload_n x_152_89 rfl ?_
      obtain ⟨b26, hb27, h⟩ := h
      refine r_getR x_152_90 rfl (ci := 9) (k := 1) (ns := 0) (by decide +kernel) (by decide) rfl (kz := 1) rfl hO6 hb27 ?_
      refine r_iload x_152_93 rfl ?_
      refine r_iconst x_152_95 ?_
      refine r_invS x_152_96 (z := 119) (ns := 1) (by decide +kernel) (as := [.ref b26, g_n v5, g_n 1]) (r := []) rfl rfl rfl ?_
      refine r_callI h fun r31 M28 hx29 hok30 hr32 h => ?_
      replace h := h hx29 hok30 hr32
      replace hO6 := hO6.up hx29
      refine r_if_eq x_152_99 (t := 128) (by decide +kernel) hr32 (fun hc => ?_) (fun hc => ?_)
      · replace h := h.1 hc
        refine r_aload_n x_152_128 rfl ?_
        refine r_iload x_152_129 rfl ?_
        refine r_aload_n x_152_131 rfl ?_
        obtain ⟨b33, hb34, h⟩ := h
        refine r_getR x_152_132 rfl (ci := 9) (k := 6) (ns := 0) (by decide +kernel) (by decide) rfl (kz := 6) rfl hO6 hb34 ?_
        refine r_iload_n x_152_135 rfl ?_
        obtain ⟨n35, hA36, h⟩ := h
        obtain ⟨h37, h⟩ := h
        refine r_iald x_152_136 hA36 hv3 h37.1 h37.2 ?_
        refine r_invV x_152_137 (z := 149) (ns := 0) (by decide +kernel) (as := [g_n v5, g_n (g_i M28 b33 v3)]) (r := []) rfl rfl rfl hO6 rfl rfl ?_
        refine r_callI h fun r41 M38 hx39 hok40 hr42 h => ?_
        replace h := h hx39 hok40 hr42
        replace hO6 := hO6.up hx39
        replace hA36 := hA36.up hx39
        exact h
      · replace h := h.2 hc
        refine r_aload_n x_152_102 rfl ?_
        obtain ⟨b43, hb44, h⟩ := h
        refine r_getR x_152_103 rfl (ci := 9) (k := 1) (ns := 0) (by decide +kernel) (by decide) rfl (kz := 1) rfl hO6 hb44 ?_
        refine r_aload_n x_152_106 rfl ?_
        obtain ⟨b45, hb46, h⟩ := h
        refine r_getR x_152_107 rfl (ci := 9) (k := 6) (ns := 0) (by decide +kernel) (by decide) rfl (kz := 6) rfl hO6 hb46 ?_
        refine r_iload_n x_152_110 rfl ?_
        obtain ⟨n47, hA48, h⟩ := h
        obtain ⟨h49, h⟩ := h
        refine r_iald x_152_111 hA48 hv3 h49.1 h49.2 ?_
        refine r_aload_n x_152_112 rfl ?_
        obtain ⟨b50, hb51, h⟩ := h
        refine r_getR x_152_113 rfl (ci := 9) (k := 1) (ns := 0) (by decide +kernel) (by decide) rfl (kz := 1) rfl hO6 hb51 ?_
        refine r_iload x_152_116 rfl ?_
        refine r_iconst x_152_118 ?_
        refine r_iadd x_152_119 ?_
        obtain ⟨h52, h⟩ := h
        refine r_iload x_152_120 rfl ?_
        refine r_invS x_152_122 (z := 114) (ns := 1) (by decide +kernel) (as := [.ref b43, g_n (g_i M28 b45 v3), .ref b50, g_n (v5 + 1), g_n (r23 - 1)]) (r := []) rfl rfl rfl ?_
        refine r_callI h fun r56 M53 hx54 hok55 hr57 h => ?_
        replace h := h hx54 hok55 hr57
        replace hO6 := hO6.up hx54
        replace hA48 := hA48.up hx54
        refine r_goto x_152_125 (t := 140) (by decide +kernel) ?_
        exact h
theorem s_X9_project_140 {d : Nat} {M : g_M} {Q : Int → g_M → Prop} {a0 : Nat} {v1 : Int} (hv1 : g_InR v1) {v2 : Int} (hv2 : g_InR v2) {v3 : Int} (hv3 : g_InR v3) {v4 : Int} (hv4 : g_InR v4) {v5 : Int} (hv5 : g_InR v5) {v6 : Int} (hv6 : g_InR v6) {v7 : Int} (hv7 : g_InR v7) {w0 : Int} (hw0 : g_InR w0) (h : g_ok M → ((w0 < 0 → g_O M a0 9 ∧ ∃ b2, g_r M a0 1 = some b2 ∧ g_Call d 111 [.ref b2, g_n v5] M (g_qI fun r7 M4 => g_ext M M4 → g_ok M4 → g_InR r7 → g_InR (v6 + 1) ∧ g_Run d 152 56 [(0, .ref a0), (1, g_n v1), (2, g_n v2), (3, g_n v3), (4, g_n v4), (5, g_n r7), (6, g_n (v6 + 1))] [] M4 (g_qI Q))) ∧ (¬ w0 < 0 → g_O M a0 9 ∧ ∃ b11, g_r M a0 4 = some b11 ∧ ∃ b13, g_r M a0 1 = some b13 ∧ g_Call d 108 [.ref b13, g_n w0] M (g_qI fun r18 M15 => g_ext M M15 → g_ok M15 → g_InR r18 → ∃ b20, g_r M15 a0 1 = some b20 ∧ g_InR (v5 + 1) ∧ g_O M15 b11 4 ∧ g_Call d 82 [.ref b11, g_n r18, .ref b20, g_n (v5 + 1), g_n v7] M15 (g_qV fun M24 => g_ext M15 M24 → g_ok M24 → ∃ b27, g_r M24 a0 4 = some b27 ∧ ∃ b29, g_r M24 a0 1 = some b29 ∧ g_O M24 b27 4 ∧ g_Call d 84 [.ref b27, .ref b29, g_n w0] M24 (g_qV fun M32 => g_ext M24 M32 → g_ok M32 → ∃ b35, g_r M32 a0 1 = some b35 ∧ g_Call d 111 [.ref b35, g_n v5] M32 (g_qI fun r40 M37 => g_ext M32 M37 → g_ok M37 → g_InR r40 → g_InR (v6 + 1) ∧ g_Run d 152 56 [(0, .ref a0), (1, g_n v1), (2, g_n v2), (3, g_n v3), (4, g_n v4), (5, g_n r40), (6, g_n (v6 + 1))] [] M37 (g_qI Q)))))))) : g_Run d 152 140 [(0, .ref a0), (1, g_n v1), (2, g_n v2), (3, g_n v3), (4, g_n v4), (5, g_n v5), (6, g_n v6), (7, g_n v7)] [g_n w0] M (g_qI Q) := by
  refine g_Run.ok fun hok => ?_
  replace h := h hok
  refine r_istore x_152_140 (by decide +kernel) rfl (lv1 := [(0, .ref a0), (1, g_n v1), (2, g_n v2), (3, g_n v3), (4, g_n v4), (5, g_n v5), (6, g_n v6), (7, g_n v7), (8, g_n w0)]) rfl ?_
  refine r_iload x_152_142 rfl ?_
  refine r_if_lt x_152_144 (t := 186) (by decide +kernel) hw0 (fun hc => ?_) (fun hc => ?_)
  · replace h := h.1 hc
    refine r_aload_n x_152_186 rfl ?_
    obtain ⟨hO1, h⟩ := h
    obtain ⟨b2, hb3, h⟩ := h
    refine r_getR x_152_187 rfl (ci := 9) (k := 1) (ns := 0) (by decide +kernel) (by decide) rfl (kz := 1) rfl hO1 hb3 ?_
    refine r_iload x_152_190 rfl ?_
    refine r_invS x_152_192 (z := 111) (ns := 1) (by decide +kernel) (as := [.ref b2, g_n v5]) (r := []) rfl rfl rfl ?_
    refine r_callI h fun r7 M4 hx5 hok6 hr8 h => ?_
    replace h := h hx5 hok6 hr8
    replace hO1 := hO1.up hx5
    refine r_istore x_152_195 (by decide +kernel) rfl (lv1 := [(0, .ref a0), (1, g_n v1), (2, g_n v2), (3, g_n v3), (4, g_n v4), (5, g_n r7), (6, g_n v6), (7, g_n v7), (8, g_n w0)]) rfl ?_
    obtain ⟨h9, h⟩ := h
    refine r_iinc x_152_197 (by decide +kernel) rfl rfl (lv1 := [(0, .ref a0), (1, g_n v1), (2, g_n v2), (3, g_n v3), (4, g_n v4), (5, g_n r7), (6, g_n (v6 + 1)), (7, g_n v7), (8, g_n w0)]) rfl ?_
    refine r_goto x_152_200 (t := 56) (by decide +kernel) ?_
    refine g_drop [0, 1, 2, 3, 4, 5, 6] (lv1 := [(0, .ref a0), (1, g_n v1), (2, g_n v2), (3, g_n v3), (4, g_n v4), (5, g_n r7), (6, g_n (v6 + 1))]) rfl ?_
    exact h
  · replace h := h.2 hc
    refine r_aload_n x_152_147 rfl ?_
    obtain ⟨hO10, h⟩ := h
    obtain ⟨b11, hb12, h⟩ := h
    refine r_getR x_152_148 rfl (ci := 9) (k := 4) (ns := 0) (by decide +kernel) (by decide) rfl (kz := 4) rfl hO10 hb12 ?_
    refine r_aload_n x_152_151 rfl ?_
    obtain ⟨b13, hb14, h⟩ := h
    refine r_getR x_152_152 rfl (ci := 9) (k := 1) (ns := 0) (by decide +kernel) (by decide) rfl (kz := 1) rfl hO10 hb14 ?_
    refine r_iload x_152_155 rfl ?_
    refine r_invS x_152_157 (z := 108) (ns := 1) (by decide +kernel) (as := [.ref b13, g_n w0]) (r := [.ref b11]) rfl rfl rfl ?_
    refine r_callI h fun r18 M15 hx16 hok17 hr19 h => ?_
    replace h := h hx16 hok17 hr19
    replace hO10 := hO10.up hx16
    refine r_aload_n x_152_160 rfl ?_
    obtain ⟨b20, hb21, h⟩ := h
    refine r_getR x_152_161 rfl (ci := 9) (k := 1) (ns := 0) (by decide +kernel) (by decide) rfl (kz := 1) rfl hO10 hb21 ?_
    refine r_iload x_152_164 rfl ?_
    refine r_iconst x_152_166 ?_
    refine r_iadd x_152_167 ?_
    obtain ⟨h22, h⟩ := h
    refine r_iload x_152_168 rfl ?_
    obtain ⟨hO23, h⟩ := h
    refine r_invV x_152_170 (z := 82) (ns := 1) (by decide +kernel) (as := [g_n r18, .ref b20, g_n (v5 + 1), g_n v7]) (r := []) rfl rfl rfl hO23 rfl rfl ?_
    refine r_callV h fun M24 hx25 hok26 h => ?_
    replace h := h hx25 hok26
    replace hO10 := hO10.up hx25
    replace hO23 := hO23.up hx25
    refine r_aload_n x_152_173 rfl ?_
    obtain ⟨b27, hb28, h⟩ := h
    refine r_getR x_152_174 rfl (ci := 9) (k := 4) (ns := 0) (by decide +kernel) (by decide) rfl (kz := 4) rfl hO10 hb28 ?_
    refine r_aload_n x_152_177 rfl ?_
    obtain ⟨b29, hb30, h⟩ := h
    refine r_getR x_152_178 rfl (ci := 9) (k := 1) (ns := 0) (by decide +kernel) (by decide) rfl (kz := 1) rfl hO10 hb30 ?_
    refine r_iload x_152_181 rfl ?_
    obtain ⟨hO31, h⟩ := h
    refine r_invV x_152_183 (z := 84) (ns := 1) (by decide +kernel) (as := [.ref b29, g_n w0]) (r := []) rfl rfl rfl hO31 rfl rfl ?_
    refine r_callV h fun M32 hx33 hok34 h => ?_
    replace h := h hx33 hok34
    replace hO10 := hO10.up hx33
    replace hO23 := hO23.up hx33
    replace hO31 := hO31.up hx33
    refine r_aload_n x_152_186 rfl ?_
    obtain ⟨b35, hb36, h⟩ := h
    refine r_getR x_152_187 rfl (ci := 9) (k := 1) (ns := 0) (by decide +kernel) (by decide) rfl (kz := 1) rfl hO10 hb36 ?_
    refine r_iload x_152_190 rfl ?_
    refine r_invS x_152_192 (z := 111) (ns := 1) (by decide +kernel) (as := [.ref b35, g_n v5]) (r := []) rfl rfl rfl ?_
    refine r_callI h fun r40 M37 hx38 hok39 hr41 h => ?_
    replace h := h hx38 hok39 hr41
    replace hO10 := hO10.up hx38
    replace hO23 := hO23.up hx38
    replace hO31 := hO31.up hx38
    refine r_istore x_152_195 (by decide +kernel) rfl (lv1 := [(0, .ref a0), (1, g_n v1), (2, g_n v2), (3, g_n v3), (4, g_n v4), (5, g_n r40), (6, g_n v6), (7, g_n v7), (8, g_n w0)]) rfl ?_
    obtain ⟨h42, h⟩ := h
    refine r_iinc x_152_197 (by decide +kernel) rfl rfl (lv1 := [(0, .ref a0), (1, g_n v1), (2, g_n v2), (3, g_n v3), (4, g_n v4), (5, g_n r40), (6, g_n (v6 + 1)), (7, g_n v7), (8, g_n w0)]) rfl ?_
    refine r_goto x_152_200 (t := 56) (by decide +kernel) ?_
    refine g_drop [0, 1, 2, 3, 4, 5, 6] (lv1 := [(0, .ref a0), (1, g_n v1), (2, g_n v2), (3, g_n v3), (4, g_n v4), (5, g_n r40), (6, g_n (v6 + 1))]) rfl ?_
    exact h
theorem m_X9_unwind {d : Nat} {M : g_M} {Q : Int → g_M → Prop} {a0 : Nat} {v1 : Int} (hv1 : g_InR v1) (h : g_ok M → g_O M a0 9 ∧ g_Call d 147 [.ref a0, g_n v1] M (g_qI fun r5 M2 => g_ext M M2 → g_ok M2 → g_InR r5 → ((r5 = 0 → Q 2 M2) ∧ (¬ r5 = 0 → ∃ b7, g_r M2 a0 2 = some b7 ∧ ∃ b9, g_r M2 a0 1 = some b9 ∧ g_O M2 b7 5 ∧ g_Call d 92 [.ref b7, .ref b9, g_n v1, g_n 1] M2 (g_qI fun r15 M12 => g_ext M2 M12 → g_ok M12 → g_InR r15 → ((r15 = 0 → Q 3 M12) ∧ (¬ r15 = 0 → g_Call d 140 [.ref a0] M12 (g_qV fun M17 => g_ext M12 M17 → g_ok M17 → g_Run d 153 34 [(0, .ref a0), (1, g_n v1), (2, g_n 0)] [] M17 (g_qI Q))))))))) : g_Call (d + 1) 153 [.ref a0, g_n v1] M (g_qI Q) := by
  refine g_Call.ok fun hok0 => ?_
  replace h := h hok0
  refine r_body rfl (lv := [(0, .ref a0), (1, g_n v1)]) rfl ?_
  refine g_Run.ok fun hok => ?_
  refine r_aload_n x_153_0 rfl ?_
  refine r_iload_n x_153_1 rfl ?_
  obtain ⟨hO1, h⟩ := h
  refine r_invV x_153_2 (z := 147) (ns := 0) (by decide +kernel) (as := [g_n v1]) (r := []) rfl rfl rfl hO1 rfl rfl ?_
  refine r_callI h fun r5 M2 hx3 hok4 hr6 h => ?_
  replace h := h hx3 hok4 hr6
  replace hO1 := hO1.up hx3
  refine r_if_ne x_153_5 (t := 10) (by decide +kernel) hr6 (fun hc => ?_) (fun hc => ?_)
  · replace h := h.2 hc
    refine r_aload_n x_153_10 rfl ?_
    obtain ⟨b7, hb8, h⟩ := h
    refine r_getR x_153_11 rfl (ci := 9) (k := 2) (ns := 0) (by decide +kernel) (by decide) rfl (kz := 2) rfl hO1 hb8 ?_
    refine r_aload_n x_153_14 rfl ?_
    obtain ⟨b9, hb10, h⟩ := h
    refine r_getR x_153_15 rfl (ci := 9) (k := 1) (ns := 0) (by decide +kernel) (by decide) rfl (kz := 1) rfl hO1 hb10 ?_
    refine r_iload_n x_153_18 rfl ?_
    refine r_iconst x_153_19 ?_
    obtain ⟨hO11, h⟩ := h
    refine r_invV x_153_20 (z := 92) (ns := 1) (by decide +kernel) (as := [.ref b9, g_n v1, g_n 1]) (r := []) rfl rfl rfl hO11 rfl rfl ?_
    refine r_callI h fun r15 M12 hx13 hok14 hr16 h => ?_
    replace h := h hx13 hok14 hr16
    replace hO1 := hO1.up hx13
    replace hO11 := hO11.up hx13
    refine r_if_ne x_153_23 (t := 28) (by decide +kernel) hr16 (fun hc => ?_) (fun hc => ?_)
    · replace h := h.2 hc
      refine r_aload_n x_153_28 rfl ?_
      refine r_invV x_153_29 (z := 140) (ns := 0) (by decide +kernel) (as := []) (r := []) rfl rfl rfl hO1 rfl rfl ?_
      refine r_callV h fun M17 hx18 hok19 h => ?_
      replace h := h hx18 hok19
      replace hO1 := hO1.up hx18
      replace hO11 := hO11.up hx18
      refine r_iconst x_153_32 ?_
      refine r_istore_n x_153_33 (by decide +kernel) rfl (lv1 := [(0, .ref a0), (1, g_n v1), (2, g_n 0)]) rfl ?_
      exact h
    · replace h := h.1 hc
      refine r_iconst x_153_26 ?_
      exact r_retI x_153_27 rfl (g_Rk rfl) h
  · replace h := h.1 hc
    refine r_iconst x_153_8 ?_
    exact r_retI x_153_9 rfl (g_Rk rfl) h
theorem s_X9_unwind_34 {d : Nat} {M : g_M} {Q : Int → g_M → Prop} {a0 : Nat} {v1 : Int} (hv1 : g_InR v1) {v2 : Int} (hv2 : g_InR v2) (h : g_ok M → g_O M a0 9 ∧ ((v2 < g_i M a0 14 → ∃ b7, g_r M a0 6 = some b7 ∧ ∃ n9, g_A M b7 1 n9 ∧ ((0 : Int) ≤ v2 ∧ (v2 : Int) < n9) ∧ g_Run d 153 52 [(0, .ref a0), (1, g_n v1), (2, g_n v2), (3, g_n (g_i M b7 v2)), (4, g_n 0)] [] M (g_qI Q)) ∧ (¬ v2 < g_i M a0 14 → g_Call d 144 [.ref a0] M (g_qI fun r5 M2 => g_ext M M2 → g_ok M2 → g_InR r5 → Q r5 M2)))) : g_Run d 153 34 [(0, .ref a0), (1, g_n v1), (2, g_n v2)] [] M (g_qI Q) := by
  refine g_Run.ok fun hok => ?_
  replace h := h hok
  refine r_iload_n x_153_34 rfl ?_
  refine r_aload_n x_153_35 rfl ?_
  obtain ⟨hO1, h⟩ := h
  refine r_getI x_153_36 rfl (ci := 9) (k := 14) (ns := 0) (by decide +kernel) (by decide) rfl (kz := 14) rfl hO1 ?_
  refine r_ic_ge x_153_39 (t := 274) (by decide +kernel) hv2 (hok.1 _ _) (fun hc => ?_) (fun hc => ?_)
  · replace h := h.2 hc
    refine r_aload_n x_153_274 rfl ?_
    refine r_invV x_153_275 (z := 144) (ns := 0) (by decide +kernel) (as := []) (r := []) rfl rfl rfl hO1 rfl rfl ?_
    refine r_callI h fun r5 M2 hx3 hok4 hr6 h => ?_
    replace h := h hx3 hok4 hr6
    replace hO1 := hO1.up hx3
    exact r_retI x_153_278 rfl hr6 h
  · replace h := h.1 hc
    refine r_aload_n x_153_42 rfl ?_
    obtain ⟨b7, hb8, h⟩ := h
    refine r_getR x_153_43 rfl (ci := 9) (k := 6) (ns := 0) (by decide +kernel) (by decide) rfl (kz := 6) rfl hO1 hb8 ?_
    refine r_iload_n x_153_46 rfl ?_
    obtain ⟨n9, hA10, h⟩ := h
    obtain ⟨h11, h⟩ := h
    refine r_iald x_153_47 hA10 hv2 h11.1 h11.2 ?_
    refine r_istore_n x_153_48 (by decide +kernel) rfl (lv1 := [(0, .ref a0), (1, g_n v1), (2, g_n v2), (3, g_n (g_i M b7 v2))]) rfl ?_
    refine r_iconst x_153_49 ?_
    refine r_istore x_153_50 (by decide +kernel) rfl (lv1 := [(0, .ref a0), (1, g_n v1), (2, g_n v2), (3, g_n (g_i M b7 v2)), (4, g_n 0)]) rfl ?_
    exact h
theorem s_X9_unwind_52 {d : Nat} {M : g_M} {Q : Int → g_M → Prop} {a0 : Nat} {v1 : Int} (hv1 : g_InR v1) {v2 : Int} (hv2 : g_InR v2) {v3 : Int} (hv3 : g_InR v3) {v4 : Int} (hv4 : g_InR v4) (h : g_ok M → g_O M a0 9 ∧ ∃ b2, g_r M a0 2 = some b2 ∧ g_O M b2 5 ∧ ((v4 < g_i M b2 3 → ((v3 < 0 → g_Run d 153 126 [(0, .ref a0), (1, g_n v1), (2, g_n v2), (3, g_n v3), (4, g_n v4)] [] M (g_qI Q)) ∧ (¬ v3 < 0 → ∃ b5, g_r M a0 1 = some b5 ∧ g_Call d 108 [.ref b5, g_n v3] M (g_qI fun r10 M7 => g_ext M M7 → g_ok M7 → g_InR r10 → ((r10 = 3 → ∃ b13, g_r M7 a0 1 = some b13 ∧ ∃ b15, g_r M7 a0 2 = some b15 ∧ g_O M7 b15 5 ∧ ∃ b18, g_r M7 b15 0 = some b18 ∧ ∃ b20, g_r M7 a0 2 = some b20 ∧ g_O M7 b20 5 ∧ ∃ b23, g_r M7 b20 1 = some b23 ∧ ∃ n25, g_A M7 b23 1 n25 ∧ ((0 : Int) ≤ v4 ∧ (v4 : Int) < n25) ∧ ∃ b28, g_r M7 a0 2 = some b28 ∧ g_O M7 b28 5 ∧ ∃ b31, g_r M7 b28 2 = some b31 ∧ ∃ n33, g_A M7 b31 1 n33 ∧ ((0 : Int) ≤ v4 ∧ (v4 : Int) < n33) ∧ g_Call d 114 [.ref b13, g_n v3, .ref b18, g_n (g_i M7 b23 v4), g_n (g_i M7 b31 v4)] M7 (g_qI fun r39 M36 => g_ext M7 M36 → g_ok M36 → g_InR r39 → g_InR (v4 + 1) ∧ g_Run d 153 52 [(0, .ref a0), (1, g_n v1), (2, g_n v2), (3, g_n r39), (4, g_n (v4 + 1))] [] M36 (g_qI Q))) ∧ (¬ r10 = 3 → g_InR (v4 + 1) ∧ g_Run d 153 52 [(0, .ref a0), (1, g_n v1), (2, g_n v2), (3, g_n ((-1))), (4, g_n (v4 + 1))] [] M7 (g_qI Q))))))) ∧ (¬ v4 < g_i M b2 3 → g_Run d 153 126 [(0, .ref a0), (1, g_n v1), (2, g_n v2), (3, g_n v3), (4, g_n v4)] [] M (g_qI Q)))) : g_Run d 153 52 [(0, .ref a0), (1, g_n v1), (2, g_n v2), (3, g_n v3), (4, g_n v4)] [] M (g_qI Q) := by
  refine g_Run.ok fun hok => ?_
  replace h := h hok
  refine r_iload x_153_52 rfl ?_
  refine r_aload_n x_153_54 rfl ?_
  obtain ⟨hO1, h⟩ := h
  obtain ⟨b2, hb3, h⟩ := h
  refine r_getR x_153_55 rfl (ci := 9) (k := 2) (ns := 0) (by decide +kernel) (by decide) rfl (kz := 2) rfl hO1 hb3 ?_
  obtain ⟨hO4, h⟩ := h
  refine r_getI x_153_58 rfl (ci := 5) (k := 3) (ns := 1) (by decide +kernel) (by decide) rfl (kz := 3) rfl hO4 ?_
  refine r_ic_ge x_153_61 (t := 126) (by decide +kernel) hv4 (hok.1 _ _) (fun hc => ?_) (fun hc => ?_)
  · replace h := h.2 hc
    exact h
  · replace h := h.1 hc
    refine r_iload_n x_153_64 rfl ?_
    refine r_if_lt x_153_65 (t := 126) (by decide +kernel) hv3 (fun hc => ?_) (fun hc => ?_)
    · replace h := h.1 hc
      exact h
    · replace h := h.2 hc
      refine r_aload_n x_153_68 rfl ?_
      obtain ⟨b5, hb6, h⟩ := h
      refine r_getR x_153_69 rfl (ci := 9) (k := 1) (ns := 0) (by decide +kernel) (by decide) rfl (kz := 1) rfl hO1 hb6 ?_
      refine r_iload_n x_153_72 rfl ?_
      refine r_invS x_153_73 (z := 108) (ns := 1) (by decide +kernel) (as := [.ref b5, g_n v3]) (r := []) rfl rfl rfl ?_
      refine r_callI h fun r10 M7 hx8 hok9 hr11 h => ?_
      replace h := h hx8 hok9 hr11
      replace hO1 := hO1.up hx8
      replace hO4 := hO4.up hx8
      refine r_iconst x_153_76 ?_
      refine r_ic_ne x_153_77 (t := 118) (by decide +kernel) hr11 (g_Rk rfl) (fun hc => ?_) (fun hc => ?_)
      · replace h := h.2 hc
        refine r_iconst x_153_118 ?_
        refine r_istore_n x_153_119 (by decide +kernel) rfl (lv1 := [(0, .ref a0), (1, g_n v1), (2, g_n v2), (3, g_n ((-1))), (4, g_n v4)]) rfl ?_
        obtain ⟨h12, h⟩ := h
        refine r_iinc x_153_120 (by decide +kernel) rfl rfl (lv1 := [(0, .ref a0), (1, g_n v1), (2, g_n v2), (3, g_n ((-1))), (4, g_n (v4 + 1))]) rfl ?_
        refine r_goto x_153_123 (t := 52) (by decide +kernel) ?_
        exact h
      · replace h := h.1 hc
        refine r_aload_n x_153_80 rfl ?_
        obtain ⟨b13, hb14, h⟩ := h
        refine r_getR x_153_81 rfl (ci := 9) (k := 1) (ns := 0) (by decide +kernel) (by decide) rfl (kz := 1) rfl hO1 hb14 ?_
        refine r_iload_n x_153_84 rfl ?_
        refine r_aload_n x_153_85 rfl ?_
        obtain ⟨b15, hb16, h⟩ := h
        refine r_getR x_153_86 rfl (ci := 9) (k := 2) (ns := 0) (by decide +kernel) (by decide) rfl (kz := 2) rfl hO1 hb16 ?_
        obtain ⟨hO17, h⟩ := h
        obtain ⟨b18, hb19, h⟩ := h
        refine r_getR x_153_89 rfl (ci := 5) (k := 0) (ns := 1) (by decide +kernel) (by decide) rfl (kz := 0) rfl hO17 hb19 ?_
        refine r_aload_n x_153_92 rfl ?_
        obtain ⟨b20, hb21, h⟩ := h
        refine r_getR x_153_93 rfl (ci := 9) (k := 2) (ns := 0) (by decide +kernel) (by decide) rfl (kz := 2) rfl hO1 hb21 ?_
        obtain ⟨hO22, h⟩ := h
        obtain ⟨b23, hb24, h⟩ := h
        refine r_getR x_153_96 rfl (ci := 5) (k := 1) (ns := 1) (by decide +kernel) (by decide) rfl (kz := 1) rfl hO22 hb24 ?_
        refine r_iload x_153_99 rfl ?_
        obtain ⟨n25, hA26, h⟩ := h
        obtain ⟨h27, h⟩ := h
        refine r_iald x_153_101 hA26 hv4 h27.1 h27.2 ?_
        refine r_aload_n x_153_102 rfl ?_
        obtain ⟨b28, hb29, h⟩ := h
        refine r_getR x_153_103 rfl (ci := 9) (k := 2) (ns := 0) (by decide +kernel) (by decide) rfl (kz := 2) rfl hO1 hb29 ?_
        obtain ⟨hO30, h⟩ := h
        obtain ⟨b31, hb32, h⟩ := h
        refine r_getR x_153_106 rfl (ci := 5) (k := 2) (ns := 1) (by decide +kernel) (by decide) rfl (kz := 2) rfl hO30 hb32 ?_
        refine r_iload x_153_109 rfl ?_
        obtain ⟨n33, hA34, h⟩ := h
        obtain ⟨h35, h⟩ := h
        refine r_iald x_153_111 hA34 hv4 h35.1 h35.2 ?_
        refine r_invS x_153_112 (z := 114) (ns := 1) (by decide +kernel) (as := [.ref b13, g_n v3, .ref b18, g_n (g_i M7 b23 v4), g_n (g_i M7 b31 v4)]) (r := []) rfl rfl rfl ?_
        refine r_callI h fun r39 M36 hx37 hok38 hr40 h => ?_
        replace h := h hx37 hok38 hr40
        replace hO1 := hO1.up hx37
        replace hO4 := hO4.up hx37
        replace hO17 := hO17.up hx37
        replace hO22 := hO22.up hx37
        replace hO30 := hO30.up hx37
        replace hA26 := hA26.up hx37
        replace hA34 := hA34.up hx37
        refine r_goto x_153_115 (t := 119) (by decide +kernel) ?_
        refine r_istore_n x_153_119 (by decide +kernel) rfl (lv1 := [(0, .ref a0), (1, g_n v1), (2, g_n v2), (3, g_n r39), (4, g_n v4)]) rfl ?_
        obtain ⟨h41, h⟩ := h
        refine r_iinc x_153_120 (by decide +kernel) rfl rfl (lv1 := [(0, .ref a0), (1, g_n v1), (2, g_n v2), (3, g_n r39), (4, g_n (v4 + 1))]) rfl ?_
        refine r_goto x_153_123 (t := 52) (by decide +kernel) ?_
        exact h
theorem s_X9_unwind_126 {d : Nat} {M : g_M} {Q : Int → g_M → Prop} {a0 : Nat} {v1 : Int} (hv1 : g_InR v1) {v2 : Int} (hv2 : g_InR v2) {v3 : Int} (hv3 : g_InR v3) {v4 : Int} (hv4 : g_InR v4) (h : g_ok M → g_O M a0 9 ∧ ∃ b2, g_r M a0 1 = some b2 ∧ g_Call d 108 [.ref b2, g_n v3] M (g_qI fun r7 M4 => g_ext M M4 → g_ok M4 → g_InR r7 → ((v3 < 0 → g_InR (v2 + 1) ∧ g_Run d 153 34 [(0, .ref a0), (1, g_n v1), (2, g_n (v2 + 1))] [] M4 (g_qI Q)) ∧ (¬ v3 < 0 → ((r7 = 10 → g_InR (v2 + 1) ∧ g_Run d 153 34 [(0, .ref a0), (1, g_n v1), (2, g_n (v2 + 1))] [] M4 (g_qI Q)) ∧ (¬ r7 = 10 → ((r7 = 4 → ∃ b10, g_r M4 a0 1 = some b10 ∧ g_Call d 112 [.ref b10, g_n v3] M4 (g_qI fun r15 M12 => g_ext M4 M12 → g_ok M12 → g_InR r15 → g_Run d 153 219 [(0, .ref a0), (1, g_n v1), (2, g_n v2), (3, g_n v3), (4, g_n r7), (5, g_n r15), (6, g_n 0)] [] M12 (g_qI Q))) ∧ (¬ r7 = 4 → ∃ b17, g_r M4 a0 4 = some b17 ∧ g_O M4 b17 4 ∧ ∃ b20, g_r M4 a0 4 = some b20 ∧ ∃ b22, g_r M4 a0 1 = some b22 ∧ ∃ b24, g_r M4 a0 6 = some b24 ∧ ∃ n26, g_A M4 b24 1 n26 ∧ ((0 : Int) ≤ v2 ∧ (v2 : Int) < n26) ∧ ∃ b29, g_r M4 a0 1 = some b29 ∧ ∃ b31, g_r M4 a0 6 = some b31 ∧ ∃ n33, g_A M4 b31 1 n33 ∧ ((0 : Int) ≤ v2 ∧ (v2 : Int) < n33) ∧ g_Call d 111 [.ref b29, g_n (g_i M4 b31 v2)] M4 (g_qI fun r39 M36 => g_ext M4 M36 → g_ok M36 → g_InR r39 → g_O M36 b20 4 ∧ g_Call d 80 [.ref b20, .ref b22, g_n (g_i M4 b24 v2), g_n r39] M36 (g_qV fun M42 => g_ext M36 M42 → g_ok M42 → g_InR ((g_i M4 b17 1) + 2) ∧ g_Call d 143 [.ref a0, g_n ((g_i M4 b17 1) + 2)] M42 (g_qV fun M46 => g_ext M42 M46 → g_ok M46 → g_InR (v2 + 1) ∧ g_Run d 153 34 [(0, .ref a0), (1, g_n v1), (2, g_n (v2 + 1))] [] M46 (g_qI Q)))))))))))) : g_Run d 153 126 [(0, .ref a0), (1, g_n v1), (2, g_n v2), (3, g_n v3), (4, g_n v4)] [] M (g_qI Q) := by
  refine g_Run.ok fun hok => ?_
  replace h := h hok
  refine r_aload_n x_153_126 rfl ?_
  obtain ⟨hO1, h⟩ := h
  obtain ⟨b2, hb3, h⟩ := h
  refine r_getR x_153_127 rfl (ci := 9) (k := 1) (ns := 0) (by decide +kernel) (by decide) rfl (kz := 1) rfl hO1 hb3 ?_
  refine r_iload_n x_153_130 rfl ?_
  refine r_invS x_153_131 (z := 108) (ns := 1) (by decide +kernel) (as := [.ref b2, g_n v3]) (r := []) rfl rfl rfl ?_
  refine r_callI h fun r7 M4 hx5 hok6 hr8 h => ?_
  replace h := h hx5 hok6 hr8
  replace hO1 := hO1.up hx5
  refine r_istore x_153_134 (by decide +kernel) rfl (lv1 := [(0, .ref a0), (1, g_n v1), (2, g_n v2), (3, g_n v3), (4, g_n r7)]) rfl ?_
  refine r_iload_n x_153_136 rfl ?_
  refine r_if_lt x_153_137 (t := 268) (by decide +kernel) hv3 (fun hc => ?_) (fun hc => ?_)
  · replace h := h.1 hc
    obtain ⟨h9, h⟩ := h
    refine r_iinc x_153_268 (by decide +kernel) rfl rfl (lv1 := [(0, .ref a0), (1, g_n v1), (2, g_n (v2 + 1)), (3, g_n v3), (4, g_n r7)]) rfl ?_
    refine r_goto x_153_271 (t := 34) (by decide +kernel) ?_
    refine g_drop [0, 1, 2] (lv1 := [(0, .ref a0), (1, g_n v1), (2, g_n (v2 + 1))]) rfl ?_
    exact h
  · replace h := h.2 hc
    refine r_iload x_153_140 rfl ?_
    refine r_bipush x_153_142 (x := 10) rfl ?_
    refine r_ic_ne x_153_144 (t := 150) (by decide +kernel) hr8 (g_Rk rfl) (fun hc => ?_) (fun hc => ?_)
    · replace h := h.2 hc
      refine r_iload x_153_150 rfl ?_
      refine r_iconst x_153_152 ?_
      refine r_ic_eq x_153_153 (t := 206) (by decide +kernel) hr8 (g_Rk rfl) (fun hc => ?_) (fun hc => ?_)
      · replace h := h.1 hc
        refine r_aload_n x_153_206 rfl ?_
        obtain ⟨b10, hb11, h⟩ := h
        refine r_getR x_153_207 rfl (ci := 9) (k := 1) (ns := 0) (by decide +kernel) (by decide) rfl (kz := 1) rfl hO1 hb11 ?_
        refine r_iload_n x_153_210 rfl ?_
        refine r_invS x_153_211 (z := 112) (ns := 1) (by decide +kernel) (as := [.ref b10, g_n v3]) (r := []) rfl rfl rfl ?_
        refine r_callI h fun r15 M12 hx13 hok14 hr16 h => ?_
        replace h := h hx13 hok14 hr16
        replace hO1 := hO1.up hx13
        refine r_istore x_153_214 (by decide +kernel) rfl (lv1 := [(0, .ref a0), (1, g_n v1), (2, g_n v2), (3, g_n v3), (4, g_n r7), (5, g_n r15)]) rfl ?_
        refine r_iconst x_153_216 ?_
        refine r_istore x_153_217 (by decide +kernel) rfl (lv1 := [(0, .ref a0), (1, g_n v1), (2, g_n v2), (3, g_n v3), (4, g_n r7), (5, g_n r15), (6, g_n 0)]) rfl ?_
        exact h
      · replace h := h.2 hc
        refine r_aload_n x_153_156 rfl ?_
        obtain ⟨b17, hb18, h⟩ := h
        refine r_getR x_153_157 rfl (ci := 9) (k := 4) (ns := 0) (by decide +kernel) (by decide) rfl (kz := 4) rfl hO1 hb18 ?_
        obtain ⟨hO19, h⟩ := h
        refine r_getI x_153_160 rfl (ci := 4) (k := 1) (ns := 1) (by decide +kernel) (by decide) rfl (kz := 1) rfl hO19 ?_
        refine r_istore x_153_163 (by decide +kernel) rfl (lv1 := [(0, .ref a0), (1, g_n v1), (2, g_n v2), (3, g_n v3), (4, g_n r7), (5, g_n (g_i M4 b17 1))]) rfl ?_
        refine r_aload_n x_153_165 rfl ?_
        obtain ⟨b20, hb21, h⟩ := h
        refine r_getR x_153_166 rfl (ci := 9) (k := 4) (ns := 0) (by decide +kernel) (by decide) rfl (kz := 4) rfl hO1 hb21 ?_
        refine r_aload_n x_153_169 rfl ?_
        obtain ⟨b22, hb23, h⟩ := h
        refine r_getR x_153_170 rfl (ci := 9) (k := 1) (ns := 0) (by decide +kernel) (by decide) rfl (kz := 1) rfl hO1 hb23 ?_
        refine r_aload_n x_153_173 rfl ?_
        obtain ⟨b24, hb25, h⟩ := h
        refine r_getR x_153_174 rfl (ci := 9) (k := 6) (ns := 0) (by decide +kernel) (by decide) rfl (kz := 6) rfl hO1 hb25 ?_
        refine r_iload_n x_153_177 rfl ?_
        obtain ⟨n26, hA27, h⟩ := h
        obtain ⟨h28, h⟩ := h
        refine r_iald x_153_178 hA27 hv2 h28.1 h28.2 ?_
        refine r_aload_n x_153_179 rfl ?_
        obtain ⟨b29, hb30, h⟩ := h
        refine r_getR x_153_180 rfl (ci := 9) (k := 1) (ns := 0) (by decide +kernel) (by decide) rfl (kz := 1) rfl hO1 hb30 ?_
        refine r_aload_n x_153_183 rfl ?_
        obtain ⟨b31, hb32, h⟩ := h
        refine r_getR x_153_184 rfl (ci := 9) (k := 6) (ns := 0) (by decide +kernel) (by decide) rfl (kz := 6) rfl hO1 hb32 ?_
        refine r_iload_n x_153_187 rfl ?_
        obtain ⟨n33, hA34, h⟩ := h
        obtain ⟨h35, h⟩ := h
        refine r_iald x_153_188 hA34 hv2 h35.1 h35.2 ?_
        refine r_invS x_153_189 (z := 111) (ns := 1) (by decide +kernel) (as := [.ref b29, g_n (g_i M4 b31 v2)]) (r := [g_n (g_i M4 b24 v2), .ref b22, .ref b20]) rfl rfl rfl ?_
        refine r_callI h fun r39 M36 hx37 hok38 hr40 h => ?_
        replace h := h hx37 hok38 hr40
        replace hO1 := hO1.up hx37
        replace hO19 := hO19.up hx37
        replace hA27 := hA27.up hx37
        replace hA34 := hA34.up hx37
        obtain ⟨hO41, h⟩ := h
        refine r_invV x_153_192 (z := 80) (ns := 1) (by decide +kernel) (as := [.ref b22, g_n (g_i M4 b24 v2), g_n r39]) (r := []) rfl rfl rfl hO41 rfl rfl ?_
        refine r_callV h fun M42 hx43 hok44 h => ?_
        replace h := h hx43 hok44
        replace hO1 := hO1.up hx43
        replace hO19 := hO19.up hx43
        replace hO41 := hO41.up hx43
        replace hA27 := hA27.up hx43
        replace hA34 := hA34.up hx43
        refine r_aload_n x_153_195 rfl ?_
        refine r_iload x_153_196 rfl ?_
        refine r_iconst x_153_198 ?_
        refine r_iadd x_153_199 ?_
        obtain ⟨h45, h⟩ := h
        refine r_invV x_153_200 (z := 143) (ns := 0) (by decide +kernel) (as := [g_n ((g_i M4 b17 1) + 2)]) (r := []) rfl rfl rfl hO1 rfl rfl ?_
        refine r_callV h fun M46 hx47 hok48 h => ?_
        replace h := h hx47 hok48
        replace hO1 := hO1.up hx47
        replace hO19 := hO19.up hx47
        replace hO41 := hO41.up hx47
        replace hA27 := hA27.up hx47
        replace hA34 := hA34.up hx47
        refine r_goto x_153_203 (t := 268) (by decide +kernel) ?_
        obtain ⟨h49, h⟩ := h
        refine r_iinc x_153_268 (by decide +kernel) rfl rfl (lv1 := [(0, .ref a0), (1, g_n v1), (2, g_n (v2 + 1)), (3, g_n v3), (4, g_n r7), (5, g_n (g_i M4 b17 1))]) rfl ?_
        refine r_goto x_153_271 (t := 34) (by decide +kernel) ?_
        refine g_drop [0, 1, 2] (lv1 := [(0, .ref a0), (1, g_n v1), (2, g_n (v2 + 1))]) rfl ?_
        exact h
    · replace h := h.1 hc
      refine r_goto x_153_147 (t := 268) (by decide +kernel) ?_
      obtain ⟨h50, h⟩ := h
      refine r_iinc x_153_268 (by decide +kernel) rfl rfl (lv1 := [(0, .ref a0), (1, g_n v1), (2, g_n (v2 + 1)), (3, g_n v3), (4, g_n r7)]) rfl ?_
      refine r_goto x_153_271 (t := 34) (by decide +kernel) ?_
      refine g_drop [0, 1, 2] (lv1 := [(0, .ref a0), (1, g_n v1), (2, g_n (v2 + 1))]) rfl ?_
      exact h
theorem s_X9_unwind_219 {d : Nat} {M : g_M} {Q : Int → g_M → Prop} {a0 : Nat} {v1 : Int} (hv1 : g_InR v1) {v2 : Int} (hv2 : g_InR v2) {v3 : Int} (hv3 : g_InR v3) {v4 : Int} (hv4 : g_InR v4) {v5 : Int} (hv5 : g_InR v5) {v6 : Int} (hv6 : g_InR v6) (h : g_ok M → ((v6 < 100000 → g_O M a0 9 ∧ ∃ b3, g_r M a0 1 = some b3 ∧ g_Call d 108 [.ref b3, g_n v5] M (g_qI fun r8 M5 => g_ext M M5 → g_ok M5 → g_InR r8 → ((r8 = 0 → g_InR (v2 + 1) ∧ g_Run d 153 34 [(0, .ref a0), (1, g_n v1), (2, g_n (v2 + 1))] [] M5 (g_qI Q)) ∧ (¬ r8 = 0 → ∃ b11, g_r M5 a0 6 = some b11 ∧ ∃ n13, g_A M5 b11 1 n13 ∧ ((0 : Int) ≤ v2 ∧ (v2 : Int) < n13) ∧ g_Call d 154 [.ref a0, g_n (g_i M5 b11 v2), g_n v3, g_n v5] M5 (g_qV fun M16 => g_ext M5 M16 → g_ok M16 → ∃ b19, g_r M16 a0 1 = some b19 ∧ g_Call d 111 [.ref b19, g_n v5] M16 (g_qI fun r24 M21 => g_ext M16 M21 → g_ok M21 → g_InR r24 → g_InR (v6 + 1) ∧ g_Run d 153 219 [(0, .ref a0), (1, g_n v1), (2, g_n v2), (3, g_n v3), (4, g_n v4), (5, g_n r24), (6, g_n (v6 + 1))] [] M21 (g_qI Q))))))) ∧ (¬ v6 < 100000 → g_InR (v2 + 1) ∧ g_Run d 153 34 [(0, .ref a0), (1, g_n v1), (2, g_n (v2 + 1))] [] M (g_qI Q)))) : g_Run d 153 219 [(0, .ref a0), (1, g_n v1), (2, g_n v2), (3, g_n v3), (4, g_n v4), (5, g_n v5), (6, g_n v6)] [] M (g_qI Q) := by
  refine g_Run.ok fun hok => ?_
  replace h := h hok
  refine r_iload x_153_219 rfl ?_
  refine r_ldc x_153_221 (v := g_n 100000) rfl ?_
  refine r_ic_ge x_153_223 (t := 268) (by decide +kernel) hv6 (g_Rk rfl) (fun hc => ?_) (fun hc => ?_)
  · replace h := h.2 hc
    obtain ⟨h1, h⟩ := h
    refine r_iinc x_153_268 (by decide +kernel) rfl rfl (lv1 := [(0, .ref a0), (1, g_n v1), (2, g_n (v2 + 1)), (3, g_n v3), (4, g_n v4), (5, g_n v5), (6, g_n v6)]) rfl ?_
    refine r_goto x_153_271 (t := 34) (by decide +kernel) ?_
    refine g_drop [0, 1, 2] (lv1 := [(0, .ref a0), (1, g_n v1), (2, g_n (v2 + 1))]) rfl ?_
    exact h
  · replace h := h.1 hc
    refine r_aload_n x_153_226 rfl ?_
    obtain ⟨hO2, h⟩ := h
    obtain ⟨b3, hb4, h⟩ := h
    refine r_getR x_153_227 rfl (ci := 9) (k := 1) (ns := 0) (by decide +kernel) (by decide) rfl (kz := 1) rfl hO2 hb4 ?_
    refine r_iload x_153_230 rfl ?_
    refine r_invS x_153_232 (z := 108) (ns := 1) (by decide +kernel) (as := [.ref b3, g_n v5]) (r := []) rfl rfl rfl ?_
    refine r_callI h fun r8 M5 hx6 hok7 hr9 h => ?_
    replace h := h hx6 hok7 hr9
    replace hO2 := hO2.up hx6
    refine r_if_eq x_153_235 (t := 268) (by decide +kernel) hr9 (fun hc => ?_) (fun hc => ?_)
    · replace h := h.1 hc
      obtain ⟨h10, h⟩ := h
      refine r_iinc x_153_268 (by decide +kernel) rfl rfl (lv1 := [(0, .ref a0), (1, g_n v1), (2, g_n (v2 + 1)), (3, g_n v3), (4, g_n v4), (5, g_n v5), (6, g_n v6)]) rfl ?_
      refine r_goto x_153_271 (t := 34) (by decide +kernel) ?_
      refine g_drop [0, 1, 2] (lv1 := [(0, .ref a0), (1, g_n v1), (2, g_n (v2 + 1))]) rfl ?_
      exact h
    · replace h := h.2 hc
      refine r_aload_n x_153_238 rfl ?_
      refine r_aload_n x_153_239 rfl ?_
      obtain ⟨b11, hb12, h⟩ := h
      refine r_getR x_153_240 rfl (ci := 9) (k := 6) (ns := 0) (by decide +kernel) (by decide) rfl (kz := 6) rfl hO2 hb12 ?_
      refine r_iload_n x_153_243 rfl ?_
      obtain ⟨n13, hA14, h⟩ := h
      obtain ⟨h15, h⟩ := h
      refine r_iald x_153_244 hA14 hv2 h15.1 h15.2 ?_
      refine r_iload_n x_153_245 rfl ?_
      refine r_iload x_153_246 rfl ?_
      refine r_invV x_153_248 (z := 154) (ns := 0) (by decide +kernel) (as := [g_n (g_i M5 b11 v2), g_n v3, g_n v5]) (r := []) rfl rfl rfl hO2 rfl rfl ?_
      refine r_callV h fun M16 hx17 hok18 h => ?_
      replace h := h hx17 hok18
      replace hO2 := hO2.up hx17
      replace hA14 := hA14.up hx17
      refine r_aload_n x_153_251 rfl ?_
      obtain ⟨b19, hb20, h⟩ := h
      refine r_getR x_153_252 rfl (ci := 9) (k := 1) (ns := 0) (by decide +kernel) (by decide) rfl (kz := 1) rfl hO2 hb20 ?_
      refine r_iload x_153_255 rfl ?_
      refine r_invS x_153_257 (z := 111) (ns := 1) (by decide +kernel) (as := [.ref b19, g_n v5]) (r := []) rfl rfl rfl ?_
      refine r_callI h fun r24 M21 hx22 hok23 hr25 h => ?_
      replace h := h hx22 hok23 hr25
      replace hO2 := hO2.up hx22
      replace hA14 := hA14.up hx22
      refine r_istore x_153_260 (by decide +kernel) rfl (lv1 := [(0, .ref a0), (1, g_n v1), (2, g_n v2), (3, g_n v3), (4, g_n v4), (5, g_n r24), (6, g_n v6)]) rfl ?_
      obtain ⟨h26, h⟩ := h
      refine r_iinc x_153_262 (by decide +kernel) rfl rfl (lv1 := [(0, .ref a0), (1, g_n v1), (2, g_n v2), (3, g_n v3), (4, g_n v4), (5, g_n r24), (6, g_n (v6 + 1))]) rfl ?_
      refine r_goto x_153_265 (t := 219) (by decide +kernel) ?_
      exact h
theorem m_X9_unwindItem {d : Nat} {M : g_M} {Q : g_M → Prop} {a0 : Nat} {v1 : Int} (hv1 : g_InR v1) {v2 : Int} (hv2 : g_InR v2) {v3 : Int} (hv3 : g_InR v3) (h : g_ok M → g_O M a0 9 ∧ ∃ b2, g_r M a0 4 = some b2 ∧ g_O M b2 4 ∧ ∃ b5, g_r M a0 1 = some b5 ∧ g_Call d 111 [.ref b5, g_n v3] M (g_qI fun r10 M7 => g_ext M M7 → g_ok M7 → g_InR r10 → ∃ b12, g_r M7 a0 1 = some b12 ∧ g_Call d 110 [.ref b12, g_n v3] M7 (g_qI fun r17 M14 => g_ext M7 M14 → g_ok M14 → g_InR r17 → g_InR (r10 - r17) ∧ ∃ b20, g_r M14 a0 1 = some b20 ∧ g_Call d 111 [.ref b20, g_n v2] M14 (g_qI fun r25 M22 => g_ext M14 M22 → g_ok M22 → g_InR r25 → ∃ b27, g_r M22 a0 1 = some b27 ∧ g_Call d 110 [.ref b27, g_n v2] M22 (g_qI fun r32 M29 => g_ext M22 M29 → g_ok M29 → g_InR r32 → g_InR (r25 - r32) ∧ g_InR ((r10 - r17) - (r25 - r32)) ∧ ∃ b36, g_r M29 a0 4 = some b36 ∧ ∃ b38, g_r M29 a0 1 = some b38 ∧ g_O M29 b36 4 ∧ g_Call d 80 [.ref b36, .ref b38, g_n v1, g_n v2] M29 (g_qV fun M41 => g_ext M29 M41 → g_ok M41 → ∃ b44, g_r M41 a0 4 = some b44 ∧ ∃ b46, g_r M41 a0 1 = some b46 ∧ g_Call d 108 [.ref b46, g_n v3] M41 (g_qI fun r51 M48 => g_ext M41 M48 → g_ok M48 → g_InR r51 → ∃ b53, g_r M48 a0 1 = some b53 ∧ g_InR (v2 + 1) ∧ ∃ b56, g_r M48 a0 1 = some b56 ∧ g_Call d 110 [.ref b56, g_n v2] M48 (g_qI fun r61 M58 => g_ext M48 M58 → g_ok M58 → g_InR r61 → g_InR (r61 - 1) ∧ g_O M58 b44 4 ∧ g_Call d 82 [.ref b44, g_n r51, .ref b53, g_n (v2 + 1), g_n (r61 - 1)] M58 (g_qV fun M65 => g_ext M58 M65 → g_ok M65 → ∃ b68, g_r M65 a0 4 = some b68 ∧ ∃ b70, g_r M65 a0 1 = some b70 ∧ g_O M65 b68 4 ∧ g_Call d 84 [.ref b68, .ref b70, g_n v3] M65 (g_qV fun M73 => g_ext M65 M73 → g_ok M73 → ∃ b76, g_r M73 a0 4 = some b76 ∧ ∃ b78, g_r M73 a0 1 = some b78 ∧ ∃ b80, g_r M73 a0 1 = some b80 ∧ g_Call d 111 [.ref b80, g_n v2] M73 (g_qI fun r85 M82 => g_ext M73 M82 → g_ok M82 → g_InR r85 → ∃ b87, g_r M82 a0 1 = some b87 ∧ g_Call d 111 [.ref b87, g_n v1] M82 (g_qI fun r92 M89 => g_ext M82 M89 → g_ok M89 → g_InR r92 → g_O M89 b76 4 ∧ g_Call d 80 [.ref b76, .ref b78, g_n r85, g_n r92] M89 (g_qV fun M95 => g_ext M89 M95 → g_ok M95 → ∃ b98, g_r M95 a0 4 = some b98 ∧ g_O M95 b98 4 ∧ ((g_i M95 b98 3 = 0 → g_Run d 154 152 [(0, .ref a0), (1, g_n v1), (2, g_n v2), (3, g_n v3), (4, g_n (g_i M b2 1)), (5, g_n ((r10 - r17) - (r25 - r32))), (6, g_n v1), (7, g_n 0)] [] M95 (g_qV Q)) ∧ (¬ g_i M95 b98 3 = 0 → (∀ M101, M101 = g_wi M95 a0 18 1 → g_ok M101 → Q M101)))))))))))))))) : g_Call (d + 1) 154 [.ref a0, g_n v1, g_n v2, g_n v3] M (g_qV Q) := by
  refine g_Call.ok fun hok0 => ?_
  replace h := h hok0
  refine r_body rfl (lv := [(0, .ref a0), (1, g_n v1), (2, g_n v2), (3, g_n v3)]) rfl ?_
  refine g_Run.ok fun hok => ?_
  refine r_aload_n x_154_0 rfl ?_
  obtain ⟨hO1, h⟩ := h
  obtain ⟨b2, hb3, h⟩ := h
  refine r_getR x_154_1 rfl (ci := 9) (k := 4) (ns := 0) (by decide +kernel) (by decide) rfl (kz := 4) rfl hO1 hb3 ?_
  obtain ⟨hO4, h⟩ := h
  refine r_getI x_154_4 rfl (ci := 4) (k := 1) (ns := 1) (by decide +kernel) (by decide) rfl (kz := 1) rfl hO4 ?_
  refine r_istore x_154_7 (by decide +kernel) rfl (lv1 := [(0, .ref a0), (1, g_n v1), (2, g_n v2), (3, g_n v3), (4, g_n (g_i M b2 1))]) rfl ?_
  refine r_aload_n x_154_9 rfl ?_
  obtain ⟨b5, hb6, h⟩ := h
  refine r_getR x_154_10 rfl (ci := 9) (k := 1) (ns := 0) (by decide +kernel) (by decide) rfl (kz := 1) rfl hO1 hb6 ?_
  refine r_iload_n x_154_13 rfl ?_
  refine r_invS x_154_14 (z := 111) (ns := 1) (by decide +kernel) (as := [.ref b5, g_n v3]) (r := []) rfl rfl rfl ?_
  refine r_callI h fun r10 M7 hx8 hok9 hr11 h => ?_
  replace h := h hx8 hok9 hr11
  replace hO1 := hO1.up hx8
  replace hO4 := hO4.up hx8
  refine r_aload_n x_154_17 rfl ?_
  obtain ⟨b12, hb13, h⟩ := h
  refine r_getR x_154_18 rfl (ci := 9) (k := 1) (ns := 0) (by decide +kernel) (by decide) rfl (kz := 1) rfl hO1 hb13 ?_
  refine r_iload_n x_154_21 rfl ?_
  refine r_invS x_154_22 (z := 110) (ns := 1) (by decide +kernel) (as := [.ref b12, g_n v3]) (r := [g_n r10]) rfl rfl rfl ?_
  refine r_callI h fun r17 M14 hx15 hok16 hr18 h => ?_
  replace h := h hx15 hok16 hr18
  replace hO1 := hO1.up hx15
  replace hO4 := hO4.up hx15
  refine r_isub x_154_25 ?_
  obtain ⟨h19, h⟩ := h
  refine r_aload_n x_154_26 rfl ?_
  obtain ⟨b20, hb21, h⟩ := h
  refine r_getR x_154_27 rfl (ci := 9) (k := 1) (ns := 0) (by decide +kernel) (by decide) rfl (kz := 1) rfl hO1 hb21 ?_
  refine r_iload_n x_154_30 rfl ?_
  refine r_invS x_154_31 (z := 111) (ns := 1) (by decide +kernel) (as := [.ref b20, g_n v2]) (r := [g_n (r10 - r17)]) rfl rfl rfl ?_
  refine r_callI h fun r25 M22 hx23 hok24 hr26 h => ?_
  replace h := h hx23 hok24 hr26
  replace hO1 := hO1.up hx23
  replace hO4 := hO4.up hx23
  refine r_aload_n x_154_34 rfl ?_
  obtain ⟨b27, hb28, h⟩ := h
  refine r_getR x_154_35 rfl (ci := 9) (k := 1) (ns := 0) (by decide +kernel) (by decide) rfl (kz := 1) rfl hO1 hb28 ?_
  refine r_iload_n x_154_38 rfl ?_
  refine r_invS x_154_39 (z := 110) (ns := 1) (by decide +kernel) (as := [.ref b27, g_n v2]) (r := [g_n r25, g_n (r10 - r17)]) rfl rfl rfl ?_
  refine r_callI h fun r32 M29 hx30 hok31 hr33 h => ?_
  replace h := h hx30 hok31 hr33
  replace hO1 := hO1.up hx30
  replace hO4 := hO4.up hx30
  refine r_isub x_154_42 ?_
  obtain ⟨h34, h⟩ := h
  refine r_isub x_154_43 ?_
  obtain ⟨h35, h⟩ := h
  refine r_istore x_154_44 (by decide +kernel) rfl (lv1 := [(0, .ref a0), (1, g_n v1), (2, g_n v2), (3, g_n v3), (4, g_n (g_i M b2 1)), (5, g_n ((r10 - r17) - (r25 - r32)))]) rfl ?_
  refine r_aload_n x_154_46 rfl ?_
  obtain ⟨b36, hb37, h⟩ := h
  refine r_getR x_154_47 rfl (ci := 9) (k := 4) (ns := 0) (by decide +kernel) (by decide) rfl (kz := 4) rfl hO1 hb37 ?_
  refine r_aload_n x_154_50 rfl ?_
  obtain ⟨b38, hb39, h⟩ := h
  refine r_getR x_154_51 rfl (ci := 9) (k := 1) (ns := 0) (by decide +kernel) (by decide) rfl (kz := 1) rfl hO1 hb39 ?_
  refine r_iload_n x_154_54 rfl ?_
  refine r_iload_n x_154_55 rfl ?_
  obtain ⟨hO40, h⟩ := h
  refine r_invV x_154_56 (z := 80) (ns := 1) (by decide +kernel) (as := [.ref b38, g_n v1, g_n v2]) (r := []) rfl rfl rfl hO40 rfl rfl ?_
  refine r_callV h fun M41 hx42 hok43 h => ?_
  replace h := h hx42 hok43
  replace hO1 := hO1.up hx42
  replace hO4 := hO4.up hx42
  replace hO40 := hO40.up hx42
  refine r_aload_n x_154_59 rfl ?_
  obtain ⟨b44, hb45, h⟩ := h
  refine r_getR x_154_60 rfl (ci := 9) (k := 4) (ns := 0) (by decide +kernel) (by decide) rfl (kz := 4) rfl hO1 hb45 ?_
  refine r_aload_n x_154_63 rfl ?_
  obtain ⟨b46, hb47, h⟩ := h
  refine r_getR x_154_64 rfl (ci := 9) (k := 1) (ns := 0) (by decide +kernel) (by decide) rfl (kz := 1) rfl hO1 hb47 ?_
  refine r_iload_n x_154_67 rfl ?_
  refine r_invS x_154_68 (z := 108) (ns := 1) (by decide +kernel) (as := [.ref b46, g_n v3]) (r := [.ref b44]) rfl rfl rfl ?_
  refine r_callI h fun r51 M48 hx49 hok50 hr52 h => ?_
  replace h := h hx49 hok50 hr52
  replace hO1 := hO1.up hx49
  replace hO4 := hO4.up hx49
  replace hO40 := hO40.up hx49
  refine r_aload_n x_154_71 rfl ?_
  obtain ⟨b53, hb54, h⟩ := h
  refine r_getR x_154_72 rfl (ci := 9) (k := 1) (ns := 0) (by decide +kernel) (by decide) rfl (kz := 1) rfl hO1 hb54 ?_
  refine r_iload_n x_154_75 rfl ?_
  refine r_iconst x_154_76 ?_
  refine r_iadd x_154_77 ?_
  obtain ⟨h55, h⟩ := h
  refine r_aload_n x_154_78 rfl ?_
  obtain ⟨b56, hb57, h⟩ := h
  refine r_getR x_154_79 rfl (ci := 9) (k := 1) (ns := 0) (by decide +kernel) (by decide) rfl (kz := 1) rfl hO1 hb57 ?_
  refine r_iload_n x_154_82 rfl ?_
  refine r_invS x_154_83 (z := 110) (ns := 1) (by decide +kernel) (as := [.ref b56, g_n v2]) (r := [g_n (v2 + 1), .ref b53, g_n r51, .ref b44]) rfl rfl rfl ?_
  refine r_callI h fun r61 M58 hx59 hok60 hr62 h => ?_
  replace h := h hx59 hok60 hr62
  replace hO1 := hO1.up hx59
  replace hO4 := hO4.up hx59
  replace hO40 := hO40.up hx59
  refine r_iconst x_154_86 ?_
  refine r_isub x_154_87 ?_
  obtain ⟨h63, h⟩ := h
  obtain ⟨hO64, h⟩ := h
  refine r_invV x_154_88 (z := 82) (ns := 1) (by decide +kernel) (as := [g_n r51, .ref b53, g_n (v2 + 1), g_n (r61 - 1)]) (r := []) rfl rfl rfl hO64 rfl rfl ?_
  refine r_callV h fun M65 hx66 hok67 h => ?_
  replace h := h hx66 hok67
  replace hO1 := hO1.up hx66
  replace hO4 := hO4.up hx66
  replace hO40 := hO40.up hx66
  replace hO64 := hO64.up hx66
  refine r_aload_n x_154_91 rfl ?_
  obtain ⟨b68, hb69, h⟩ := h
  refine r_getR x_154_92 rfl (ci := 9) (k := 4) (ns := 0) (by decide +kernel) (by decide) rfl (kz := 4) rfl hO1 hb69 ?_
  refine r_aload_n x_154_95 rfl ?_
  obtain ⟨b70, hb71, h⟩ := h
  refine r_getR x_154_96 rfl (ci := 9) (k := 1) (ns := 0) (by decide +kernel) (by decide) rfl (kz := 1) rfl hO1 hb71 ?_
  refine r_iload_n x_154_99 rfl ?_
  obtain ⟨hO72, h⟩ := h
  refine r_invV x_154_100 (z := 84) (ns := 1) (by decide +kernel) (as := [.ref b70, g_n v3]) (r := []) rfl rfl rfl hO72 rfl rfl ?_
  refine r_callV h fun M73 hx74 hok75 h => ?_
  replace h := h hx74 hok75
  replace hO1 := hO1.up hx74
  replace hO4 := hO4.up hx74
  replace hO40 := hO40.up hx74
  replace hO64 := hO64.up hx74
  replace hO72 := hO72.up hx74
  refine r_aload_n x_154_103 rfl ?_
  obtain ⟨b76, hb77, h⟩ := h
  refine r_getR x_154_104 rfl (ci := 9) (k := 4) (ns := 0) (by decide +kernel) (by decide) rfl (kz := 4) rfl hO1 hb77 ?_
  refine r_aload_n x_154_107 rfl ?_
  obtain ⟨b78, hb79, h⟩ := h
  refine r_getR x_154_108 rfl (ci := 9) (k := 1) (ns := 0) (by decide +kernel) (by decide) rfl (kz := 1) rfl hO1 hb79 ?_
  refine r_aload_n x_154_111 rfl ?_
  obtain ⟨b80, hb81, h⟩ := h
  refine r_getR x_154_112 rfl (ci := 9) (k := 1) (ns := 0) (by decide +kernel) (by decide) rfl (kz := 1) rfl hO1 hb81 ?_
  refine r_iload_n x_154_115 rfl ?_
  refine r_invS x_154_116 (z := 111) (ns := 1) (by decide +kernel) (as := [.ref b80, g_n v2]) (r := [.ref b78, .ref b76]) rfl rfl rfl ?_
  refine r_callI h fun r85 M82 hx83 hok84 hr86 h => ?_
  replace h := h hx83 hok84 hr86
  replace hO1 := hO1.up hx83
  replace hO4 := hO4.up hx83
  replace hO40 := hO40.up hx83
  replace hO64 := hO64.up hx83
  replace hO72 := hO72.up hx83
  refine r_aload_n x_154_119 rfl ?_
  obtain ⟨b87, hb88, h⟩ := h
  refine r_getR x_154_120 rfl (ci := 9) (k := 1) (ns := 0) (by decide +kernel) (by decide) rfl (kz := 1) rfl hO1 hb88 ?_
  refine r_iload_n x_154_123 rfl ?_
  refine r_invS x_154_124 (z := 111) (ns := 1) (by decide +kernel) (as := [.ref b87, g_n v1]) (r := [g_n r85, .ref b78, .ref b76]) rfl rfl rfl ?_
  refine r_callI h fun r92 M89 hx90 hok91 hr93 h => ?_
  replace h := h hx90 hok91 hr93
  replace hO1 := hO1.up hx90
  replace hO4 := hO4.up hx90
  replace hO40 := hO40.up hx90
  replace hO64 := hO64.up hx90
  replace hO72 := hO72.up hx90
  obtain ⟨hO94, h⟩ := h
  refine r_invV x_154_127 (z := 80) (ns := 1) (by decide +kernel) (as := [.ref b78, g_n r85, g_n r92]) (r := []) rfl rfl rfl hO94 rfl rfl ?_
  refine r_callV h fun M95 hx96 hok97 h => ?_
  replace h := h hx96 hok97
  replace hO1 := hO1.up hx96
  replace hO4 := hO4.up hx96
  replace hO40 := hO40.up hx96
  replace hO64 := hO64.up hx96
  replace hO72 := hO72.up hx96
  replace hO94 := hO94.up hx96
  refine r_aload_n x_154_130 rfl ?_
  obtain ⟨b98, hb99, h⟩ := h
  refine r_getR x_154_131 rfl (ci := 9) (k := 4) (ns := 0) (by decide +kernel) (by decide) rfl (kz := 4) rfl hO1 hb99 ?_
  obtain ⟨hO100, h⟩ := h
  refine r_getI x_154_134 rfl (ci := 4) (k := 3) (ns := 1) (by decide +kernel) (by decide) rfl (kz := 3) rfl hO100 ?_
  refine r_if_eq x_154_137 (t := 146) (by decide +kernel) (hok97.1 _ _) (fun hc => ?_) (fun hc => ?_)
  · replace h := h.1 hc
    refine r_iload_n x_154_146 rfl ?_
    refine r_istore x_154_147 (by decide +kernel) rfl (lv1 := [(0, .ref a0), (1, g_n v1), (2, g_n v2), (3, g_n v3), (4, g_n (g_i M b2 1)), (5, g_n ((r10 - r17) - (r25 - r32))), (6, g_n v1)]) rfl ?_
    refine r_iconst x_154_149 ?_
    refine r_istore x_154_150 (by decide +kernel) rfl (lv1 := [(0, .ref a0), (1, g_n v1), (2, g_n v2), (3, g_n v3), (4, g_n (g_i M b2 1)), (5, g_n ((r10 - r17) - (r25 - r32))), (6, g_n v1), (7, g_n 0)]) rfl ?_
    exact h
  · replace h := h.2 hc
    refine r_aload_n x_154_140 rfl ?_
    refine r_iconst x_154_141 ?_
    refine r_putI x_154_142 (ci := 9) (k := 18) (ns := 0) (by decide +kernel) (by decide) (g_fZ (Or.inr rfl) (by decide +kernel)) rfl (g_Rk rfl) (g_zx (Or.inr rfl) rfl).2 (kz := 18) rfl hO1 ?_
    obtain ⟨M101, hM102⟩ : ∃ Mz, Mz = g_wi M95 a0 18 1 := ⟨_, rfl⟩
    rw [← hM102]
    refine g_Run.ok fun hok103 => ?_
    replace h := h M101 hM102 hok103
    have hx104 := g_extW hM102
    replace hO1 := hO1.up hx104
    replace hO4 := hO4.up hx104
    replace hO40 := hO40.up hx104
    replace hO64 := hO64.up hx104
    replace hO72 := hO72.up hx104
    replace hO94 := hO94.up hx104
    replace hO100 := hO100.up hx104
    exact r_retV x_154_145 rfl h
theorem s_X9_unwindItem_152 {d : Nat} {M : g_M} {Q : g_M → Prop} {a0 : Nat} {v1 : Int} (hv1 : g_InR v1) {v2 : Int} (hv2 : g_InR v2) {v3 : Int} (hv3 : g_InR v3) {v4 : Int} (hv4 : g_InR v4) {v5 : Int} (hv5 : g_InR v5) {v6 : Int} (hv6 : g_InR v6) {v7 : Int} (hv7 : g_InR v7) (h : g_ok M → g_O M a0 9 ∧ ∃ b2, g_r M a0 2 = some b2 ∧ g_O M b2 5 ∧ ((v7 < g_i M b2 3 → ((v6 < 0 → g_InR (v4 + 2) ∧ g_Call d 143 [.ref a0, g_n (v4 + 2)] M (g_qV fun M10 => g_ext M M10 → g_ok M10 → Q M10)) ∧ (¬ v6 < 0 → ∃ b13, g_r M a0 1 = some b13 ∧ g_Call d 110 [.ref b13, g_n v6] M (g_qI fun r18 M15 => g_ext M M15 → g_ok M15 → g_InR r18 → ∃ b20, g_r M15 a0 4 = some b20 ∧ g_InR (v4 + r18) ∧ g_InR ((v4 + r18) - v1) ∧ ∃ b24, g_r M15 a0 1 = some b24 ∧ g_Call d 109 [.ref b24, g_n r18] M15 (g_qI fun r29 M26 => g_ext M15 M26 → g_ok M26 → g_InR r29 → g_InR (r29 + v5) ∧ g_O M26 b20 4 ∧ g_Call d 79 [.ref b20, g_n ((v4 + r18) - v1), g_n (r29 + v5)] M26 (g_qV fun M33 => g_ext M26 M33 → g_ok M33 → ∃ b36, g_r M33 a0 1 = some b36 ∧ ∃ b38, g_r M33 a0 2 = some b38 ∧ g_O M33 b38 5 ∧ ∃ b41, g_r M33 b38 0 = some b41 ∧ ∃ b43, g_r M33 a0 2 = some b43 ∧ g_O M33 b43 5 ∧ ∃ b46, g_r M33 b43 1 = some b46 ∧ ∃ n48, g_A M33 b46 1 n48 ∧ ((0 : Int) ≤ v7 ∧ (v7 : Int) < n48) ∧ ∃ b51, g_r M33 a0 2 = some b51 ∧ g_O M33 b51 5 ∧ ∃ b54, g_r M33 b51 2 = some b54 ∧ ∃ n56, g_A M33 b54 1 n56 ∧ ((0 : Int) ≤ v7 ∧ (v7 : Int) < n56) ∧ g_Call d 114 [.ref b36, g_n v6, .ref b41, g_n (g_i M33 b46 v7), g_n (g_i M33 b54 v7)] M33 (g_qI fun r62 M59 => g_ext M33 M59 → g_ok M59 → g_InR r62 → g_InR (v7 + 1) ∧ g_Run d 154 152 [(0, .ref a0), (1, g_n v1), (2, g_n v2), (3, g_n v3), (4, g_n v4), (5, g_n v5), (6, g_n r62), (7, g_n (v7 + 1))] [] M59 (g_qV Q)))))))) ∧ (¬ v7 < g_i M b2 3 → g_InR (v4 + 2) ∧ g_Call d 143 [.ref a0, g_n (v4 + 2)] M (g_qV fun M6 => g_ext M M6 → g_ok M6 → Q M6)))) : g_Run d 154 152 [(0, .ref a0), (1, g_n v1), (2, g_n v2), (3, g_n v3), (4, g_n v4), (5, g_n v5), (6, g_n v6), (7, g_n v7)] [] M (g_qV Q) := by
  refine g_Run.ok fun hok => ?_
  replace h := h hok
  refine r_iload x_154_152 rfl ?_
  refine r_aload_n x_154_154 rfl ?_
  obtain ⟨hO1, h⟩ := h
  obtain ⟨b2, hb3, h⟩ := h
  refine r_getR x_154_155 rfl (ci := 9) (k := 2) (ns := 0) (by decide +kernel) (by decide) rfl (kz := 2) rfl hO1 hb3 ?_
  obtain ⟨hO4, h⟩ := h
  refine r_getI x_154_158 rfl (ci := 5) (k := 3) (ns := 1) (by decide +kernel) (by decide) rfl (kz := 3) rfl hO4 ?_
  refine r_ic_ge x_154_161 (t := 250) (by decide +kernel) hv7 (hok.1 _ _) (fun hc => ?_) (fun hc => ?_)
  · replace h := h.2 hc
    refine r_aload_n x_154_250 rfl ?_
    refine r_iload x_154_251 rfl ?_
    refine r_iconst x_154_253 ?_
    refine r_iadd x_154_254 ?_
    obtain ⟨h5, h⟩ := h
    refine r_invV x_154_255 (z := 143) (ns := 0) (by decide +kernel) (as := [g_n (v4 + 2)]) (r := []) rfl rfl rfl hO1 rfl rfl ?_
    refine r_callV h fun M6 hx7 hok8 h => ?_
    replace h := h hx7 hok8
    replace hO1 := hO1.up hx7
    replace hO4 := hO4.up hx7
    exact r_retV x_154_258 rfl h
  · replace h := h.1 hc
    refine r_iload x_154_164 rfl ?_
    refine r_if_lt x_154_166 (t := 250) (by decide +kernel) hv6 (fun hc => ?_) (fun hc => ?_)
    · replace h := h.1 hc
      refine r_aload_n x_154_250 rfl ?_
      refine r_iload x_154_251 rfl ?_
      refine r_iconst x_154_253 ?_
      refine r_iadd x_154_254 ?_
      obtain ⟨h9, h⟩ := h
      refine r_invV x_154_255 (z := 143) (ns := 0) (by decide +kernel) (as := [g_n (v4 + 2)]) (r := []) rfl rfl rfl hO1 rfl rfl ?_
      refine r_callV h fun M10 hx11 hok12 h => ?_
      replace h := h hx11 hok12
      replace hO1 := hO1.up hx11
      replace hO4 := hO4.up hx11
      exact r_retV x_154_258 rfl h
    · replace h := h.2 hc
      refine r_aload_n x_154_169 rfl ?_
      obtain ⟨b13, hb14, h⟩ := h
      refine r_getR x_154_170 rfl (ci := 9) (k := 1) (ns := 0) (by decide +kernel) (by decide) rfl (kz := 1) rfl hO1 hb14 ?_
      refine r_iload x_154_173 rfl ?_
      refine r_invS x_154_175 (z := 110) (ns := 1) (by decide +kernel) (as := [.ref b13, g_n v6]) (r := []) rfl rfl rfl ?_
      refine r_callI h fun r18 M15 hx16 hok17 hr19 h => ?_
      replace h := h hx16 hok17 hr19
      replace hO1 := hO1.up hx16
      replace hO4 := hO4.up hx16
      refine r_istore x_154_178 (by decide +kernel) rfl (lv1 := [(0, .ref a0), (1, g_n v1), (2, g_n v2), (3, g_n v3), (4, g_n v4), (5, g_n v5), (6, g_n v6), (7, g_n v7), (8, g_n r18)]) rfl ?_
      refine r_aload_n x_154_180 rfl ?_
      obtain ⟨b20, hb21, h⟩ := h
      refine r_getR x_154_181 rfl (ci := 9) (k := 4) (ns := 0) (by decide +kernel) (by decide) rfl (kz := 4) rfl hO1 hb21 ?_
      refine r_iload x_154_184 rfl ?_
      refine r_iload x_154_186 rfl ?_
      refine r_iadd x_154_188 ?_
      obtain ⟨h22, h⟩ := h
      refine r_iload_n x_154_189 rfl ?_
      refine r_isub x_154_190 ?_
      obtain ⟨h23, h⟩ := h
      refine r_aload_n x_154_191 rfl ?_
      obtain ⟨b24, hb25, h⟩ := h
      refine r_getR x_154_192 rfl (ci := 9) (k := 1) (ns := 0) (by decide +kernel) (by decide) rfl (kz := 1) rfl hO1 hb25 ?_
      refine r_iload x_154_195 rfl ?_
      refine r_invS x_154_197 (z := 109) (ns := 1) (by decide +kernel) (as := [.ref b24, g_n r18]) (r := [g_n ((v4 + r18) - v1), .ref b20]) rfl rfl rfl ?_
      refine r_callI h fun r29 M26 hx27 hok28 hr30 h => ?_
      replace h := h hx27 hok28 hr30
      replace hO1 := hO1.up hx27
      replace hO4 := hO4.up hx27
      refine r_iload x_154_200 rfl ?_
      refine r_iadd x_154_202 ?_
      obtain ⟨h31, h⟩ := h
      obtain ⟨hO32, h⟩ := h
      refine r_invV x_154_203 (z := 79) (ns := 1) (by decide +kernel) (as := [g_n ((v4 + r18) - v1), g_n (r29 + v5)]) (r := []) rfl rfl rfl hO32 rfl rfl ?_
      refine r_callV h fun M33 hx34 hok35 h => ?_
      replace h := h hx34 hok35
      replace hO1 := hO1.up hx34
      replace hO4 := hO4.up hx34
      replace hO32 := hO32.up hx34
      refine r_aload_n x_154_206 rfl ?_
      obtain ⟨b36, hb37, h⟩ := h
      refine r_getR x_154_207 rfl (ci := 9) (k := 1) (ns := 0) (by decide +kernel) (by decide) rfl (kz := 1) rfl hO1 hb37 ?_
      refine r_iload x_154_210 rfl ?_
      refine r_aload_n x_154_212 rfl ?_
      obtain ⟨b38, hb39, h⟩ := h
      refine r_getR x_154_213 rfl (ci := 9) (k := 2) (ns := 0) (by decide +kernel) (by decide) rfl (kz := 2) rfl hO1 hb39 ?_
      obtain ⟨hO40, h⟩ := h
      obtain ⟨b41, hb42, h⟩ := h
      refine r_getR x_154_216 rfl (ci := 5) (k := 0) (ns := 1) (by decide +kernel) (by decide) rfl (kz := 0) rfl hO40 hb42 ?_
      refine r_aload_n x_154_219 rfl ?_
      obtain ⟨b43, hb44, h⟩ := h
      refine r_getR x_154_220 rfl (ci := 9) (k := 2) (ns := 0) (by decide +kernel) (by decide) rfl (kz := 2) rfl hO1 hb44 ?_
      obtain ⟨hO45, h⟩ := h
      obtain ⟨b46, hb47, h⟩ := h
      refine r_getR x_154_223 rfl (ci := 5) (k := 1) (ns := 1) (by decide +kernel) (by decide) rfl (kz := 1) rfl hO45 hb47 ?_
      refine r_iload x_154_226 rfl ?_
      obtain ⟨n48, hA49, h⟩ := h
      obtain ⟨h50, h⟩ := h
      refine r_iald x_154_228 hA49 hv7 h50.1 h50.2 ?_
      refine r_aload_n x_154_229 rfl ?_
      obtain ⟨b51, hb52, h⟩ := h
      refine r_getR x_154_230 rfl (ci := 9) (k := 2) (ns := 0) (by decide +kernel) (by decide) rfl (kz := 2) rfl hO1 hb52 ?_
      obtain ⟨hO53, h⟩ := h
      obtain ⟨b54, hb55, h⟩ := h
      refine r_getR x_154_233 rfl (ci := 5) (k := 2) (ns := 1) (by decide +kernel) (by decide) rfl (kz := 2) rfl hO53 hb55 ?_
      refine r_iload x_154_236 rfl ?_
      obtain ⟨n56, hA57, h⟩ := h
      obtain ⟨h58, h⟩ := h
      refine r_iald x_154_238 hA57 hv7 h58.1 h58.2 ?_
      refine r_invS x_154_239 (z := 114) (ns := 1) (by decide +kernel) (as := [.ref b36, g_n v6, .ref b41, g_n (g_i M33 b46 v7), g_n (g_i M33 b54 v7)]) (r := []) rfl rfl rfl ?_
      refine r_callI h fun r62 M59 hx60 hok61 hr63 h => ?_
      replace h := h hx60 hok61 hr63
      replace hO1 := hO1.up hx60
      replace hO4 := hO4.up hx60
      replace hO32 := hO32.up hx60
      replace hO40 := hO40.up hx60
      replace hO45 := hO45.up hx60
      replace hO53 := hO53.up hx60
      replace hA49 := hA49.up hx60
      replace hA57 := hA57.up hx60
      refine r_istore x_154_242 (by decide +kernel) rfl (lv1 := [(0, .ref a0), (1, g_n v1), (2, g_n v2), (3, g_n v3), (4, g_n v4), (5, g_n v5), (6, g_n r62), (7, g_n v7), (8, g_n r18)]) rfl ?_
      obtain ⟨h64, h⟩ := h
      refine r_iinc x_154_244 (by decide +kernel) rfl rfl (lv1 := [(0, .ref a0), (1, g_n v1), (2, g_n v2), (3, g_n v3), (4, g_n v4), (5, g_n v5), (6, g_n r62), (7, g_n (v7 + 1)), (8, g_n r18)]) rfl ?_
      refine r_goto x_154_247 (t := 152) (by decide +kernel) ?_
      refine g_drop [0, 1, 2, 3, 4, 5, 6, 7] (lv1 := [(0, .ref a0), (1, g_n v1), (2, g_n v2), (3, g_n v3), (4, g_n v4), (5, g_n v5), (6, g_n r62), (7, g_n (v7 + 1))]) rfl ?_
      exact h
theorem m_X9_accumulatorOf {d : Nat} {M : g_M} {Q : Int → g_M → Prop} {a0 : Nat} {v1 : Int} (hv1 : g_InR v1) (h : g_ok M → g_Call d 115 [.ref a0, g_n v1, .ref (4 * 49 + 1)] M (g_qI fun r4 M1 => g_ext M M1 → g_ok M1 → g_InR r4 → ((r4 = 0 → g_Call d 115 [.ref a0, g_n v1, .ref (4 * 50 + 1)] M1 (g_qI fun r9 M6 => g_ext M1 M6 → g_ok M6 → g_InR r9 → ((r9 = 0 → g_Call d 115 [.ref a0, g_n v1, .ref (4 * 51 + 1)] M6 (g_qI fun r14 M11 => g_ext M6 M11 → g_ok M11 → g_InR r14 → ((r14 = 0 → g_Call d 115 [.ref a0, g_n v1, .ref (4 * 52 + 1)] M11 (g_qI fun r19 M16 => g_ext M11 M16 → g_ok M16 → g_InR r19 → ((r19 = 0 → g_Call d 115 [.ref a0, g_n v1, .ref (4 * 53 + 1)] M16 (g_qI fun r24 M21 => g_ext M16 M21 → g_ok M21 → g_InR r24 → ((r24 = 0 → g_Call d 115 [.ref a0, g_n v1, .ref (4 * 54 + 1)] M21 (g_qI fun r29 M26 => g_ext M21 M26 → g_ok M26 → g_InR r29 → ((r29 = 0 → g_Call d 115 [.ref a0, g_n v1, .ref (4 * 55 + 1)] M26 (g_qI fun r34 M31 => g_ext M26 M31 → g_ok M31 → g_InR r34 → ((r34 = 0 → g_Call d 115 [.ref a0, g_n v1, .ref (4 * 56 + 1)] M31 (g_qI fun r39 M36 => g_ext M31 M36 → g_ok M36 → g_InR r39 → ((r39 = 0 → Q 0 M36) ∧ (¬ r39 = 0 → Q 8 M36)))) ∧ (¬ r34 = 0 → Q 7 M31)))) ∧ (¬ r29 = 0 → Q 6 M26)))) ∧ (¬ r24 = 0 → Q 5 M21)))) ∧ (¬ r19 = 0 → Q 4 M16)))) ∧ (¬ r14 = 0 → Q 3 M11)))) ∧ (¬ r9 = 0 → Q 2 M6)))) ∧ (¬ r4 = 0 → Q 1 M1)))) : g_Call (d + 1) 155 [.ref a0, g_n v1] M (g_qI Q) := by
  refine g_Call.ok fun hok0 => ?_
  replace h := h hok0
  refine r_body rfl (lv := [(0, .ref a0), (1, g_n v1)]) rfl ?_
  refine g_Run.ok fun hok => ?_
  refine r_aload_n x_155_0 rfl ?_
  refine r_iload_n x_155_1 rfl ?_
  refine r_ldcw x_155_2 (v := .ref (4 * 49 + 1)) rfl ?_
  refine r_invS x_155_5 (z := 115) (ns := 1) (by decide +kernel) (as := [.ref a0, g_n v1, .ref (4 * 49 + 1)]) (r := []) rfl rfl rfl ?_
  refine r_callI h fun r4 M1 hx2 hok3 hr5 h => ?_
  replace h := h hx2 hok3 hr5
  refine r_if_eq x_155_8 (t := 15) (by decide +kernel) hr5 (fun hc => ?_) (fun hc => ?_)
  · replace h := h.1 hc
    refine r_aload_n x_155_15 rfl ?_
    refine r_iload_n x_155_16 rfl ?_
    refine r_ldcw x_155_17 (v := .ref (4 * 50 + 1)) rfl ?_
    refine r_invS x_155_20 (z := 115) (ns := 1) (by decide +kernel) (as := [.ref a0, g_n v1, .ref (4 * 50 + 1)]) (r := []) rfl rfl rfl ?_
    refine r_callI h fun r9 M6 hx7 hok8 hr10 h => ?_
    replace h := h hx7 hok8 hr10
    refine r_if_eq x_155_23 (t := 30) (by decide +kernel) hr10 (fun hc => ?_) (fun hc => ?_)
    · replace h := h.1 hc
      refine r_aload_n x_155_30 rfl ?_
      refine r_iload_n x_155_31 rfl ?_
      refine r_ldcw x_155_32 (v := .ref (4 * 51 + 1)) rfl ?_
      refine r_invS x_155_35 (z := 115) (ns := 1) (by decide +kernel) (as := [.ref a0, g_n v1, .ref (4 * 51 + 1)]) (r := []) rfl rfl rfl ?_
      refine r_callI h fun r14 M11 hx12 hok13 hr15 h => ?_
      replace h := h hx12 hok13 hr15
      refine r_if_eq x_155_38 (t := 45) (by decide +kernel) hr15 (fun hc => ?_) (fun hc => ?_)
      · replace h := h.1 hc
        refine r_aload_n x_155_45 rfl ?_
        refine r_iload_n x_155_46 rfl ?_
        refine r_ldcw x_155_47 (v := .ref (4 * 52 + 1)) rfl ?_
        refine r_invS x_155_50 (z := 115) (ns := 1) (by decide +kernel) (as := [.ref a0, g_n v1, .ref (4 * 52 + 1)]) (r := []) rfl rfl rfl ?_
        refine r_callI h fun r19 M16 hx17 hok18 hr20 h => ?_
        replace h := h hx17 hok18 hr20
        refine r_if_eq x_155_53 (t := 60) (by decide +kernel) hr20 (fun hc => ?_) (fun hc => ?_)
        · replace h := h.1 hc
          refine r_aload_n x_155_60 rfl ?_
          refine r_iload_n x_155_61 rfl ?_
          refine r_ldcw x_155_62 (v := .ref (4 * 53 + 1)) rfl ?_
          refine r_invS x_155_65 (z := 115) (ns := 1) (by decide +kernel) (as := [.ref a0, g_n v1, .ref (4 * 53 + 1)]) (r := []) rfl rfl rfl ?_
          refine r_callI h fun r24 M21 hx22 hok23 hr25 h => ?_
          replace h := h hx22 hok23 hr25
          refine r_if_eq x_155_68 (t := 75) (by decide +kernel) hr25 (fun hc => ?_) (fun hc => ?_)
          · replace h := h.1 hc
            refine r_aload_n x_155_75 rfl ?_
            refine r_iload_n x_155_76 rfl ?_
            refine r_ldcw x_155_77 (v := .ref (4 * 54 + 1)) rfl ?_
            refine r_invS x_155_80 (z := 115) (ns := 1) (by decide +kernel) (as := [.ref a0, g_n v1, .ref (4 * 54 + 1)]) (r := []) rfl rfl rfl ?_
            refine r_callI h fun r29 M26 hx27 hok28 hr30 h => ?_
            replace h := h hx27 hok28 hr30
            refine r_if_eq x_155_83 (t := 91) (by decide +kernel) hr30 (fun hc => ?_) (fun hc => ?_)
            · replace h := h.1 hc
              refine r_aload_n x_155_91 rfl ?_
              refine r_iload_n x_155_92 rfl ?_
              refine r_ldcw x_155_93 (v := .ref (4 * 55 + 1)) rfl ?_
              refine r_invS x_155_96 (z := 115) (ns := 1) (by decide +kernel) (as := [.ref a0, g_n v1, .ref (4 * 55 + 1)]) (r := []) rfl rfl rfl ?_
              refine r_callI h fun r34 M31 hx32 hok33 hr35 h => ?_
              replace h := h hx32 hok33 hr35
              refine r_if_eq x_155_99 (t := 107) (by decide +kernel) hr35 (fun hc => ?_) (fun hc => ?_)
              · replace h := h.1 hc
                refine r_aload_n x_155_107 rfl ?_
                refine r_iload_n x_155_108 rfl ?_
                refine r_ldcw x_155_109 (v := .ref (4 * 56 + 1)) rfl ?_
                refine r_invS x_155_112 (z := 115) (ns := 1) (by decide +kernel) (as := [.ref a0, g_n v1, .ref (4 * 56 + 1)]) (r := []) rfl rfl rfl ?_
                refine r_callI h fun r39 M36 hx37 hok38 hr40 h => ?_
                replace h := h hx37 hok38 hr40
                refine r_if_eq x_155_115 (t := 123) (by decide +kernel) hr40 (fun hc => ?_) (fun hc => ?_)
                · replace h := h.1 hc
                  refine r_iconst x_155_123 ?_
                  exact r_retI x_155_124 rfl (g_Rk rfl) h
                · replace h := h.2 hc
                  refine r_bipush x_155_118 (x := 8) rfl ?_
                  refine r_goto x_155_120 (t := 124) (by decide +kernel) ?_
                  exact r_retI x_155_124 rfl (g_Rk rfl) h
              · replace h := h.2 hc
                refine r_bipush x_155_102 (x := 7) rfl ?_
                refine r_goto x_155_104 (t := 124) (by decide +kernel) ?_
                exact r_retI x_155_124 rfl (g_Rk rfl) h
            · replace h := h.2 hc
              refine r_bipush x_155_86 (x := 6) rfl ?_
              refine r_goto x_155_88 (t := 124) (by decide +kernel) ?_
              exact r_retI x_155_124 rfl (g_Rk rfl) h
          · replace h := h.2 hc
            refine r_iconst x_155_71 ?_
            refine r_goto x_155_72 (t := 124) (by decide +kernel) ?_
            exact r_retI x_155_124 rfl (g_Rk rfl) h
        · replace h := h.2 hc
          refine r_iconst x_155_56 ?_
          refine r_goto x_155_57 (t := 124) (by decide +kernel) ?_
          exact r_retI x_155_124 rfl (g_Rk rfl) h
      · replace h := h.2 hc
        refine r_iconst x_155_41 ?_
        refine r_goto x_155_42 (t := 124) (by decide +kernel) ?_
        exact r_retI x_155_124 rfl (g_Rk rfl) h
    · replace h := h.2 hc
      refine r_iconst x_155_26 ?_
      refine r_goto x_155_27 (t := 124) (by decide +kernel) ?_
      exact r_retI x_155_124 rfl (g_Rk rfl) h
  · replace h := h.2 hc
    refine r_iconst x_155_11 ?_
    refine r_goto x_155_12 (t := 124) (by decide +kernel) ?_
    exact r_retI x_155_124 rfl (g_Rk rfl) h
theorem m_X9_wrongInGroup {d : Nat} {M : g_M} {Q : Int → g_M → Prop} {a0 : Nat} {v1 : Int} (hv1 : g_InR v1) (h : g_ok M → g_O M a0 9 ∧ ∃ b2, g_r M a0 1 = some b2 ∧ g_Call d 112 [.ref b2, g_n v1] M (g_qI fun r7 M4 => g_ext M M4 → g_ok M4 → g_InR r7 → ∃ b9, g_r M4 a0 1 = some b9 ∧ g_Call d 108 [.ref b9, g_n v1] M4 (g_qI fun r14 M11 => g_ext M4 M11 → g_ok M11 → g_InR r14 → ((r14 = 3 → ∃ b16, g_r M11 a0 1 = some b16 ∧ g_Call d 108 [.ref b16, g_n r7] M11 (g_qI fun r21 M18 => g_ext M11 M18 → g_ok M18 → g_InR r21 → ((r21 = 0 → Q 2 M18) ∧ (¬ r21 = 0 → ∃ b23, g_r M18 a0 1 = some b23 ∧ g_Call d 115 [.ref b23, g_n r7, .ref (4 * 48 + 1)] M18 (g_qI fun r28 M25 => g_ext M18 M25 → g_ok M25 → g_InR r28 → ((r28 = 0 → Q 2 M25) ∧ (¬ r28 = 0 → g_Call d 148 [.ref a0, g_n r7] M25 (g_qI fun r33 M30 => g_ext M25 M30 → g_ok M30 → g_InR r33 → ((r33 = 0 → ∃ b35, g_r M30 a0 1 = some b35 ∧ g_Call d 111 [.ref b35, g_n r7] M30 (g_qI fun r40 M37 => g_ext M30 M37 → g_ok M37 → g_InR r40 → g_Run d 156 69 [(0, .ref a0), (1, g_n v1), (2, g_n r40), (3, g_n 0)] [] M37 (g_qI Q))) ∧ (¬ r33 = 0 → Q 3 M30)))))))))) ∧ (¬ r14 = 3 → Q 2 M11))))) : g_Call (d + 1) 156 [.ref a0, g_n v1] M (g_qI Q) := by
  refine g_Call.ok fun hok0 => ?_
  replace h := h hok0
  refine r_body rfl (lv := [(0, .ref a0), (1, g_n v1)]) rfl ?_
  refine g_Run.ok fun hok => ?_
  refine r_aload_n x_156_0 rfl ?_
  obtain ⟨hO1, h⟩ := h
  obtain ⟨b2, hb3, h⟩ := h
  refine r_getR x_156_1 rfl (ci := 9) (k := 1) (ns := 0) (by decide +kernel) (by decide) rfl (kz := 1) rfl hO1 hb3 ?_
  refine r_iload_n x_156_4 rfl ?_
  refine r_invS x_156_5 (z := 112) (ns := 1) (by decide +kernel) (as := [.ref b2, g_n v1]) (r := []) rfl rfl rfl ?_
  refine r_callI h fun r7 M4 hx5 hok6 hr8 h => ?_
  replace h := h hx5 hok6 hr8
  replace hO1 := hO1.up hx5
  refine r_istore_n x_156_8 (by decide +kernel) rfl (lv1 := [(0, .ref a0), (1, g_n v1), (2, g_n r7)]) rfl ?_
  refine r_aload_n x_156_9 rfl ?_
  obtain ⟨b9, hb10, h⟩ := h
  refine r_getR x_156_10 rfl (ci := 9) (k := 1) (ns := 0) (by decide +kernel) (by decide) rfl (kz := 1) rfl hO1 hb10 ?_
  refine r_iload_n x_156_13 rfl ?_
  refine r_invS x_156_14 (z := 108) (ns := 1) (by decide +kernel) (as := [.ref b9, g_n v1]) (r := []) rfl rfl rfl ?_
  refine r_callI h fun r14 M11 hx12 hok13 hr15 h => ?_
  replace h := h hx12 hok13 hr15
  replace hO1 := hO1.up hx12
  refine r_iconst x_156_17 ?_
  refine r_ic_ne x_156_18 (t := 46) (by decide +kernel) hr15 (g_Rk rfl) (fun hc => ?_) (fun hc => ?_)
  · replace h := h.2 hc
    refine r_iconst x_156_46 ?_
    exact r_retI x_156_47 rfl (g_Rk rfl) h
  · replace h := h.1 hc
    refine r_aload_n x_156_21 rfl ?_
    obtain ⟨b16, hb17, h⟩ := h
    refine r_getR x_156_22 rfl (ci := 9) (k := 1) (ns := 0) (by decide +kernel) (by decide) rfl (kz := 1) rfl hO1 hb17 ?_
    refine r_iload_n x_156_25 rfl ?_
    refine r_invS x_156_26 (z := 108) (ns := 1) (by decide +kernel) (as := [.ref b16, g_n r7]) (r := []) rfl rfl rfl ?_
    refine r_callI h fun r21 M18 hx19 hok20 hr22 h => ?_
    replace h := h hx19 hok20 hr22
    replace hO1 := hO1.up hx19
    refine r_if_eq x_156_29 (t := 46) (by decide +kernel) hr22 (fun hc => ?_) (fun hc => ?_)
    · replace h := h.1 hc
      refine r_iconst x_156_46 ?_
      exact r_retI x_156_47 rfl (g_Rk rfl) h
    · replace h := h.2 hc
      refine r_aload_n x_156_32 rfl ?_
      obtain ⟨b23, hb24, h⟩ := h
      refine r_getR x_156_33 rfl (ci := 9) (k := 1) (ns := 0) (by decide +kernel) (by decide) rfl (kz := 1) rfl hO1 hb24 ?_
      refine r_iload_n x_156_36 rfl ?_
      refine r_ldcw x_156_37 (v := .ref (4 * 48 + 1)) rfl ?_
      refine r_invS x_156_40 (z := 115) (ns := 1) (by decide +kernel) (as := [.ref b23, g_n r7, .ref (4 * 48 + 1)]) (r := []) rfl rfl rfl ?_
      refine r_callI h fun r28 M25 hx26 hok27 hr29 h => ?_
      replace h := h hx26 hok27 hr29
      replace hO1 := hO1.up hx26
      refine r_if_ne x_156_43 (t := 48) (by decide +kernel) hr29 (fun hc => ?_) (fun hc => ?_)
      · replace h := h.2 hc
        refine r_aload_n x_156_48 rfl ?_
        refine r_iload_n x_156_49 rfl ?_
        refine r_invV x_156_50 (z := 148) (ns := 0) (by decide +kernel) (as := [g_n r7]) (r := []) rfl rfl rfl hO1 rfl rfl ?_
        refine r_callI h fun r33 M30 hx31 hok32 hr34 h => ?_
        replace h := h hx31 hok32 hr34
        replace hO1 := hO1.up hx31
        refine r_if_eq x_156_53 (t := 58) (by decide +kernel) hr34 (fun hc => ?_) (fun hc => ?_)
        · replace h := h.1 hc
          refine r_aload_n x_156_58 rfl ?_
          obtain ⟨b35, hb36, h⟩ := h
          refine r_getR x_156_59 rfl (ci := 9) (k := 1) (ns := 0) (by decide +kernel) (by decide) rfl (kz := 1) rfl hO1 hb36 ?_
          refine r_iload_n x_156_62 rfl ?_
          refine r_invS x_156_63 (z := 111) (ns := 1) (by decide +kernel) (as := [.ref b35, g_n r7]) (r := []) rfl rfl rfl ?_
          refine r_callI h fun r40 M37 hx38 hok39 hr41 h => ?_
          replace h := h hx38 hok39 hr41
          replace hO1 := hO1.up hx38
          refine r_istore_n x_156_66 (by decide +kernel) rfl (lv1 := [(0, .ref a0), (1, g_n v1), (2, g_n r40)]) rfl ?_
          refine r_iconst x_156_67 ?_
          refine r_istore_n x_156_68 (by decide +kernel) rfl (lv1 := [(0, .ref a0), (1, g_n v1), (2, g_n r40), (3, g_n 0)]) rfl ?_
          exact h
        · replace h := h.2 hc
          refine r_iconst x_156_56 ?_
          exact r_retI x_156_57 rfl (g_Rk rfl) h
      · replace h := h.1 hc
        refine r_iconst x_156_46 ?_
        exact r_retI x_156_47 rfl (g_Rk rfl) h
theorem s_X9_wrongInGroup_69 {d : Nat} {M : g_M} {Q : Int → g_M → Prop} {a0 : Nat} {v1 : Int} (hv1 : g_InR v1) {v2 : Int} (hv2 : g_InR v2) {v3 : Int} (hv3 : g_InR v3) (h : g_ok M → ((v3 < 2000 → g_O M a0 9 ∧ ∃ b2, g_r M a0 1 = some b2 ∧ g_Call d 108 [.ref b2, g_n v2] M (g_qI fun r7 M4 => g_ext M M4 → g_ok M4 → g_InR r7 → ((r7 = 0 → Q 0 M4) ∧ (¬ r7 = 0 → ∃ b9, g_r M4 a0 1 = some b9 ∧ g_Call d 112 [.ref b9, g_n v2] M4 (g_qI fun r14 M11 => g_ext M4 M11 → g_ok M11 → g_InR r14 → g_Call d 146 [.ref a0, g_n v2] M11 (g_qI fun r19 M16 => g_ext M11 M16 → g_ok M16 → g_InR r19 → ((r19 = 0 → Q 2 M16) ∧ (¬ r19 = 0 → ∃ b21, g_r M16 a0 1 = some b21 ∧ g_Call d 108 [.ref b21, g_n v2] M16 (g_qI fun r26 M23 => g_ext M16 M23 → g_ok M23 → g_InR r26 → ((r26 = 3 → ∃ b28, g_r M23 a0 1 = some b28 ∧ g_Call d 108 [.ref b28, g_n r14] M23 (g_qI fun r33 M30 => g_ext M23 M30 → g_ok M30 → g_InR r33 → ((r33 = 0 → Q 2 M30) ∧ (¬ r33 = 0 → ∃ b35, g_r M30 a0 1 = some b35 ∧ ∃ b37, g_r M30 a0 1 = some b37 ∧ g_Call d 111 [.ref b37, g_n r14] M30 (g_qI fun r42 M39 => g_ext M30 M39 → g_ok M39 → g_InR r42 → g_Call d 108 [.ref b35, g_n r42] M39 (g_qI fun r47 M44 => g_ext M39 M44 → g_ok M44 → g_InR r47 → ((r47 = 0 → ∃ b49, g_r M44 a0 1 = some b49 ∧ g_Call d 155 [.ref b49, g_n r14] M44 (g_qI fun r54 M51 => g_ext M44 M51 → g_ok M51 → g_InR r54 → ((r54 = 0 → Q 2 M51) ∧ (¬ r54 = 0 → ((r54 = 1 → ∃ b56, g_r M51 a0 1 = some b56 ∧ g_Call d 108 [.ref b56, g_n r14] M51 (g_qI fun r61 M58 => g_ext M51 M58 → g_ok M58 → g_InR r61 → ((r61 = 10 → g_Run d 156 188 [(0, .ref a0), (1, g_n v1), (2, g_n v2), (3, g_n v3), (4, g_n r14), (5, g_n r54)] [] M58 (g_qI Q)) ∧ (¬ r61 = 10 → Q 2 M58)))) ∧ (¬ r54 = 1 → g_Run d 156 188 [(0, .ref a0), (1, g_n v1), (2, g_n v2), (3, g_n v3), (4, g_n r14), (5, g_n r54)] [] M51 (g_qI Q))))))) ∧ (¬ r47 = 0 → Q 2 M44)))))))) ∧ (¬ r26 = 3 → Q 2 M23))))))))))) ∧ (¬ v3 < 2000 → Q 0 M))) : g_Run d 156 69 [(0, .ref a0), (1, g_n v1), (2, g_n v2), (3, g_n v3)] [] M (g_qI Q) := by
  refine g_Run.ok fun hok => ?_
  replace h := h hok
  refine r_iload_n x_156_69 rfl ?_
  refine r_sipush x_156_70 (x := 2000) rfl ?_
  refine r_ic_ge x_156_73 (t := 214) (by decide +kernel) hv3 (g_Rk rfl) (fun hc => ?_) (fun hc => ?_)
  · replace h := h.2 hc
    refine r_iconst x_156_214 ?_
    exact r_retI x_156_215 rfl (g_Rk rfl) h
  · replace h := h.1 hc
    refine r_aload_n x_156_76 rfl ?_
    obtain ⟨hO1, h⟩ := h
    obtain ⟨b2, hb3, h⟩ := h
    refine r_getR x_156_77 rfl (ci := 9) (k := 1) (ns := 0) (by decide +kernel) (by decide) rfl (kz := 1) rfl hO1 hb3 ?_
    refine r_iload_n x_156_80 rfl ?_
    refine r_invS x_156_81 (z := 108) (ns := 1) (by decide +kernel) (as := [.ref b2, g_n v2]) (r := []) rfl rfl rfl ?_
    refine r_callI h fun r7 M4 hx5 hok6 hr8 h => ?_
    replace h := h hx5 hok6 hr8
    replace hO1 := hO1.up hx5
    refine r_if_eq x_156_84 (t := 214) (by decide +kernel) hr8 (fun hc => ?_) (fun hc => ?_)
    · replace h := h.1 hc
      refine r_iconst x_156_214 ?_
      exact r_retI x_156_215 rfl (g_Rk rfl) h
    · replace h := h.2 hc
      refine r_aload_n x_156_87 rfl ?_
      obtain ⟨b9, hb10, h⟩ := h
      refine r_getR x_156_88 rfl (ci := 9) (k := 1) (ns := 0) (by decide +kernel) (by decide) rfl (kz := 1) rfl hO1 hb10 ?_
      refine r_iload_n x_156_91 rfl ?_
      refine r_invS x_156_92 (z := 112) (ns := 1) (by decide +kernel) (as := [.ref b9, g_n v2]) (r := []) rfl rfl rfl ?_
      refine r_callI h fun r14 M11 hx12 hok13 hr15 h => ?_
      replace h := h hx12 hok13 hr15
      replace hO1 := hO1.up hx12
      refine r_istore x_156_95 (by decide +kernel) rfl (lv1 := [(0, .ref a0), (1, g_n v1), (2, g_n v2), (3, g_n v3), (4, g_n r14)]) rfl ?_
      refine r_aload_n x_156_97 rfl ?_
      refine r_iload_n x_156_98 rfl ?_
      refine r_invV x_156_99 (z := 146) (ns := 0) (by decide +kernel) (as := [g_n v2]) (r := []) rfl rfl rfl hO1 rfl rfl ?_
      refine r_callI h fun r19 M16 hx17 hok18 hr20 h => ?_
      replace h := h hx17 hok18 hr20
      replace hO1 := hO1.up hx17
      refine r_if_eq x_156_102 (t := 148) (by decide +kernel) hr20 (fun hc => ?_) (fun hc => ?_)
      · replace h := h.1 hc
        refine r_iconst x_156_148 ?_
        exact r_retI x_156_149 rfl (g_Rk rfl) h
      · replace h := h.2 hc
        refine r_aload_n x_156_105 rfl ?_
        obtain ⟨b21, hb22, h⟩ := h
        refine r_getR x_156_106 rfl (ci := 9) (k := 1) (ns := 0) (by decide +kernel) (by decide) rfl (kz := 1) rfl hO1 hb22 ?_
        refine r_iload_n x_156_109 rfl ?_
        refine r_invS x_156_110 (z := 108) (ns := 1) (by decide +kernel) (as := [.ref b21, g_n v2]) (r := []) rfl rfl rfl ?_
        refine r_callI h fun r26 M23 hx24 hok25 hr27 h => ?_
        replace h := h hx24 hok25 hr27
        replace hO1 := hO1.up hx24
        refine r_iconst x_156_113 ?_
        refine r_ic_ne x_156_114 (t := 148) (by decide +kernel) hr27 (g_Rk rfl) (fun hc => ?_) (fun hc => ?_)
        · replace h := h.2 hc
          refine r_iconst x_156_148 ?_
          exact r_retI x_156_149 rfl (g_Rk rfl) h
        · replace h := h.1 hc
          refine r_aload_n x_156_117 rfl ?_
          obtain ⟨b28, hb29, h⟩ := h
          refine r_getR x_156_118 rfl (ci := 9) (k := 1) (ns := 0) (by decide +kernel) (by decide) rfl (kz := 1) rfl hO1 hb29 ?_
          refine r_iload x_156_121 rfl ?_
          refine r_invS x_156_123 (z := 108) (ns := 1) (by decide +kernel) (as := [.ref b28, g_n r14]) (r := []) rfl rfl rfl ?_
          refine r_callI h fun r33 M30 hx31 hok32 hr34 h => ?_
          replace h := h hx31 hok32 hr34
          replace hO1 := hO1.up hx31
          refine r_if_eq x_156_126 (t := 148) (by decide +kernel) hr34 (fun hc => ?_) (fun hc => ?_)
          · replace h := h.1 hc
            refine r_iconst x_156_148 ?_
            exact r_retI x_156_149 rfl (g_Rk rfl) h
          · replace h := h.2 hc
            refine r_aload_n x_156_129 rfl ?_
            obtain ⟨b35, hb36, h⟩ := h
            refine r_getR x_156_130 rfl (ci := 9) (k := 1) (ns := 0) (by decide +kernel) (by decide) rfl (kz := 1) rfl hO1 hb36 ?_
            refine r_aload_n x_156_133 rfl ?_
            obtain ⟨b37, hb38, h⟩ := h
            refine r_getR x_156_134 rfl (ci := 9) (k := 1) (ns := 0) (by decide +kernel) (by decide) rfl (kz := 1) rfl hO1 hb38 ?_
            refine r_iload x_156_137 rfl ?_
            refine r_invS x_156_139 (z := 111) (ns := 1) (by decide +kernel) (as := [.ref b37, g_n r14]) (r := [.ref b35]) rfl rfl rfl ?_
            refine r_callI h fun r42 M39 hx40 hok41 hr43 h => ?_
            replace h := h hx40 hok41 hr43
            replace hO1 := hO1.up hx40
            refine r_invS x_156_142 (z := 108) (ns := 1) (by decide +kernel) (as := [.ref b35, g_n r42]) (r := []) rfl rfl rfl ?_
            refine r_callI h fun r47 M44 hx45 hok46 hr48 h => ?_
            replace h := h hx45 hok46 hr48
            replace hO1 := hO1.up hx45
            refine r_if_eq x_156_145 (t := 150) (by decide +kernel) hr48 (fun hc => ?_) (fun hc => ?_)
            · replace h := h.1 hc
              refine r_aload_n x_156_150 rfl ?_
              obtain ⟨b49, hb50, h⟩ := h
              refine r_getR x_156_151 rfl (ci := 9) (k := 1) (ns := 0) (by decide +kernel) (by decide) rfl (kz := 1) rfl hO1 hb50 ?_
              refine r_iload x_156_154 rfl ?_
              refine r_invS x_156_156 (z := 155) (ns := 0) (by decide +kernel) (as := [.ref b49, g_n r14]) (r := []) rfl rfl rfl ?_
              refine r_callI h fun r54 M51 hx52 hok53 hr55 h => ?_
              replace h := h hx52 hok53 hr55
              replace hO1 := hO1.up hx52
              refine r_istore x_156_159 (by decide +kernel) rfl (lv1 := [(0, .ref a0), (1, g_n v1), (2, g_n v2), (3, g_n v3), (4, g_n r14), (5, g_n r54)]) rfl ?_
              refine r_iload x_156_161 rfl ?_
              refine r_if_eq x_156_163 (t := 186) (by decide +kernel) hr55 (fun hc => ?_) (fun hc => ?_)
              · replace h := h.1 hc
                refine r_iconst x_156_186 ?_
                exact r_retI x_156_187 rfl (g_Rk rfl) h
              · replace h := h.2 hc
                refine r_iload x_156_166 rfl ?_
                refine r_iconst x_156_168 ?_
                refine r_ic_ne x_156_169 (t := 188) (by decide +kernel) hr55 (g_Rk rfl) (fun hc => ?_) (fun hc => ?_)
                · replace h := h.2 hc
                  exact h
                · replace h := h.1 hc
                  refine r_aload_n x_156_172 rfl ?_
                  obtain ⟨b56, hb57, h⟩ := h
                  refine r_getR x_156_173 rfl (ci := 9) (k := 1) (ns := 0) (by decide +kernel) (by decide) rfl (kz := 1) rfl hO1 hb57 ?_
                  refine r_iload x_156_176 rfl ?_
                  refine r_invS x_156_178 (z := 108) (ns := 1) (by decide +kernel) (as := [.ref b56, g_n r14]) (r := []) rfl rfl rfl ?_
                  refine r_callI h fun r61 M58 hx59 hok60 hr62 h => ?_
                  replace h := h hx59 hok60 hr62
                  replace hO1 := hO1.up hx59
                  refine r_bipush x_156_181 (x := 10) rfl ?_
                  refine r_ic_eq x_156_183 (t := 188) (by decide +kernel) hr62 (g_Rk rfl) (fun hc => ?_) (fun hc => ?_)
                  · replace h := h.1 hc
                    exact h
                  · replace h := h.2 hc
                    refine r_iconst x_156_186 ?_
                    exact r_retI x_156_187 rfl (g_Rk rfl) h
            · replace h := h.2 hc
              refine r_iconst x_156_148 ?_
              exact r_retI x_156_149 rfl (g_Rk rfl) h
theorem s_X9_wrongInGroup_188 {d : Nat} {M : g_M} {Q : Int → g_M → Prop} {a0 : Nat} {v1 : Int} (hv1 : g_InR v1) {v2 : Int} (hv2 : g_InR v2) {v3 : Int} (hv3 : g_InR v3) {v4 : Int} (hv4 : g_InR v4) {v5 : Int} (hv5 : g_InR v5) (h : g_ok M → g_O M a0 9 ∧ g_Call d 148 [.ref a0, g_n v4] M (g_qI fun r5 M2 => g_ext M M2 → g_ok M2 → g_InR r5 → ((r5 = 0 → ∃ b7, g_r M2 a0 1 = some b7 ∧ g_Call d 111 [.ref b7, g_n v2] M2 (g_qI fun r12 M9 => g_ext M2 M9 → g_ok M9 → g_InR r12 → g_InR (v3 + 1) ∧ g_Run d 156 69 [(0, .ref a0), (1, g_n v1), (2, g_n r12), (3, g_n (v3 + 1))] [] M9 (g_qI Q))) ∧ (¬ r5 = 0 → Q 3 M2)))) : g_Run d 156 188 [(0, .ref a0), (1, g_n v1), (2, g_n v2), (3, g_n v3), (4, g_n v4), (5, g_n v5)] [] M (g_qI Q) := by
  refine g_Run.ok fun hok => ?_
  replace h := h hok
  refine r_aload_n x_156_188 rfl ?_
  refine r_iload x_156_189 rfl ?_
  obtain ⟨hO1, h⟩ := h
  refine r_invV x_156_191 (z := 148) (ns := 0) (by decide +kernel) (as := [g_n v4]) (r := []) rfl rfl rfl hO1 rfl rfl ?_
  refine r_callI h fun r5 M2 hx3 hok4 hr6 h => ?_
  replace h := h hx3 hok4 hr6
  replace hO1 := hO1.up hx3
  refine r_if_eq x_156_194 (t := 199) (by decide +kernel) hr6 (fun hc => ?_) (fun hc => ?_)
  · replace h := h.1 hc
    refine r_aload_n x_156_199 rfl ?_
    obtain ⟨b7, hb8, h⟩ := h
    refine r_getR x_156_200 rfl (ci := 9) (k := 1) (ns := 0) (by decide +kernel) (by decide) rfl (kz := 1) rfl hO1 hb8 ?_
    refine r_iload_n x_156_203 rfl ?_
    refine r_invS x_156_204 (z := 111) (ns := 1) (by decide +kernel) (as := [.ref b7, g_n v2]) (r := []) rfl rfl rfl ?_
    refine r_callI h fun r12 M9 hx10 hok11 hr13 h => ?_
    replace h := h hx10 hok11 hr13
    replace hO1 := hO1.up hx10
    refine r_istore_n x_156_207 (by decide +kernel) rfl (lv1 := [(0, .ref a0), (1, g_n v1), (2, g_n r12), (3, g_n v3), (4, g_n v4), (5, g_n v5)]) rfl ?_
    obtain ⟨h14, h⟩ := h
    refine r_iinc x_156_208 (by decide +kernel) rfl rfl (lv1 := [(0, .ref a0), (1, g_n v1), (2, g_n r12), (3, g_n (v3 + 1)), (4, g_n v4), (5, g_n v5)]) rfl ?_
    refine r_goto x_156_211 (t := 69) (by decide +kernel) ?_
    refine g_drop [0, 1, 2, 3] (lv1 := [(0, .ref a0), (1, g_n v1), (2, g_n r12), (3, g_n (v3 + 1))]) rfl ?_
    exact h
  · replace h := h.2 hc
    refine r_iconst x_156_197 ?_
    exact r_retI x_156_198 rfl (g_Rk rfl) h
theorem m_X9_group {d : Nat} {M : g_M} {Q : Int → g_M → Prop} {a0 : Nat} {v1 : Int} (hv1 : g_InR v1) (h : g_ok M → g_O M a0 9 ∧ g_Call d 156 [.ref a0, g_n v1] M (g_qI fun r5 M2 => g_ext M M2 → g_ok M2 → g_InR r5 → ((r5 = 0 → g_Call d 140 [.ref a0] M2 (g_qV fun M7 => g_ext M2 M7 → g_ok M7 → ∃ b10, g_r M7 a0 1 = some b10 ∧ g_Call d 112 [.ref b10, g_n v1] M7 (g_qI fun r15 M12 => g_ext M7 M12 → g_ok M12 → g_InR r15 → g_Run d 157 28 [(0, .ref a0), (1, g_n v1), (2, g_n r5), (3, g_n r15), (4, g_n 0)] [] M12 (g_qI Q)))) ∧ (¬ r5 = 0 → Q r5 M2)))) : g_Call (d + 1) 157 [.ref a0, g_n v1] M (g_qI Q) := by
  refine g_Call.ok fun hok0 => ?_
  replace h := h hok0
  refine r_body rfl (lv := [(0, .ref a0), (1, g_n v1)]) rfl ?_
  refine g_Run.ok fun hok => ?_
  refine r_aload_n x_157_0 rfl ?_
  refine r_iload_n x_157_1 rfl ?_
  obtain ⟨hO1, h⟩ := h
  refine r_invV x_157_2 (z := 156) (ns := 0) (by decide +kernel) (as := [g_n v1]) (r := []) rfl rfl rfl hO1 rfl rfl ?_
  refine r_callI h fun r5 M2 hx3 hok4 hr6 h => ?_
  replace h := h hx3 hok4 hr6
  replace hO1 := hO1.up hx3
  refine r_istore_n x_157_5 (by decide +kernel) rfl (lv1 := [(0, .ref a0), (1, g_n v1), (2, g_n r5)]) rfl ?_
  refine r_iload_n x_157_6 rfl ?_
  refine r_if_eq x_157_7 (t := 12) (by decide +kernel) hr6 (fun hc => ?_) (fun hc => ?_)
  · replace h := h.1 hc
    refine r_aload_n x_157_12 rfl ?_
    refine r_invV x_157_13 (z := 140) (ns := 0) (by decide +kernel) (as := []) (r := []) rfl rfl rfl hO1 rfl rfl ?_
    refine r_callV h fun M7 hx8 hok9 h => ?_
    replace h := h hx8 hok9
    replace hO1 := hO1.up hx8
    refine r_aload_n x_157_16 rfl ?_
    obtain ⟨b10, hb11, h⟩ := h
    refine r_getR x_157_17 rfl (ci := 9) (k := 1) (ns := 0) (by decide +kernel) (by decide) rfl (kz := 1) rfl hO1 hb11 ?_
    refine r_iload_n x_157_20 rfl ?_
    refine r_invS x_157_21 (z := 112) (ns := 1) (by decide +kernel) (as := [.ref b10, g_n v1]) (r := []) rfl rfl rfl ?_
    refine r_callI h fun r15 M12 hx13 hok14 hr16 h => ?_
    replace h := h hx13 hok14 hr16
    replace hO1 := hO1.up hx13
    refine r_istore_n x_157_24 (by decide +kernel) rfl (lv1 := [(0, .ref a0), (1, g_n v1), (2, g_n r5), (3, g_n r15)]) rfl ?_
    refine r_iconst x_157_25 ?_
    refine r_istore x_157_26 (by decide +kernel) rfl (lv1 := [(0, .ref a0), (1, g_n v1), (2, g_n r5), (3, g_n r15), (4, g_n 0)]) rfl ?_
    exact h
  · replace h := h.2 hc
    refine r_iload_n x_157_10 rfl ?_
    exact r_retI x_157_11 rfl hr6 h
theorem s_X9_group_28 {d : Nat} {M : g_M} {Q : Int → g_M → Prop} {a0 : Nat} {v1 : Int} (hv1 : g_InR v1) {v2 : Int} (hv2 : g_InR v2) {v3 : Int} (hv3 : g_InR v3) {v4 : Int} (hv4 : g_InR v4) (h : g_ok M → g_O M a0 9 ∧ ((v4 < g_i M a0 14 → ∃ b5, g_r M a0 6 = some b5 ∧ ∃ n7, g_A M b5 1 n7 ∧ ((0 : Int) ≤ v4 ∧ (v4 : Int) < n7) ∧ g_Call d 149 [.ref a0, g_n v3, g_n (g_i M b5 v4)] M (g_qI fun r13 M10 => g_ext M M10 → g_ok M10 → g_InR r13 → ∃ b15, g_r M10 a0 8 = some b15 ∧ ((r13 < 0 → ∃ n33, g_A M10 b15 1 n33 ∧ ((0 : Int) ≤ v4 ∧ (v4 : Int) < n33) ∧ (∀ M36, M36 = g_wi M10 b15 v4 0 → g_ok M36 → ∃ b40, g_r M36 a0 9 = some b40 ∧ ∃ n42, g_A M36 b40 1 n42 ∧ ((0 : Int) ≤ v4 ∧ (v4 : Int) < n42) ∧ (∀ M45, M45 = g_wi M36 b40 v4 v4 → g_ok M45 → g_Run d 157 81 [(0, .ref a0), (1, g_n v1), (2, g_n v2), (3, g_n v3), (4, g_n v4), (5, g_n r13), (6, g_n 0)] [] M45 (g_qI Q)))) ∧ (¬ r13 < 0 → ∃ n17, g_A M10 b15 1 n17 ∧ ((0 : Int) ≤ v4 ∧ (v4 : Int) < n17) ∧ (∀ M20, M20 = g_wi M10 b15 v4 r13 → g_ok M20 → ∃ b24, g_r M20 a0 9 = some b24 ∧ ∃ n26, g_A M20 b24 1 n26 ∧ ((0 : Int) ≤ v4 ∧ (v4 : Int) < n26) ∧ (∀ M29, M29 = g_wi M20 b24 v4 v4 → g_ok M29 → g_Run d 157 81 [(0, .ref a0), (1, g_n v1), (2, g_n v2), (3, g_n v3), (4, g_n v4), (5, g_n r13), (6, g_n 0)] [] M29 (g_qI Q))))))) ∧ (¬ v4 < g_i M a0 14 → ∃ b2, g_r M a0 5 = some b2 ∧ g_O M b2 4 ∧ g_Run d 157 165 [(0, .ref a0), (1, g_n v1), (2, g_n v2), (3, g_n v3), (4, g_n (g_i M b2 1)), (5, g_n 0)] [] M (g_qI Q)))) : g_Run d 157 28 [(0, .ref a0), (1, g_n v1), (2, g_n v2), (3, g_n v3), (4, g_n v4)] [] M (g_qI Q) := by
  refine g_Run.ok fun hok => ?_
  replace h := h hok
  refine r_iload x_157_28 rfl ?_
  refine r_aload_n x_157_30 rfl ?_
  obtain ⟨hO1, h⟩ := h
  refine r_getI x_157_31 rfl (ci := 9) (k := 14) (ns := 0) (by decide +kernel) (by decide) rfl (kz := 14) rfl hO1 ?_
  refine r_ic_ge x_157_34 (t := 153) (by decide +kernel) hv4 (hok.1 _ _) (fun hc => ?_) (fun hc => ?_)
  · replace h := h.2 hc
    refine r_aload_n x_157_153 rfl ?_
    obtain ⟨b2, hb3, h⟩ := h
    refine r_getR x_157_154 rfl (ci := 9) (k := 5) (ns := 0) (by decide +kernel) (by decide) rfl (kz := 5) rfl hO1 hb3 ?_
    obtain ⟨hO4, h⟩ := h
    refine r_getI x_157_157 rfl (ci := 4) (k := 1) (ns := 1) (by decide +kernel) (by decide) rfl (kz := 1) rfl hO4 ?_
    refine r_istore x_157_160 (by decide +kernel) rfl (lv1 := [(0, .ref a0), (1, g_n v1), (2, g_n v2), (3, g_n v3), (4, g_n (g_i M b2 1))]) rfl ?_
    refine r_iconst x_157_162 ?_
    refine r_istore x_157_163 (by decide +kernel) rfl (lv1 := [(0, .ref a0), (1, g_n v1), (2, g_n v2), (3, g_n v3), (4, g_n (g_i M b2 1)), (5, g_n 0)]) rfl ?_
    exact h
  · replace h := h.1 hc
    refine r_aload_n x_157_37 rfl ?_
    refine r_iload_n x_157_38 rfl ?_
    refine r_aload_n x_157_39 rfl ?_
    obtain ⟨b5, hb6, h⟩ := h
    refine r_getR x_157_40 rfl (ci := 9) (k := 6) (ns := 0) (by decide +kernel) (by decide) rfl (kz := 6) rfl hO1 hb6 ?_
    refine r_iload x_157_43 rfl ?_
    obtain ⟨n7, hA8, h⟩ := h
    obtain ⟨h9, h⟩ := h
    refine r_iald x_157_45 hA8 hv4 h9.1 h9.2 ?_
    refine r_invV x_157_46 (z := 149) (ns := 0) (by decide +kernel) (as := [g_n v3, g_n (g_i M b5 v4)]) (r := []) rfl rfl rfl hO1 rfl rfl ?_
    refine r_callI h fun r13 M10 hx11 hok12 hr14 h => ?_
    replace h := h hx11 hok12 hr14
    replace hO1 := hO1.up hx11
    replace hA8 := hA8.up hx11
    refine r_istore x_157_49 (by decide +kernel) rfl (lv1 := [(0, .ref a0), (1, g_n v1), (2, g_n v2), (3, g_n v3), (4, g_n v4), (5, g_n r13)]) rfl ?_
    refine r_aload_n x_157_51 rfl ?_
    obtain ⟨b15, hb16, h⟩ := h
    refine r_getR x_157_52 rfl (ci := 9) (k := 8) (ns := 0) (by decide +kernel) (by decide) rfl (kz := 8) rfl hO1 hb16 ?_
    refine r_iload x_157_55 rfl ?_
    refine r_iload x_157_57 rfl ?_
    refine r_if_ge x_157_59 (t := 66) (by decide +kernel) hr14 (fun hc => ?_) (fun hc => ?_)
    · replace h := h.2 hc
      refine r_iload x_157_66 rfl ?_
      obtain ⟨n17, hA18, h⟩ := h
      obtain ⟨h19, h⟩ := h
      refine r_iast x_157_68 hA18 hv4 h19.1 h19.2 hr14 ?_
      obtain ⟨M20, hM21⟩ : ∃ Mz, Mz = g_wi M10 b15 v4 r13 := ⟨_, rfl⟩
      rw [← hM21]
      refine g_Run.ok fun hok22 => ?_
      replace h := h M20 hM21 hok22
      have hx23 := g_extW hM21
      replace hO1 := hO1.up hx23
      replace hA8 := hA8.up hx23
      replace hA18 := hA18.up hx23
      refine r_aload_n x_157_69 rfl ?_
      obtain ⟨b24, hb25, h⟩ := h
      refine r_getR x_157_70 rfl (ci := 9) (k := 9) (ns := 0) (by decide +kernel) (by decide) rfl (kz := 9) rfl hO1 hb25 ?_
      refine r_iload x_157_73 rfl ?_
      refine r_iload x_157_75 rfl ?_
      obtain ⟨n26, hA27, h⟩ := h
      obtain ⟨h28, h⟩ := h
      refine r_iast x_157_77 hA27 hv4 h28.1 h28.2 hv4 ?_
      obtain ⟨M29, hM30⟩ : ∃ Mz, Mz = g_wi M20 b24 v4 v4 := ⟨_, rfl⟩
      rw [← hM30]
      refine g_Run.ok fun hok31 => ?_
      replace h := h M29 hM30 hok31
      have hx32 := g_extW hM30
      replace hO1 := hO1.up hx32
      replace hA8 := hA8.up hx32
      replace hA18 := hA18.up hx32
      replace hA27 := hA27.up hx32
      refine r_iconst x_157_78 ?_
      refine r_istore x_157_79 (by decide +kernel) rfl (lv1 := [(0, .ref a0), (1, g_n v1), (2, g_n v2), (3, g_n v3), (4, g_n v4), (5, g_n r13), (6, g_n 0)]) rfl ?_
      exact h
    · replace h := h.1 hc
      refine r_iconst x_157_62 ?_
      refine r_goto x_157_63 (t := 68) (by decide +kernel) ?_
      obtain ⟨n33, hA34, h⟩ := h
      obtain ⟨h35, h⟩ := h
      refine r_iast x_157_68 hA34 hv4 h35.1 h35.2 (g_Rk rfl) ?_
      obtain ⟨M36, hM37⟩ : ∃ Mz, Mz = g_wi M10 b15 v4 0 := ⟨_, rfl⟩
      rw [← hM37]
      refine g_Run.ok fun hok38 => ?_
      replace h := h M36 hM37 hok38
      have hx39 := g_extW hM37
      replace hO1 := hO1.up hx39
      replace hA8 := hA8.up hx39
      replace hA34 := hA34.up hx39
      refine r_aload_n x_157_69 rfl ?_
      obtain ⟨b40, hb41, h⟩ := h
      refine r_getR x_157_70 rfl (ci := 9) (k := 9) (ns := 0) (by decide +kernel) (by decide) rfl (kz := 9) rfl hO1 hb41 ?_
      refine r_iload x_157_73 rfl ?_
      refine r_iload x_157_75 rfl ?_
      obtain ⟨n42, hA43, h⟩ := h
      obtain ⟨h44, h⟩ := h
      refine r_iast x_157_77 hA43 hv4 h44.1 h44.2 hv4 ?_
      obtain ⟨M45, hM46⟩ : ∃ Mz, Mz = g_wi M36 b40 v4 v4 := ⟨_, rfl⟩
      rw [← hM46]
      refine g_Run.ok fun hok47 => ?_
      replace h := h M45 hM46 hok47
      have hx48 := g_extW hM46
      replace hO1 := hO1.up hx48
      replace hA8 := hA8.up hx48
      replace hA34 := hA34.up hx48
      replace hA43 := hA43.up hx48
      refine r_iconst x_157_78 ?_
      refine r_istore x_157_79 (by decide +kernel) rfl (lv1 := [(0, .ref a0), (1, g_n v1), (2, g_n v2), (3, g_n v3), (4, g_n v4), (5, g_n r13), (6, g_n 0)]) rfl ?_
      exact h
theorem s_X9_group_81 {d : Nat} {M : g_M} {Q : Int → g_M → Prop} {a0 : Nat} {v1 : Int} (hv1 : g_InR v1) {v2 : Int} (hv2 : g_InR v2) {v3 : Int} (hv3 : g_InR v3) {v4 : Int} (hv4 : g_InR v4) {v5 : Int} (hv5 : g_InR v5) {v6 : Int} (hv6 : g_InR v6) (h : g_ok M → ((v6 < v4 → g_O M a0 9 ∧ ∃ b3, g_r M a0 9 = some b3 ∧ ∃ n5, g_A M b3 1 n5 ∧ ((0 : Int) ≤ v6 ∧ (v6 : Int) < n5) ∧ ((g_i M b3 v6 = v6 → ∃ b9, g_r M a0 1 = some b9 ∧ ∃ b11, g_r M a0 8 = some b11 ∧ ∃ n13, g_A M b11 1 n13 ∧ ((0 : Int) ≤ v6 ∧ (v6 : Int) < n13) ∧ ∃ b16, g_r M a0 1 = some b16 ∧ ∃ b18, g_r M a0 8 = some b18 ∧ ∃ n20, g_A M b18 1 n20 ∧ ((0 : Int) ≤ v4 ∧ (v4 : Int) < n20) ∧ g_Call d 121 [.ref b9, g_n (g_i M b11 v6), .ref b16, g_n (g_i M b18 v4), g_n 0] M (g_qI fun r26 M23 => g_ext M M23 → g_ok M23 → g_InR r26 → ((r26 = 0 → ∃ b29, g_r M23 a0 9 = some b29 ∧ ∃ n31, g_A M23 b29 1 n31 ∧ ((0 : Int) ≤ v4 ∧ (v4 : Int) < n31) ∧ (∀ M34, M34 = g_wi M23 b29 v4 v6 → g_ok M34 → g_InR (v4 + 1) ∧ g_Run d 157 28 [(0, .ref a0), (1, g_n v1), (2, g_n v2), (3, g_n v3), (4, g_n (v4 + 1))] [] M34 (g_qI Q))) ∧ (¬ r26 = 0 → g_InR (v6 + 1) ∧ g_Run d 157 81 [(0, .ref a0), (1, g_n v1), (2, g_n v2), (3, g_n v3), (4, g_n v4), (5, g_n v5), (6, g_n (v6 + 1))] [] M23 (g_qI Q))))) ∧ (¬ g_i M b3 v6 = v6 → g_InR (v6 + 1) ∧ g_Run d 157 81 [(0, .ref a0), (1, g_n v1), (2, g_n v2), (3, g_n v3), (4, g_n v4), (5, g_n v5), (6, g_n (v6 + 1))] [] M (g_qI Q)))) ∧ (¬ v6 < v4 → g_InR (v4 + 1) ∧ g_Run d 157 28 [(0, .ref a0), (1, g_n v1), (2, g_n v2), (3, g_n v3), (4, g_n (v4 + 1))] [] M (g_qI Q)))) : g_Run d 157 81 [(0, .ref a0), (1, g_n v1), (2, g_n v2), (3, g_n v3), (4, g_n v4), (5, g_n v5), (6, g_n v6)] [] M (g_qI Q) := by
  refine g_Run.ok fun hok => ?_
  replace h := h hok
  refine r_iload x_157_81 rfl ?_
  refine r_iload x_157_83 rfl ?_
  refine r_ic_ge x_157_85 (t := 147) (by decide +kernel) hv6 hv4 (fun hc => ?_) (fun hc => ?_)
  · replace h := h.2 hc
    obtain ⟨h1, h⟩ := h
    refine r_iinc x_157_147 (by decide +kernel) rfl rfl (lv1 := [(0, .ref a0), (1, g_n v1), (2, g_n v2), (3, g_n v3), (4, g_n (v4 + 1)), (5, g_n v5), (6, g_n v6)]) rfl ?_
    refine r_goto x_157_150 (t := 28) (by decide +kernel) ?_
    refine g_drop [0, 1, 2, 3, 4] (lv1 := [(0, .ref a0), (1, g_n v1), (2, g_n v2), (3, g_n v3), (4, g_n (v4 + 1))]) rfl ?_
    exact h
  · replace h := h.1 hc
    refine r_aload_n x_157_88 rfl ?_
    obtain ⟨hO2, h⟩ := h
    obtain ⟨b3, hb4, h⟩ := h
    refine r_getR x_157_89 rfl (ci := 9) (k := 9) (ns := 0) (by decide +kernel) (by decide) rfl (kz := 9) rfl hO2 hb4 ?_
    refine r_iload x_157_92 rfl ?_
    obtain ⟨n5, hA6, h⟩ := h
    obtain ⟨h7, h⟩ := h
    refine r_iald x_157_94 hA6 hv6 h7.1 h7.2 ?_
    refine r_iload x_157_95 rfl ?_
    refine r_ic_ne x_157_97 (t := 141) (by decide +kernel) (hok.1 _ _) hv6 (fun hc => ?_) (fun hc => ?_)
    · replace h := h.2 hc
      obtain ⟨h8, h⟩ := h
      refine r_iinc x_157_141 (by decide +kernel) rfl rfl (lv1 := [(0, .ref a0), (1, g_n v1), (2, g_n v2), (3, g_n v3), (4, g_n v4), (5, g_n v5), (6, g_n (v6 + 1))]) rfl ?_
      refine r_goto x_157_144 (t := 81) (by decide +kernel) ?_
      exact h
    · replace h := h.1 hc
      refine r_aload_n x_157_100 rfl ?_
      obtain ⟨b9, hb10, h⟩ := h
      refine r_getR x_157_101 rfl (ci := 9) (k := 1) (ns := 0) (by decide +kernel) (by decide) rfl (kz := 1) rfl hO2 hb10 ?_
      refine r_aload_n x_157_104 rfl ?_
      obtain ⟨b11, hb12, h⟩ := h
      refine r_getR x_157_105 rfl (ci := 9) (k := 8) (ns := 0) (by decide +kernel) (by decide) rfl (kz := 8) rfl hO2 hb12 ?_
      refine r_iload x_157_108 rfl ?_
      obtain ⟨n13, hA14, h⟩ := h
      obtain ⟨h15, h⟩ := h
      refine r_iald x_157_110 hA14 hv6 h15.1 h15.2 ?_
      refine r_aload_n x_157_111 rfl ?_
      obtain ⟨b16, hb17, h⟩ := h
      refine r_getR x_157_112 rfl (ci := 9) (k := 1) (ns := 0) (by decide +kernel) (by decide) rfl (kz := 1) rfl hO2 hb17 ?_
      refine r_aload_n x_157_115 rfl ?_
      obtain ⟨b18, hb19, h⟩ := h
      refine r_getR x_157_116 rfl (ci := 9) (k := 8) (ns := 0) (by decide +kernel) (by decide) rfl (kz := 8) rfl hO2 hb19 ?_
      refine r_iload x_157_119 rfl ?_
      obtain ⟨n20, hA21, h⟩ := h
      obtain ⟨h22, h⟩ := h
      refine r_iald x_157_121 hA21 hv4 h22.1 h22.2 ?_
      refine r_iconst x_157_122 ?_
      refine r_invS x_157_123 (z := 121) (ns := 1) (by decide +kernel) (as := [.ref b9, g_n (g_i M b11 v6), .ref b16, g_n (g_i M b18 v4), g_n 0]) (r := []) rfl rfl rfl ?_
      refine r_callI h fun r26 M23 hx24 hok25 hr27 h => ?_
      replace h := h hx24 hok25 hr27
      replace hO2 := hO2.up hx24
      replace hA6 := hA6.up hx24
      replace hA14 := hA14.up hx24
      replace hA21 := hA21.up hx24
      refine r_if_ne x_157_126 (t := 141) (by decide +kernel) hr27 (fun hc => ?_) (fun hc => ?_)
      · replace h := h.2 hc
        obtain ⟨h28, h⟩ := h
        refine r_iinc x_157_141 (by decide +kernel) rfl rfl (lv1 := [(0, .ref a0), (1, g_n v1), (2, g_n v2), (3, g_n v3), (4, g_n v4), (5, g_n v5), (6, g_n (v6 + 1))]) rfl ?_
        refine r_goto x_157_144 (t := 81) (by decide +kernel) ?_
        exact h
      · replace h := h.1 hc
        refine r_aload_n x_157_129 rfl ?_
        obtain ⟨b29, hb30, h⟩ := h
        refine r_getR x_157_130 rfl (ci := 9) (k := 9) (ns := 0) (by decide +kernel) (by decide) rfl (kz := 9) rfl hO2 hb30 ?_
        refine r_iload x_157_133 rfl ?_
        refine r_iload x_157_135 rfl ?_
        obtain ⟨n31, hA32, h⟩ := h
        obtain ⟨h33, h⟩ := h
        refine r_iast x_157_137 hA32 hv4 h33.1 h33.2 hv6 ?_
        obtain ⟨M34, hM35⟩ : ∃ Mz, Mz = g_wi M23 b29 v4 v6 := ⟨_, rfl⟩
        rw [← hM35]
        refine g_Run.ok fun hok36 => ?_
        replace h := h M34 hM35 hok36
        have hx37 := g_extW hM35
        replace hO2 := hO2.up hx37
        replace hA6 := hA6.up hx37
        replace hA14 := hA14.up hx37
        replace hA21 := hA21.up hx37
        replace hA32 := hA32.up hx37
        refine r_goto x_157_138 (t := 147) (by decide +kernel) ?_
        obtain ⟨h38, h⟩ := h
        refine r_iinc x_157_147 (by decide +kernel) rfl rfl (lv1 := [(0, .ref a0), (1, g_n v1), (2, g_n v2), (3, g_n v3), (4, g_n (v4 + 1)), (5, g_n v5), (6, g_n v6)]) rfl ?_
        refine r_goto x_157_150 (t := 28) (by decide +kernel) ?_
        refine g_drop [0, 1, 2, 3, 4] (lv1 := [(0, .ref a0), (1, g_n v1), (2, g_n v2), (3, g_n v3), (4, g_n (v4 + 1))]) rfl ?_
        exact h
theorem s_X9_group_165 {d : Nat} {M : g_M} {Q : Int → g_M → Prop} {a0 : Nat} {v1 : Int} (hv1 : g_InR v1) {v2 : Int} (hv2 : g_InR v2) {v3 : Int} (hv3 : g_InR v3) {v4 : Int} (hv4 : g_InR v4) {v5 : Int} (hv5 : g_InR v5) (h : g_ok M → g_O M a0 9 ∧ ((v5 < g_i M a0 14 → ∃ b7, g_r M a0 9 = some b7 ∧ ∃ n9, g_A M b7 1 n9 ∧ ((0 : Int) ≤ v5 ∧ (v5 : Int) < n9) ∧ ((g_i M b7 v5 = v5 → g_Call d 141 [.ref a0] M (g_qI fun r15 M12 => g_ext M M12 → g_ok M12 → g_InR r15 → ∃ b17, g_r M12 a0 4 = some b17 ∧ ∃ b19, g_r M12 a0 1 = some b19 ∧ ∃ b21, g_r M12 a0 8 = some b21 ∧ ∃ n23, g_A M12 b21 1 n23 ∧ ((0 : Int) ≤ v5 ∧ (v5 : Int) < n23) ∧ g_Call d 108 [.ref b19, g_n (g_i M12 b21 v5)] M12 (g_qI fun r29 M26 => g_ext M12 M26 → g_ok M26 → g_InR r29 → g_O M26 b17 4 ∧ g_Call d 81 [.ref b17, g_n r29, .ref (4 * 48 + 1)] M26 (g_qV fun M32 => g_ext M26 M32 → g_ok M32 → ∃ b35, g_r M32 a0 4 = some b35 ∧ ∃ b37, g_r M32 a0 1 = some b37 ∧ ∃ b39, g_r M32 a0 8 = some b39 ∧ ∃ n41, g_A M32 b39 1 n41 ∧ ((0 : Int) ≤ v5 ∧ (v5 : Int) < n41) ∧ g_O M32 b35 4 ∧ g_Call d 84 [.ref b35, .ref b37, g_n (g_i M32 b39 v5)] M32 (g_qV fun M45 => g_ext M32 M45 → g_ok M45 → ∃ b48, g_r M45 a0 1 = some b48 ∧ g_Call d 111 [.ref b48, g_n v3] M45 (g_qI fun r53 M50 => g_ext M45 M50 → g_ok M50 → g_InR r53 → g_Run d 157 250 [(0, .ref a0), (1, g_n v1), (2, g_n v2), (3, g_n v3), (4, g_n v4), (5, g_n v5), (6, g_n r15), (7, g_n r53), (8, g_n 0)] [] M50 (g_qI Q))))))) ∧ (¬ g_i M b7 v5 = v5 → g_InR (v5 + 1) ∧ g_Run d 157 165 [(0, .ref a0), (1, g_n v1), (2, g_n v2), (3, g_n v3), (4, g_n v4), (5, g_n (v5 + 1))] [] M (g_qI Q)))) ∧ (¬ v5 < g_i M a0 14 → ((g_i M a0 19 = 0 → g_Call d 144 [.ref a0] M (g_qI fun r5 M2 => g_ext M M2 → g_ok M2 → g_InR r5 → Q r5 M2)) ∧ (¬ g_i M a0 19 = 0 → Q 4 M))))) : g_Run d 157 165 [(0, .ref a0), (1, g_n v1), (2, g_n v2), (3, g_n v3), (4, g_n v4), (5, g_n v5)] [] M (g_qI Q) := by
  refine g_Run.ok fun hok => ?_
  replace h := h hok
  refine r_iload x_157_165 rfl ?_
  refine r_aload_n x_157_167 rfl ?_
  obtain ⟨hO1, h⟩ := h
  refine r_getI x_157_168 rfl (ci := 9) (k := 14) (ns := 0) (by decide +kernel) (by decide) rfl (kz := 14) rfl hO1 ?_
  refine r_ic_ge x_157_171 (t := 380) (by decide +kernel) hv5 (hok.1 _ _) (fun hc => ?_) (fun hc => ?_)
  · replace h := h.2 hc
    refine r_aload_n x_157_380 rfl ?_
    refine r_getI x_157_381 rfl (ci := 9) (k := 19) (ns := 0) (by decide +kernel) (by decide) rfl (kz := 19) rfl hO1 ?_
    refine r_if_eq x_157_384 (t := 391) (by decide +kernel) (hok.1 _ _) (fun hc => ?_) (fun hc => ?_)
    · replace h := h.1 hc
      refine r_aload_n x_157_391 rfl ?_
      refine r_invV x_157_392 (z := 144) (ns := 0) (by decide +kernel) (as := []) (r := []) rfl rfl rfl hO1 rfl rfl ?_
      refine r_callI h fun r5 M2 hx3 hok4 hr6 h => ?_
      replace h := h hx3 hok4 hr6
      replace hO1 := hO1.up hx3
      exact r_retI x_157_395 rfl hr6 h
    · replace h := h.2 hc
      refine r_iconst x_157_387 ?_
      refine r_goto x_157_388 (t := 395) (by decide +kernel) ?_
      exact r_retI x_157_395 rfl (g_Rk rfl) h
  · replace h := h.1 hc
    refine r_aload_n x_157_174 rfl ?_
    obtain ⟨b7, hb8, h⟩ := h
    refine r_getR x_157_175 rfl (ci := 9) (k := 9) (ns := 0) (by decide +kernel) (by decide) rfl (kz := 9) rfl hO1 hb8 ?_
    refine r_iload x_157_178 rfl ?_
    obtain ⟨n9, hA10, h⟩ := h
    obtain ⟨h11, h⟩ := h
    refine r_iald x_157_180 hA10 hv5 h11.1 h11.2 ?_
    refine r_iload x_157_181 rfl ?_
    refine r_ic_eq x_157_183 (t := 189) (by decide +kernel) (hok.1 _ _) hv5 (fun hc => ?_) (fun hc => ?_)
    · replace h := h.1 hc
      refine r_aload_n x_157_189 rfl ?_
      refine r_invV x_157_190 (z := 141) (ns := 0) (by decide +kernel) (as := []) (r := []) rfl rfl rfl hO1 rfl rfl ?_
      refine r_callI h fun r15 M12 hx13 hok14 hr16 h => ?_
      replace h := h hx13 hok14 hr16
      replace hO1 := hO1.up hx13
      replace hA10 := hA10.up hx13
      refine r_istore x_157_193 (by decide +kernel) rfl (lv1 := [(0, .ref a0), (1, g_n v1), (2, g_n v2), (3, g_n v3), (4, g_n v4), (5, g_n v5), (6, g_n r15)]) rfl ?_
      refine r_aload_n x_157_195 rfl ?_
      obtain ⟨b17, hb18, h⟩ := h
      refine r_getR x_157_196 rfl (ci := 9) (k := 4) (ns := 0) (by decide +kernel) (by decide) rfl (kz := 4) rfl hO1 hb18 ?_
      refine r_aload_n x_157_199 rfl ?_
      obtain ⟨b19, hb20, h⟩ := h
      refine r_getR x_157_200 rfl (ci := 9) (k := 1) (ns := 0) (by decide +kernel) (by decide) rfl (kz := 1) rfl hO1 hb20 ?_
      refine r_aload_n x_157_203 rfl ?_
      obtain ⟨b21, hb22, h⟩ := h
      refine r_getR x_157_204 rfl (ci := 9) (k := 8) (ns := 0) (by decide +kernel) (by decide) rfl (kz := 8) rfl hO1 hb22 ?_
      refine r_iload x_157_207 rfl ?_
      obtain ⟨n23, hA24, h⟩ := h
      obtain ⟨h25, h⟩ := h
      refine r_iald x_157_209 hA24 hv5 h25.1 h25.2 ?_
      refine r_invS x_157_210 (z := 108) (ns := 1) (by decide +kernel) (as := [.ref b19, g_n (g_i M12 b21 v5)]) (r := [.ref b17]) rfl rfl rfl ?_
      refine r_callI h fun r29 M26 hx27 hok28 hr30 h => ?_
      replace h := h hx27 hok28 hr30
      replace hO1 := hO1.up hx27
      replace hA10 := hA10.up hx27
      replace hA24 := hA24.up hx27
      refine r_ldcw x_157_213 (v := .ref (4 * 48 + 1)) rfl ?_
      obtain ⟨hO31, h⟩ := h
      refine r_invV x_157_216 (z := 81) (ns := 1) (by decide +kernel) (as := [g_n r29, .ref (4 * 48 + 1)]) (r := []) rfl rfl rfl hO31 rfl rfl ?_
      refine r_callV h fun M32 hx33 hok34 h => ?_
      replace h := h hx33 hok34
      replace hO1 := hO1.up hx33
      replace hO31 := hO31.up hx33
      replace hA10 := hA10.up hx33
      replace hA24 := hA24.up hx33
      refine r_aload_n x_157_219 rfl ?_
      obtain ⟨b35, hb36, h⟩ := h
      refine r_getR x_157_220 rfl (ci := 9) (k := 4) (ns := 0) (by decide +kernel) (by decide) rfl (kz := 4) rfl hO1 hb36 ?_
      refine r_aload_n x_157_223 rfl ?_
      obtain ⟨b37, hb38, h⟩ := h
      refine r_getR x_157_224 rfl (ci := 9) (k := 1) (ns := 0) (by decide +kernel) (by decide) rfl (kz := 1) rfl hO1 hb38 ?_
      refine r_aload_n x_157_227 rfl ?_
      obtain ⟨b39, hb40, h⟩ := h
      refine r_getR x_157_228 rfl (ci := 9) (k := 8) (ns := 0) (by decide +kernel) (by decide) rfl (kz := 8) rfl hO1 hb40 ?_
      refine r_iload x_157_231 rfl ?_
      obtain ⟨n41, hA42, h⟩ := h
      obtain ⟨h43, h⟩ := h
      refine r_iald x_157_233 hA42 hv5 h43.1 h43.2 ?_
      obtain ⟨hO44, h⟩ := h
      refine r_invV x_157_234 (z := 84) (ns := 1) (by decide +kernel) (as := [.ref b37, g_n (g_i M32 b39 v5)]) (r := []) rfl rfl rfl hO44 rfl rfl ?_
      refine r_callV h fun M45 hx46 hok47 h => ?_
      replace h := h hx46 hok47
      replace hO1 := hO1.up hx46
      replace hO31 := hO31.up hx46
      replace hO44 := hO44.up hx46
      replace hA10 := hA10.up hx46
      replace hA24 := hA24.up hx46
      replace hA42 := hA42.up hx46
      refine r_aload_n x_157_237 rfl ?_
      obtain ⟨b48, hb49, h⟩ := h
      refine r_getR x_157_238 rfl (ci := 9) (k := 1) (ns := 0) (by decide +kernel) (by decide) rfl (kz := 1) rfl hO1 hb49 ?_
      refine r_iload_n x_157_241 rfl ?_
      refine r_invS x_157_242 (z := 111) (ns := 1) (by decide +kernel) (as := [.ref b48, g_n v3]) (r := []) rfl rfl rfl ?_
      refine r_callI h fun r53 M50 hx51 hok52 hr54 h => ?_
      replace h := h hx51 hok52 hr54
      replace hO1 := hO1.up hx51
      replace hO31 := hO31.up hx51
      replace hO44 := hO44.up hx51
      replace hA10 := hA10.up hx51
      replace hA24 := hA24.up hx51
      replace hA42 := hA42.up hx51
      refine r_istore x_157_245 (by decide +kernel) rfl (lv1 := [(0, .ref a0), (1, g_n v1), (2, g_n v2), (3, g_n v3), (4, g_n v4), (5, g_n v5), (6, g_n r15), (7, g_n r53)]) rfl ?_
      refine r_iconst x_157_247 ?_
      refine r_istore x_157_248 (by decide +kernel) rfl (lv1 := [(0, .ref a0), (1, g_n v1), (2, g_n v2), (3, g_n v3), (4, g_n v4), (5, g_n v5), (6, g_n r15), (7, g_n r53), (8, g_n 0)]) rfl ?_
      exact h
    · replace h := h.2 hc
      refine r_goto x_157_186 (t := 374) (by decide +kernel) ?_
      obtain ⟨h55, h⟩ := h
      refine r_iinc x_157_374 (by decide +kernel) rfl rfl (lv1 := [(0, .ref a0), (1, g_n v1), (2, g_n v2), (3, g_n v3), (4, g_n v4), (5, g_n (v5 + 1))]) rfl ?_
      refine r_goto x_157_377 (t := 165) (by decide +kernel) ?_
      exact h
theorem s_X9_group_250 {d : Nat} {M : g_M} {Q : Int → g_M → Prop} {a0 : Nat} {v1 : Int} (hv1 : g_InR v1) {v2 : Int} (hv2 : g_InR v2) {v3 : Int} (hv3 : g_InR v3) {v4 : Int} (hv4 : g_InR v4) {v5 : Int} (hv5 : g_InR v5) {v6 : Int} (hv6 : g_InR v6) {v7 : Int} (hv7 : g_InR v7) {v8 : Int} (hv8 : g_InR v8) (h : g_ok M → ((v8 < 2000 → g_O M a0 9 ∧ ∃ b7, g_r M a0 1 = some b7 ∧ g_Call d 108 [.ref b7, g_n v7] M (g_qI fun r12 M9 => g_ext M M9 → g_ok M9 → g_InR r12 → ((r12 = 0 → g_Call d 142 [.ref a0, g_n v6] M9 (g_qV fun M14 => g_ext M9 M14 → g_ok M14 → g_InR (v5 + 1) ∧ g_Run d 157 165 [(0, .ref a0), (1, g_n v1), (2, g_n v2), (3, g_n v3), (4, g_n v4), (5, g_n (v5 + 1))] [] M14 (g_qI Q))) ∧ (¬ r12 = 0 → ∃ b18, g_r M9 a0 5 = some b18 ∧ g_O M9 b18 4 ∧ (∀ M21, M21 = g_wi M9 b18 1 v4 → g_ok M21 → g_Run d 157 286 [(0, .ref a0), (1, g_n v1), (2, g_n v2), (3, g_n v3), (4, g_n v4), (5, g_n v5), (6, g_n v6), (7, g_n v7), (8, g_n v8), (9, g_n 0), (10, g_n v5)] [] M21 (g_qI Q)))))) ∧ (¬ v8 < 2000 → g_O M a0 9 ∧ g_Call d 142 [.ref a0, g_n v6] M (g_qV fun M2 => g_ext M M2 → g_ok M2 → g_InR (v5 + 1) ∧ g_Run d 157 165 [(0, .ref a0), (1, g_n v1), (2, g_n v2), (3, g_n v3), (4, g_n v4), (5, g_n (v5 + 1))] [] M2 (g_qI Q))))) : g_Run d 157 250 [(0, .ref a0), (1, g_n v1), (2, g_n v2), (3, g_n v3), (4, g_n v4), (5, g_n v5), (6, g_n v6), (7, g_n v7), (8, g_n v8)] [] M (g_qI Q) := by
  refine g_Run.ok fun hok => ?_
  replace h := h hok
  refine r_iload x_157_250 rfl ?_
  refine r_sipush x_157_252 (x := 2000) rfl ?_
  refine r_ic_ge x_157_255 (t := 368) (by decide +kernel) hv8 (g_Rk rfl) (fun hc => ?_) (fun hc => ?_)
  · replace h := h.2 hc
    refine r_aload_n x_157_368 rfl ?_
    refine r_iload x_157_369 rfl ?_
    obtain ⟨hO1, h⟩ := h
    refine r_invV x_157_371 (z := 142) (ns := 0) (by decide +kernel) (as := [g_n v6]) (r := []) rfl rfl rfl hO1 rfl rfl ?_
    refine r_callV h fun M2 hx3 hok4 h => ?_
    replace h := h hx3 hok4
    replace hO1 := hO1.up hx3
    obtain ⟨h5, h⟩ := h
    refine r_iinc x_157_374 (by decide +kernel) rfl rfl (lv1 := [(0, .ref a0), (1, g_n v1), (2, g_n v2), (3, g_n v3), (4, g_n v4), (5, g_n (v5 + 1)), (6, g_n v6), (7, g_n v7), (8, g_n v8)]) rfl ?_
    refine r_goto x_157_377 (t := 165) (by decide +kernel) ?_
    refine g_drop [0, 1, 2, 3, 4, 5] (lv1 := [(0, .ref a0), (1, g_n v1), (2, g_n v2), (3, g_n v3), (4, g_n v4), (5, g_n (v5 + 1))]) rfl ?_
    exact h
  · replace h := h.1 hc
    refine r_aload_n x_157_258 rfl ?_
    obtain ⟨hO6, h⟩ := h
    obtain ⟨b7, hb8, h⟩ := h
    refine r_getR x_157_259 rfl (ci := 9) (k := 1) (ns := 0) (by decide +kernel) (by decide) rfl (kz := 1) rfl hO6 hb8 ?_
    refine r_iload x_157_262 rfl ?_
    refine r_invS x_157_264 (z := 108) (ns := 1) (by decide +kernel) (as := [.ref b7, g_n v7]) (r := []) rfl rfl rfl ?_
    refine r_callI h fun r12 M9 hx10 hok11 hr13 h => ?_
    replace h := h hx10 hok11 hr13
    replace hO6 := hO6.up hx10
    refine r_if_eq x_157_267 (t := 368) (by decide +kernel) hr13 (fun hc => ?_) (fun hc => ?_)
    · replace h := h.1 hc
      refine r_aload_n x_157_368 rfl ?_
      refine r_iload x_157_369 rfl ?_
      refine r_invV x_157_371 (z := 142) (ns := 0) (by decide +kernel) (as := [g_n v6]) (r := []) rfl rfl rfl hO6 rfl rfl ?_
      refine r_callV h fun M14 hx15 hok16 h => ?_
      replace h := h hx15 hok16
      replace hO6 := hO6.up hx15
      obtain ⟨h17, h⟩ := h
      refine r_iinc x_157_374 (by decide +kernel) rfl rfl (lv1 := [(0, .ref a0), (1, g_n v1), (2, g_n v2), (3, g_n v3), (4, g_n v4), (5, g_n (v5 + 1)), (6, g_n v6), (7, g_n v7), (8, g_n v8)]) rfl ?_
      refine r_goto x_157_377 (t := 165) (by decide +kernel) ?_
      refine g_drop [0, 1, 2, 3, 4, 5] (lv1 := [(0, .ref a0), (1, g_n v1), (2, g_n v2), (3, g_n v3), (4, g_n v4), (5, g_n (v5 + 1))]) rfl ?_
      exact h
    · replace h := h.2 hc
      refine r_aload_n x_157_270 rfl ?_
      obtain ⟨b18, hb19, h⟩ := h
      refine r_getR x_157_271 rfl (ci := 9) (k := 5) (ns := 0) (by decide +kernel) (by decide) rfl (kz := 5) rfl hO6 hb19 ?_
      refine r_iload x_157_274 rfl ?_
      obtain ⟨hO20, h⟩ := h
      refine r_putI x_157_276 (ci := 4) (k := 1) (ns := 1) (by decide +kernel) (by decide) (g_f0 (by decide +kernel)) rfl hv4 trivial (kz := 1) rfl hO20 ?_
      obtain ⟨M21, hM22⟩ : ∃ Mz, Mz = g_wi M9 b18 1 v4 := ⟨_, rfl⟩
      rw [← hM22]
      refine g_Run.ok fun hok23 => ?_
      replace h := h M21 hM22 hok23
      have hx24 := g_extW hM22
      replace hO6 := hO6.up hx24
      replace hO20 := hO20.up hx24
      refine r_iconst x_157_279 ?_
      refine r_istore x_157_280 (by decide +kernel) rfl (lv1 := [(0, .ref a0), (1, g_n v1), (2, g_n v2), (3, g_n v3), (4, g_n v4), (5, g_n v5), (6, g_n v6), (7, g_n v7), (8, g_n v8), (9, g_n 0)]) rfl ?_
      refine r_iload x_157_282 rfl ?_
      refine r_istore x_157_284 (by decide +kernel) rfl (lv1 := [(0, .ref a0), (1, g_n v1), (2, g_n v2), (3, g_n v3), (4, g_n v4), (5, g_n v5), (6, g_n v6), (7, g_n v7), (8, g_n v8), (9, g_n 0), (10, g_n v5)]) rfl ?_
      exact h
theorem s_X9_group_286 {d : Nat} {M : g_M} {Q : Int → g_M → Prop} {a0 : Nat} {v1 : Int} (hv1 : g_InR v1) {v2 : Int} (hv2 : g_InR v2) {v3 : Int} (hv3 : g_InR v3) {v4 : Int} (hv4 : g_InR v4) {v5 : Int} (hv5 : g_InR v5) {v6 : Int} (hv6 : g_InR v6) {v7 : Int} (hv7 : g_InR v7) {v8 : Int} (hv8 : g_InR v8) {v9 : Int} (hv9 : g_InR v9) {v10 : Int} (hv10 : g_InR v10) (h : g_ok M → g_O M a0 9 ∧ ((v10 < g_i M a0 14 → ∃ b13, g_r M a0 9 = some b13 ∧ ∃ n15, g_A M b13 1 n15 ∧ ((0 : Int) ≤ v10 ∧ (v10 : Int) < n15) ∧ ((g_i M b13 v10 = v5 → ∃ b19, g_r M a0 10 = some b19 ∧ ∃ b21, g_r M a0 1 = some b21 ∧ g_Call d 112 [.ref b21, g_n v7] M (g_qI fun r26 M23 => g_ext M M23 → g_ok M23 → g_InR r26 → ∃ b28, g_r M23 a0 6 = some b28 ∧ ∃ n30, g_A M23 b28 1 n30 ∧ ((0 : Int) ≤ v10 ∧ (v10 : Int) < n30) ∧ g_Call d 149 [.ref a0, g_n r26, g_n (g_i M23 b28 v10)] M23 (g_qI fun r36 M33 => g_ext M23 M33 → g_ok M33 → g_InR r36 → ∃ n38, g_A M33 b19 1 n38 ∧ ((0 : Int) ≤ v9 ∧ (v9 : Int) < n38) ∧ (∀ M41, M41 = g_wi M33 b19 v9 r36 → g_ok M41 → g_InR (v9 + 1) ∧ g_InR (v10 + 1) ∧ g_Run d 157 286 [(0, .ref a0), (1, g_n v1), (2, g_n v2), (3, g_n v3), (4, g_n v4), (5, g_n v5), (6, g_n v6), (7, g_n v7), (8, g_n v8), (9, g_n (v9 + 1)), (10, g_n (v10 + 1))] [] M41 (g_qI Q))))) ∧ (¬ g_i M b13 v10 = v5 → g_InR (v10 + 1) ∧ g_Run d 157 286 [(0, .ref a0), (1, g_n v1), (2, g_n v2), (3, g_n v3), (4, g_n v4), (5, g_n v5), (6, g_n v6), (7, g_n v7), (8, g_n v8), (9, g_n v9), (10, g_n (v10 + 1))] [] M (g_qI Q)))) ∧ (¬ v10 < g_i M a0 14 → g_Call d 158 [.ref a0, g_n v7, g_n v9] M (g_qV fun M2 => g_ext M M2 → g_ok M2 → ∃ b5, g_r M2 a0 1 = some b5 ∧ g_Call d 111 [.ref b5, g_n v7] M2 (g_qI fun r10 M7 => g_ext M2 M7 → g_ok M7 → g_InR r10 → g_InR (v8 + 1) ∧ g_Run d 157 250 [(0, .ref a0), (1, g_n v1), (2, g_n v2), (3, g_n v3), (4, g_n v4), (5, g_n v5), (6, g_n v6), (7, g_n r10), (8, g_n (v8 + 1))] [] M7 (g_qI Q)))))) : g_Run d 157 286 [(0, .ref a0), (1, g_n v1), (2, g_n v2), (3, g_n v3), (4, g_n v4), (5, g_n v5), (6, g_n v6), (7, g_n v7), (8, g_n v8), (9, g_n v9), (10, g_n v10)] [] M (g_qI Q) := by
  refine g_Run.ok fun hok => ?_
  replace h := h hok
  refine r_iload x_157_286 rfl ?_
  refine r_aload_n x_157_288 rfl ?_
  obtain ⟨hO1, h⟩ := h
  refine r_getI x_157_289 rfl (ci := 9) (k := 14) (ns := 0) (by decide +kernel) (by decide) rfl (kz := 14) rfl hO1 ?_
  refine r_ic_ge x_157_292 (t := 343) (by decide +kernel) hv10 (hok.1 _ _) (fun hc => ?_) (fun hc => ?_)
  · replace h := h.2 hc
    refine r_aload_n x_157_343 rfl ?_
    refine r_iload x_157_344 rfl ?_
    refine r_iload x_157_346 rfl ?_
    refine r_invV x_157_348 (z := 158) (ns := 0) (by decide +kernel) (as := [g_n v7, g_n v9]) (r := []) rfl rfl rfl hO1 rfl rfl ?_
    refine r_callV h fun M2 hx3 hok4 h => ?_
    replace h := h hx3 hok4
    replace hO1 := hO1.up hx3
    refine r_aload_n x_157_351 rfl ?_
    obtain ⟨b5, hb6, h⟩ := h
    refine r_getR x_157_352 rfl (ci := 9) (k := 1) (ns := 0) (by decide +kernel) (by decide) rfl (kz := 1) rfl hO1 hb6 ?_
    refine r_iload x_157_355 rfl ?_
    refine r_invS x_157_357 (z := 111) (ns := 1) (by decide +kernel) (as := [.ref b5, g_n v7]) (r := []) rfl rfl rfl ?_
    refine r_callI h fun r10 M7 hx8 hok9 hr11 h => ?_
    replace h := h hx8 hok9 hr11
    replace hO1 := hO1.up hx8
    refine r_istore x_157_360 (by decide +kernel) rfl (lv1 := [(0, .ref a0), (1, g_n v1), (2, g_n v2), (3, g_n v3), (4, g_n v4), (5, g_n v5), (6, g_n v6), (7, g_n r10), (8, g_n v8), (9, g_n v9), (10, g_n v10)]) rfl ?_
    obtain ⟨h12, h⟩ := h
    refine r_iinc x_157_362 (by decide +kernel) rfl rfl (lv1 := [(0, .ref a0), (1, g_n v1), (2, g_n v2), (3, g_n v3), (4, g_n v4), (5, g_n v5), (6, g_n v6), (7, g_n r10), (8, g_n (v8 + 1)), (9, g_n v9), (10, g_n v10)]) rfl ?_
    refine r_goto x_157_365 (t := 250) (by decide +kernel) ?_
    refine g_drop [0, 1, 2, 3, 4, 5, 6, 7, 8] (lv1 := [(0, .ref a0), (1, g_n v1), (2, g_n v2), (3, g_n v3), (4, g_n v4), (5, g_n v5), (6, g_n v6), (7, g_n r10), (8, g_n (v8 + 1))]) rfl ?_
    exact h
  · replace h := h.1 hc
    refine r_aload_n x_157_295 rfl ?_
    obtain ⟨b13, hb14, h⟩ := h
    refine r_getR x_157_296 rfl (ci := 9) (k := 9) (ns := 0) (by decide +kernel) (by decide) rfl (kz := 9) rfl hO1 hb14 ?_
    refine r_iload x_157_299 rfl ?_
    obtain ⟨n15, hA16, h⟩ := h
    obtain ⟨h17, h⟩ := h
    refine r_iald x_157_301 hA16 hv10 h17.1 h17.2 ?_
    refine r_iload x_157_302 rfl ?_
    refine r_ic_ne x_157_304 (t := 337) (by decide +kernel) (hok.1 _ _) hv5 (fun hc => ?_) (fun hc => ?_)
    · replace h := h.2 hc
      obtain ⟨h18, h⟩ := h
      refine r_iinc x_157_337 (by decide +kernel) rfl rfl (lv1 := [(0, .ref a0), (1, g_n v1), (2, g_n v2), (3, g_n v3), (4, g_n v4), (5, g_n v5), (6, g_n v6), (7, g_n v7), (8, g_n v8), (9, g_n v9), (10, g_n (v10 + 1))]) rfl ?_
      refine r_goto x_157_340 (t := 286) (by decide +kernel) ?_
      exact h
    · replace h := h.1 hc
      refine r_aload_n x_157_307 rfl ?_
      obtain ⟨b19, hb20, h⟩ := h
      refine r_getR x_157_308 rfl (ci := 9) (k := 10) (ns := 0) (by decide +kernel) (by decide) rfl (kz := 10) rfl hO1 hb20 ?_
      refine r_iload x_157_311 rfl ?_
      refine r_aload_n x_157_313 rfl ?_
      refine r_aload_n x_157_314 rfl ?_
      obtain ⟨b21, hb22, h⟩ := h
      refine r_getR x_157_315 rfl (ci := 9) (k := 1) (ns := 0) (by decide +kernel) (by decide) rfl (kz := 1) rfl hO1 hb22 ?_
      refine r_iload x_157_318 rfl ?_
      refine r_invS x_157_320 (z := 112) (ns := 1) (by decide +kernel) (as := [.ref b21, g_n v7]) (r := [.ref a0, g_n v9, .ref b19]) rfl rfl rfl ?_
      refine r_callI h fun r26 M23 hx24 hok25 hr27 h => ?_
      replace h := h hx24 hok25 hr27
      replace hO1 := hO1.up hx24
      replace hA16 := hA16.up hx24
      refine r_aload_n x_157_323 rfl ?_
      obtain ⟨b28, hb29, h⟩ := h
      refine r_getR x_157_324 rfl (ci := 9) (k := 6) (ns := 0) (by decide +kernel) (by decide) rfl (kz := 6) rfl hO1 hb29 ?_
      refine r_iload x_157_327 rfl ?_
      obtain ⟨n30, hA31, h⟩ := h
      obtain ⟨h32, h⟩ := h
      refine r_iald x_157_329 hA31 hv10 h32.1 h32.2 ?_
      refine r_invV x_157_330 (z := 149) (ns := 0) (by decide +kernel) (as := [g_n r26, g_n (g_i M23 b28 v10)]) (r := [g_n v9, .ref b19]) rfl rfl rfl hO1 rfl rfl ?_
      refine r_callI h fun r36 M33 hx34 hok35 hr37 h => ?_
      replace h := h hx34 hok35 hr37
      replace hO1 := hO1.up hx34
      replace hA16 := hA16.up hx34
      replace hA31 := hA31.up hx34
      obtain ⟨n38, hA39, h⟩ := h
      obtain ⟨h40, h⟩ := h
      refine r_iast x_157_333 hA39 hv9 h40.1 h40.2 hr37 ?_
      obtain ⟨M41, hM42⟩ : ∃ Mz, Mz = g_wi M33 b19 v9 r36 := ⟨_, rfl⟩
      rw [← hM42]
      refine g_Run.ok fun hok43 => ?_
      replace h := h M41 hM42 hok43
      have hx44 := g_extW hM42
      replace hO1 := hO1.up hx44
      replace hA16 := hA16.up hx44
      replace hA31 := hA31.up hx44
      replace hA39 := hA39.up hx44
      obtain ⟨h45, h⟩ := h
      refine r_iinc x_157_334 (by decide +kernel) rfl rfl (lv1 := [(0, .ref a0), (1, g_n v1), (2, g_n v2), (3, g_n v3), (4, g_n v4), (5, g_n v5), (6, g_n v6), (7, g_n v7), (8, g_n v8), (9, g_n (v9 + 1)), (10, g_n v10)]) rfl ?_
      obtain ⟨h46, h⟩ := h
      refine r_iinc x_157_337 (by decide +kernel) rfl rfl (lv1 := [(0, .ref a0), (1, g_n v1), (2, g_n v2), (3, g_n v3), (4, g_n v4), (5, g_n v5), (6, g_n v6), (7, g_n v7), (8, g_n v8), (9, g_n (v9 + 1)), (10, g_n (v10 + 1))]) rfl ?_
      refine r_goto x_157_340 (t := 286) (by decide +kernel) ?_
      exact h
theorem m_X9_writeGathered {d : Nat} {M : g_M} {Q : g_M → Prop} {a0 : Nat} {v1 : Int} (hv1 : g_InR v1) {v2 : Int} (hv2 : g_InR v2) (h : g_ok M → g_O M a0 9 ∧ ∃ b2, g_r M a0 1 = some b2 ∧ ∃ b4, g_r M a0 1 = some b4 ∧ g_Call d 112 [.ref b4, g_n v1] M (g_qI fun r9 M6 => g_ext M M6 → g_ok M6 → g_InR r9 → g_Call d 155 [.ref b2, g_n r9] M6 (g_qI fun r14 M11 => g_ext M6 M11 → g_ok M11 → g_InR r14 → g_InR (v1 + 1) ∧ ∃ b17, g_r M11 a0 1 = some b17 ∧ g_Call d 110 [.ref b17, g_n v1] M11 (g_qI fun r22 M19 => g_ext M11 M19 → g_ok M19 → g_InR r22 → g_InR (r22 - 1) ∧ ((r14 = 1 → g_Run d 158 43 [(0, .ref a0), (1, g_n v1), (2, g_n v2), (3, g_n r14), (4, g_n (v1 + 1)), (5, g_n (r22 - 1))] [] M19 (g_qV Q)) ∧ (¬ r14 = 1 → ((r14 = 2 → g_Run d 158 43 [(0, .ref a0), (1, g_n v1), (2, g_n v2), (3, g_n r14), (4, g_n (v1 + 1)), (5, g_n (r22 - 1))] [] M19 (g_qV Q)) ∧ (¬ r14 = 2 → ((r14 = 7 → g_Run d 158 97 [(0, .ref a0), (1, g_n v1), (2, g_n v2), (3, g_n r14), (4, g_n (v1 + 1)), (5, g_n (r22 - 1))] [] M19 (g_qV Q)) ∧ (¬ r14 = 7 → ((r14 = 8 → g_Run d 158 97 [(0, .ref a0), (1, g_n v1), (2, g_n v2), (3, g_n r14), (4, g_n (v1 + 1)), (5, g_n (r22 - 1))] [] M19 (g_qV Q)) ∧ (¬ r14 = 8 → ((r14 = 5 → ∃ b41, g_r M19 a0 10 = some b41 ∧ ∃ n43, g_A M19 b41 1 n43 ∧ ((0 : Int) ≤ 0 ∧ (0 : Int) < n43) ∧ ((g_i M19 b41 0 < 0 → g_Run d 158 195 [(0, .ref a0), (1, g_n v1), (2, g_n v2), (3, g_n r14), (4, g_n (v1 + 1)), (5, g_n (r22 - 1)), (6, g_n (g_i M19 b41 0))] [g_n 0] M19 (g_qV Q)) ∧ (¬ g_i M19 b41 0 < 0 → g_Run d 158 195 [(0, .ref a0), (1, g_n v1), (2, g_n v2), (3, g_n r14), (4, g_n (v1 + 1)), (5, g_n (r22 - 1)), (6, g_n (g_i M19 b41 0))] [g_n (g_i M19 b41 0)] M19 (g_qV Q)))) ∧ (¬ r14 = 5 → ((r14 = 6 → ∃ b35, g_r M19 a0 10 = some b35 ∧ g_InR (v2 - 1) ∧ ∃ n38, g_A M19 b35 1 n38 ∧ ((0 : Int) ≤ max (v2 - 1) 0 ∧ (max (v2 - 1) 0 : Int) < n38) ∧ ((g_i M19 b35 (max (v2 - 1) 0) < 0 → g_Run d 158 195 [(0, .ref a0), (1, g_n v1), (2, g_n v2), (3, g_n r14), (4, g_n (v1 + 1)), (5, g_n (r22 - 1)), (6, g_n (g_i M19 b35 (max (v2 - 1) 0)))] [g_n 0] M19 (g_qV Q)) ∧ (¬ g_i M19 b35 (max (v2 - 1) 0) < 0 → g_Run d 158 195 [(0, .ref a0), (1, g_n v1), (2, g_n v2), (3, g_n r14), (4, g_n (v1 + 1)), (5, g_n (r22 - 1)), (6, g_n (g_i M19 b35 (max (v2 - 1) 0)))] [g_n (g_i M19 b35 (max (v2 - 1) 0))] M19 (g_qV Q)))) ∧ (¬ r14 = 6 → ((r14 = 3 → g_Call d 160 [.ref a0, g_n v2, g_n ((-1))] M19 (g_qI fun r33 M30 => g_ext M19 M30 → g_ok M30 → g_InR r33 → ((r33 < 0 → g_Run d 158 195 [(0, .ref a0), (1, g_n v1), (2, g_n v2), (3, g_n r14), (4, g_n (v1 + 1)), (5, g_n (r22 - 1)), (6, g_n r33)] [g_n 0] M30 (g_qV Q)) ∧ (¬ r33 < 0 → g_Run d 158 195 [(0, .ref a0), (1, g_n v1), (2, g_n v2), (3, g_n r14), (4, g_n (v1 + 1)), (5, g_n (r22 - 1)), (6, g_n r33)] [g_n r33] M30 (g_qV Q))))) ∧ (¬ r14 = 3 → g_Call d 160 [.ref a0, g_n v2, g_n 1] M19 (g_qI fun r28 M25 => g_ext M19 M25 → g_ok M25 → g_InR r28 → ((r28 < 0 → g_Run d 158 195 [(0, .ref a0), (1, g_n v1), (2, g_n v2), (3, g_n r14), (4, g_n (v1 + 1)), (5, g_n (r22 - 1)), (6, g_n r28)] [g_n 0] M25 (g_qV Q)) ∧ (¬ r28 < 0 → g_Run d 158 195 [(0, .ref a0), (1, g_n v1), (2, g_n v2), (3, g_n r14), (4, g_n (v1 + 1)), (5, g_n (r22 - 1)), (6, g_n r28)] [g_n r28] M25 (g_qV Q)))))))))))))))))))))) : g_Call (d + 1) 158 [.ref a0, g_n v1, g_n v2] M (g_qV Q) := by
  refine g_Call.ok fun hok0 => ?_
  replace h := h hok0
  refine r_body rfl (lv := [(0, .ref a0), (1, g_n v1), (2, g_n v2)]) rfl ?_
  refine g_Run.ok fun hok => ?_
  refine r_aload_n x_158_0 rfl ?_
  obtain ⟨hO1, h⟩ := h
  obtain ⟨b2, hb3, h⟩ := h
  refine r_getR x_158_1 rfl (ci := 9) (k := 1) (ns := 0) (by decide +kernel) (by decide) rfl (kz := 1) rfl hO1 hb3 ?_
  refine r_aload_n x_158_4 rfl ?_
  obtain ⟨b4, hb5, h⟩ := h
  refine r_getR x_158_5 rfl (ci := 9) (k := 1) (ns := 0) (by decide +kernel) (by decide) rfl (kz := 1) rfl hO1 hb5 ?_
  refine r_iload_n x_158_8 rfl ?_
  refine r_invS x_158_9 (z := 112) (ns := 1) (by decide +kernel) (as := [.ref b4, g_n v1]) (r := [.ref b2]) rfl rfl rfl ?_
  refine r_callI h fun r9 M6 hx7 hok8 hr10 h => ?_
  replace h := h hx7 hok8 hr10
  replace hO1 := hO1.up hx7
  refine r_invS x_158_12 (z := 155) (ns := 0) (by decide +kernel) (as := [.ref b2, g_n r9]) (r := []) rfl rfl rfl ?_
  refine r_callI h fun r14 M11 hx12 hok13 hr15 h => ?_
  replace h := h hx12 hok13 hr15
  replace hO1 := hO1.up hx12
  refine r_istore_n x_158_15 (by decide +kernel) rfl (lv1 := [(0, .ref a0), (1, g_n v1), (2, g_n v2), (3, g_n r14)]) rfl ?_
  refine r_iload_n x_158_16 rfl ?_
  refine r_iconst x_158_17 ?_
  refine r_iadd x_158_18 ?_
  obtain ⟨h16, h⟩ := h
  refine r_istore x_158_19 (by decide +kernel) rfl (lv1 := [(0, .ref a0), (1, g_n v1), (2, g_n v2), (3, g_n r14), (4, g_n (v1 + 1))]) rfl ?_
  refine r_aload_n x_158_21 rfl ?_
  obtain ⟨b17, hb18, h⟩ := h
  refine r_getR x_158_22 rfl (ci := 9) (k := 1) (ns := 0) (by decide +kernel) (by decide) rfl (kz := 1) rfl hO1 hb18 ?_
  refine r_iload_n x_158_25 rfl ?_
  refine r_invS x_158_26 (z := 110) (ns := 1) (by decide +kernel) (as := [.ref b17, g_n v1]) (r := []) rfl rfl rfl ?_
  refine r_callI h fun r22 M19 hx20 hok21 hr23 h => ?_
  replace h := h hx20 hok21 hr23
  replace hO1 := hO1.up hx20
  refine r_iconst x_158_29 ?_
  refine r_isub x_158_30 ?_
  obtain ⟨h24, h⟩ := h
  refine r_istore x_158_31 (by decide +kernel) rfl (lv1 := [(0, .ref a0), (1, g_n v1), (2, g_n v2), (3, g_n r14), (4, g_n (v1 + 1)), (5, g_n (r22 - 1))]) rfl ?_
  refine r_iload_n x_158_33 rfl ?_
  refine r_iconst x_158_34 ?_
  refine r_ic_eq x_158_35 (t := 43) (by decide +kernel) hr15 (g_Rk rfl) (fun hc => ?_) (fun hc => ?_)
  · replace h := h.1 hc
    exact h
  · replace h := h.2 hc
    refine r_iload_n x_158_38 rfl ?_
    refine r_iconst x_158_39 ?_
    refine r_ic_ne x_158_40 (t := 85) (by decide +kernel) hr15 (g_Rk rfl) (fun hc => ?_) (fun hc => ?_)
    · replace h := h.2 hc
      refine r_iload_n x_158_85 rfl ?_
      refine r_bipush x_158_86 (x := 7) rfl ?_
      refine r_ic_eq x_158_88 (t := 97) (by decide +kernel) hr15 (g_Rk rfl) (fun hc => ?_) (fun hc => ?_)
      · replace h := h.1 hc
        exact h
      · replace h := h.2 hc
        refine r_iload_n x_158_91 rfl ?_
        refine r_bipush x_158_92 (x := 8) rfl ?_
        refine r_ic_ne x_158_94 (t := 132) (by decide +kernel) hr15 (g_Rk rfl) (fun hc => ?_) (fun hc => ?_)
        · replace h := h.2 hc
          refine r_iload_n x_158_132 rfl ?_
          refine r_iconst x_158_133 ?_
          refine r_ic_ne x_158_134 (t := 146) (by decide +kernel) hr15 (g_Rk rfl) (fun hc => ?_) (fun hc => ?_)
          · replace h := h.2 hc
            refine r_iload_n x_158_146 rfl ?_
            refine r_bipush x_158_147 (x := 6) rfl ?_
            refine r_ic_ne x_158_149 (t := 167) (by decide +kernel) hr15 (g_Rk rfl) (fun hc => ?_) (fun hc => ?_)
            · replace h := h.2 hc
              refine r_aload_n x_158_167 rfl ?_
              refine r_iload_n x_158_168 rfl ?_
              refine r_iload_n x_158_169 rfl ?_
              refine r_iconst x_158_170 ?_
              refine r_ic_ne x_158_171 (t := 178) (by decide +kernel) hr15 (g_Rk rfl) (fun hc => ?_) (fun hc => ?_)
              · replace h := h.2 hc
                refine r_iconst x_158_178 ?_
                refine r_invV x_158_179 (z := 160) (ns := 0) (by decide +kernel) (as := [g_n v2, g_n 1]) (r := []) rfl rfl rfl hO1 rfl rfl ?_
                refine r_callI h fun r28 M25 hx26 hok27 hr29 h => ?_
                replace h := h hx26 hok27 hr29
                replace hO1 := hO1.up hx26
                refine r_istore x_158_182 (by decide +kernel) rfl (lv1 := [(0, .ref a0), (1, g_n v1), (2, g_n v2), (3, g_n r14), (4, g_n (v1 + 1)), (5, g_n (r22 - 1)), (6, g_n r28)]) rfl ?_
                refine r_iload x_158_184 rfl ?_
                refine r_if_ge x_158_186 (t := 193) (by decide +kernel) hr29 (fun hc => ?_) (fun hc => ?_)
                · replace h := h.2 hc
                  refine r_iload x_158_193 rfl ?_
                  exact h
                · replace h := h.1 hc
                  refine r_iconst x_158_189 ?_
                  refine r_goto x_158_190 (t := 195) (by decide +kernel) ?_
                  exact h
              · replace h := h.1 hc
                refine r_iconst x_158_174 ?_
                refine r_goto x_158_175 (t := 179) (by decide +kernel) ?_
                refine r_invV x_158_179 (z := 160) (ns := 0) (by decide +kernel) (as := [g_n v2, g_n ((-1))]) (r := []) rfl rfl rfl hO1 rfl rfl ?_
                refine r_callI h fun r33 M30 hx31 hok32 hr34 h => ?_
                replace h := h hx31 hok32 hr34
                replace hO1 := hO1.up hx31
                refine r_istore x_158_182 (by decide +kernel) rfl (lv1 := [(0, .ref a0), (1, g_n v1), (2, g_n v2), (3, g_n r14), (4, g_n (v1 + 1)), (5, g_n (r22 - 1)), (6, g_n r33)]) rfl ?_
                refine r_iload x_158_184 rfl ?_
                refine r_if_ge x_158_186 (t := 193) (by decide +kernel) hr34 (fun hc => ?_) (fun hc => ?_)
                · replace h := h.2 hc
                  refine r_iload x_158_193 rfl ?_
                  exact h
                · replace h := h.1 hc
                  refine r_iconst x_158_189 ?_
                  refine r_goto x_158_190 (t := 195) (by decide +kernel) ?_
                  exact h
            · replace h := h.1 hc
              refine r_aload_n x_158_152 rfl ?_
              obtain ⟨b35, hb36, h⟩ := h
              refine r_getR x_158_153 rfl (ci := 9) (k := 10) (ns := 0) (by decide +kernel) (by decide) rfl (kz := 10) rfl hO1 hb36 ?_
              refine r_iload_n x_158_156 rfl ?_
              refine r_iconst x_158_157 ?_
              refine r_isub x_158_158 ?_
              obtain ⟨h37, h⟩ := h
              refine r_iconst x_158_159 ?_
              refine r_max x_158_160 rfl rfl rfl rfl h37 (g_Rk rfl) ?_
              obtain ⟨n38, hA39, h⟩ := h
              obtain ⟨h40, h⟩ := h
              refine r_iald x_158_163 hA39 (g_max_R h37 (g_Rk rfl)) h40.1 h40.2 ?_
              refine r_goto x_158_164 (t := 182) (by decide +kernel) ?_
              refine r_istore x_158_182 (by decide +kernel) rfl (lv1 := [(0, .ref a0), (1, g_n v1), (2, g_n v2), (3, g_n r14), (4, g_n (v1 + 1)), (5, g_n (r22 - 1)), (6, g_n (g_i M19 b35 (max (v2 - 1) 0)))]) rfl ?_
              refine r_iload x_158_184 rfl ?_
              refine r_if_ge x_158_186 (t := 193) (by decide +kernel) (hok21.1 _ _) (fun hc => ?_) (fun hc => ?_)
              · replace h := h.2 hc
                refine r_iload x_158_193 rfl ?_
                exact h
              · replace h := h.1 hc
                refine r_iconst x_158_189 ?_
                refine r_goto x_158_190 (t := 195) (by decide +kernel) ?_
                exact h
          · replace h := h.1 hc
            refine r_aload_n x_158_137 rfl ?_
            obtain ⟨b41, hb42, h⟩ := h
            refine r_getR x_158_138 rfl (ci := 9) (k := 10) (ns := 0) (by decide +kernel) (by decide) rfl (kz := 10) rfl hO1 hb42 ?_
            refine r_iconst x_158_141 ?_
            obtain ⟨n43, hA44, h⟩ := h
            obtain ⟨h45, h⟩ := h
            refine r_iald x_158_142 hA44 (g_Rk rfl) h45.1 h45.2 ?_
            refine r_goto x_158_143 (t := 182) (by decide +kernel) ?_
            refine r_istore x_158_182 (by decide +kernel) rfl (lv1 := [(0, .ref a0), (1, g_n v1), (2, g_n v2), (3, g_n r14), (4, g_n (v1 + 1)), (5, g_n (r22 - 1)), (6, g_n (g_i M19 b41 0))]) rfl ?_
            refine r_iload x_158_184 rfl ?_
            refine r_if_ge x_158_186 (t := 193) (by decide +kernel) (hok21.1 _ _) (fun hc => ?_) (fun hc => ?_)
            · replace h := h.2 hc
              refine r_iload x_158_193 rfl ?_
              exact h
            · replace h := h.1 hc
              refine r_iconst x_158_189 ?_
              refine r_goto x_158_190 (t := 195) (by decide +kernel) ?_
              exact h
        · replace h := h.1 hc
          exact h
    · replace h := h.1 hc
      exact h
theorem s_X9_writeGathered_43 {d : Nat} {M : g_M} {Q : g_M → Prop} {a0 : Nat} {v1 : Int} (hv1 : g_InR v1) {v2 : Int} (hv2 : g_InR v2) {v3 : Int} (hv3 : g_InR v3) {v4 : Int} (hv4 : g_InR v4) {v5 : Int} (hv5 : g_InR v5) (h : g_ok M → g_O M a0 9 ∧ ∃ b2, g_r M a0 4 = some b2 ∧ ∃ b4, g_r M a0 1 = some b4 ∧ g_O M b2 4 ∧ g_Call d 82 [.ref b2, g_n 18, .ref b4, g_n v4, g_n v5] M (g_qV fun M7 => g_ext M M7 → g_ok M7 → ∃ b10, g_r M7 a0 4 = some b10 ∧ ((v3 = 2 → g_Call d 159 [.ref a0, g_n v2] M7 (g_qL fun R19 M16 => g_ext M7 M16 → g_ok M16 → g_O M16 b10 4 ∧ g_Call d 78 [.ref b10, .long R19] M16 (g_qV fun M21 => g_ext M16 M21 → g_ok M21 → Q M21))) ∧ (¬ v3 = 2 → g_O M7 b10 4 ∧ g_Call d 78 [.ref b10, .long (Int64.ofInt v2)] M7 (g_qV fun M13 => g_ext M7 M13 → g_ok M13 → Q M13))))) : g_Run d 158 43 [(0, .ref a0), (1, g_n v1), (2, g_n v2), (3, g_n v3), (4, g_n v4), (5, g_n v5)] [] M (g_qV Q) := by
  refine g_Run.ok fun hok => ?_
  replace h := h hok
  refine r_aload_n x_158_43 rfl ?_
  obtain ⟨hO1, h⟩ := h
  obtain ⟨b2, hb3, h⟩ := h
  refine r_getR x_158_44 rfl (ci := 9) (k := 4) (ns := 0) (by decide +kernel) (by decide) rfl (kz := 4) rfl hO1 hb3 ?_
  refine r_bipush x_158_47 (x := 18) rfl ?_
  refine r_aload_n x_158_49 rfl ?_
  obtain ⟨b4, hb5, h⟩ := h
  refine r_getR x_158_50 rfl (ci := 9) (k := 1) (ns := 0) (by decide +kernel) (by decide) rfl (kz := 1) rfl hO1 hb5 ?_
  refine r_iload x_158_53 rfl ?_
  refine r_iload x_158_55 rfl ?_
  obtain ⟨hO6, h⟩ := h
  refine r_invV x_158_57 (z := 82) (ns := 1) (by decide +kernel) (as := [g_n 18, .ref b4, g_n v4, g_n v5]) (r := []) rfl rfl rfl hO6 rfl rfl ?_
  refine r_callV h fun M7 hx8 hok9 h => ?_
  replace h := h hx8 hok9
  replace hO1 := hO1.up hx8
  replace hO6 := hO6.up hx8
  refine r_aload_n x_158_60 rfl ?_
  obtain ⟨b10, hb11, h⟩ := h
  refine r_getR x_158_61 rfl (ci := 9) (k := 4) (ns := 0) (by decide +kernel) (by decide) rfl (kz := 4) rfl hO1 hb11 ?_
  refine r_iload_n x_158_64 rfl ?_
  refine r_iconst x_158_65 ?_
  refine r_ic_ne x_158_66 (t := 77) (by decide +kernel) hv3 (g_Rk rfl) (fun hc => ?_) (fun hc => ?_)
  · replace h := h.2 hc
    refine r_iload_n x_158_77 rfl ?_
    refine r_i2l x_158_78 hv2 ?_
    obtain ⟨hO12, h⟩ := h
    refine r_invV x_158_79 (z := 78) (ns := 1) (by decide +kernel) (as := [.long (Int64.ofInt v2)]) (r := []) rfl rfl rfl hO12 rfl rfl ?_
    refine r_callV h fun M13 hx14 hok15 h => ?_
    replace h := h hx14 hok15
    replace hO1 := hO1.up hx14
    replace hO6 := hO6.up hx14
    replace hO12 := hO12.up hx14
    refine r_goto x_158_82 (t := 234) (by decide +kernel) ?_
    exact r_retV x_158_234 rfl h
  · replace h := h.1 hc
    refine r_aload_n x_158_69 rfl ?_
    refine r_iload_n x_158_70 rfl ?_
    refine r_invV x_158_71 (z := 159) (ns := 0) (by decide +kernel) (as := [g_n v2]) (r := [.ref b10]) rfl rfl rfl hO1 rfl rfl ?_
    refine r_callL h fun R19 M16 hx17 hok18 h => ?_
    replace h := h hx17 hok18
    replace hO1 := hO1.up hx17
    replace hO6 := hO6.up hx17
    refine r_goto x_158_74 (t := 79) (by decide +kernel) ?_
    obtain ⟨hO20, h⟩ := h
    refine r_invV x_158_79 (z := 78) (ns := 1) (by decide +kernel) (as := [.long R19]) (r := []) rfl rfl rfl hO20 rfl rfl ?_
    refine r_callV h fun M21 hx22 hok23 h => ?_
    replace h := h hx22 hok23
    replace hO1 := hO1.up hx22
    replace hO6 := hO6.up hx22
    replace hO20 := hO20.up hx22
    refine r_goto x_158_82 (t := 234) (by decide +kernel) ?_
    exact r_retV x_158_234 rfl h
theorem s_X9_writeGathered_97 {d : Nat} {M : g_M} {Q : g_M → Prop} {a0 : Nat} {v1 : Int} (hv1 : g_InR v1) {v2 : Int} (hv2 : g_InR v2) {v3 : Int} (hv3 : g_InR v3) {v4 : Int} (hv4 : g_InR v4) {v5 : Int} (hv5 : g_InR v5) (h : g_ok M → g_O M a0 9 ∧ ∃ b2, g_r M a0 4 = some b2 ∧ ∃ b4, g_r M a0 1 = some b4 ∧ g_O M b2 4 ∧ g_Call d 82 [.ref b2, g_n 4, .ref b4, g_n v4, g_n v5] M (g_qV fun M7 => g_ext M M7 → g_ok M7 → ((v3 = 8 → g_Call d 161 [.ref a0, g_n v2, g_n 1] M7 (g_qV fun M13 => g_ext M7 M13 → g_ok M13 → Q M13)) ∧ (¬ v3 = 8 → g_Call d 161 [.ref a0, g_n v2, g_n 0] M7 (g_qV fun M10 => g_ext M7 M10 → g_ok M10 → Q M10))))) : g_Run d 158 97 [(0, .ref a0), (1, g_n v1), (2, g_n v2), (3, g_n v3), (4, g_n v4), (5, g_n v5)] [] M (g_qV Q) := by
  refine g_Run.ok fun hok => ?_
  replace h := h hok
  refine r_aload_n x_158_97 rfl ?_
  obtain ⟨hO1, h⟩ := h
  obtain ⟨b2, hb3, h⟩ := h
  refine r_getR x_158_98 rfl (ci := 9) (k := 4) (ns := 0) (by decide +kernel) (by decide) rfl (kz := 4) rfl hO1 hb3 ?_
  refine r_iconst x_158_101 ?_
  refine r_aload_n x_158_102 rfl ?_
  obtain ⟨b4, hb5, h⟩ := h
  refine r_getR x_158_103 rfl (ci := 9) (k := 1) (ns := 0) (by decide +kernel) (by decide) rfl (kz := 1) rfl hO1 hb5 ?_
  refine r_iload x_158_106 rfl ?_
  refine r_iload x_158_108 rfl ?_
  obtain ⟨hO6, h⟩ := h
  refine r_invV x_158_110 (z := 82) (ns := 1) (by decide +kernel) (as := [g_n 4, .ref b4, g_n v4, g_n v5]) (r := []) rfl rfl rfl hO6 rfl rfl ?_
  refine r_callV h fun M7 hx8 hok9 h => ?_
  replace h := h hx8 hok9
  replace hO1 := hO1.up hx8
  replace hO6 := hO6.up hx8
  refine r_aload_n x_158_113 rfl ?_
  refine r_iload_n x_158_114 rfl ?_
  refine r_iload_n x_158_115 rfl ?_
  refine r_bipush x_158_116 (x := 8) rfl ?_
  refine r_ic_ne x_158_118 (t := 125) (by decide +kernel) hv3 (g_Rk rfl) (fun hc => ?_) (fun hc => ?_)
  · replace h := h.2 hc
    refine r_iconst x_158_125 ?_
    refine r_invV x_158_126 (z := 161) (ns := 0) (by decide +kernel) (as := [g_n v2, g_n 0]) (r := []) rfl rfl rfl hO1 rfl rfl ?_
    refine r_callV h fun M10 hx11 hok12 h => ?_
    replace h := h hx11 hok12
    replace hO1 := hO1.up hx11
    replace hO6 := hO6.up hx11
    refine r_goto x_158_129 (t := 234) (by decide +kernel) ?_
    exact r_retV x_158_234 rfl h
  · replace h := h.1 hc
    refine r_iconst x_158_121 ?_
    refine r_goto x_158_122 (t := 126) (by decide +kernel) ?_
    refine r_invV x_158_126 (z := 161) (ns := 0) (by decide +kernel) (as := [g_n v2, g_n 1]) (r := []) rfl rfl rfl hO1 rfl rfl ?_
    refine r_callV h fun M13 hx14 hok15 h => ?_
    replace h := h hx14 hok15
    replace hO1 := hO1.up hx14
    replace hO6 := hO6.up hx14
    refine r_goto x_158_129 (t := 234) (by decide +kernel) ?_
    exact r_retV x_158_234 rfl h
theorem s_X9_writeGathered_195 {d : Nat} {M : g_M} {Q : g_M → Prop} {a0 : Nat} {v1 : Int} (hv1 : g_InR v1) {v2 : Int} (hv2 : g_InR v2) {v3 : Int} (hv3 : g_InR v3) {v4 : Int} (hv4 : g_InR v4) {v5 : Int} (hv5 : g_InR v5) {v6 : Int} (hv6 : g_InR v6) {w0 : Int} (hw0 : g_InR w0) (h : g_ok M → g_O M a0 9 ∧ ∃ b2, g_r M a0 4 = some b2 ∧ ∃ b4, g_r M a0 1 = some b4 ∧ g_Call d 108 [.ref b4, g_n w0] M (g_qI fun r9 M6 => g_ext M M6 → g_ok M6 → g_InR r9 → ∃ b11, g_r M6 a0 1 = some b11 ∧ g_O M6 b2 4 ∧ g_Call d 82 [.ref b2, g_n r9, .ref b11, g_n v4, g_n v5] M6 (g_qV fun M14 => g_ext M6 M14 → g_ok M14 → ∃ b17, g_r M14 a0 4 = some b17 ∧ ∃ b19, g_r M14 a0 1 = some b19 ∧ g_O M14 b17 4 ∧ g_Call d 84 [.ref b17, .ref b19, g_n w0] M14 (g_qV fun M22 => g_ext M14 M22 → g_ok M22 → Q M22)))) : g_Run d 158 195 [(0, .ref a0), (1, g_n v1), (2, g_n v2), (3, g_n v3), (4, g_n v4), (5, g_n v5), (6, g_n v6)] [g_n w0] M (g_qV Q) := by
  refine g_Run.ok fun hok => ?_
  replace h := h hok
  refine r_istore x_158_195 (by decide +kernel) rfl (lv1 := [(0, .ref a0), (1, g_n v1), (2, g_n v2), (3, g_n v3), (4, g_n v4), (5, g_n v5), (6, g_n v6), (7, g_n w0)]) rfl ?_
  refine r_aload_n x_158_197 rfl ?_
  obtain ⟨hO1, h⟩ := h
  obtain ⟨b2, hb3, h⟩ := h
  refine r_getR x_158_198 rfl (ci := 9) (k := 4) (ns := 0) (by decide +kernel) (by decide) rfl (kz := 4) rfl hO1 hb3 ?_
  refine r_aload_n x_158_201 rfl ?_
  obtain ⟨b4, hb5, h⟩ := h
  refine r_getR x_158_202 rfl (ci := 9) (k := 1) (ns := 0) (by decide +kernel) (by decide) rfl (kz := 1) rfl hO1 hb5 ?_
  refine r_iload x_158_205 rfl ?_
  refine r_invS x_158_207 (z := 108) (ns := 1) (by decide +kernel) (as := [.ref b4, g_n w0]) (r := [.ref b2]) rfl rfl rfl ?_
  refine r_callI h fun r9 M6 hx7 hok8 hr10 h => ?_
  replace h := h hx7 hok8 hr10
  replace hO1 := hO1.up hx7
  refine r_aload_n x_158_210 rfl ?_
  obtain ⟨b11, hb12, h⟩ := h
  refine r_getR x_158_211 rfl (ci := 9) (k := 1) (ns := 0) (by decide +kernel) (by decide) rfl (kz := 1) rfl hO1 hb12 ?_
  refine r_iload x_158_214 rfl ?_
  refine r_iload x_158_216 rfl ?_
  obtain ⟨hO13, h⟩ := h
  refine r_invV x_158_218 (z := 82) (ns := 1) (by decide +kernel) (as := [g_n r9, .ref b11, g_n v4, g_n v5]) (r := []) rfl rfl rfl hO13 rfl rfl ?_
  refine r_callV h fun M14 hx15 hok16 h => ?_
  replace h := h hx15 hok16
  replace hO1 := hO1.up hx15
  replace hO13 := hO13.up hx15
  refine r_aload_n x_158_221 rfl ?_
  obtain ⟨b17, hb18, h⟩ := h
  refine r_getR x_158_222 rfl (ci := 9) (k := 4) (ns := 0) (by decide +kernel) (by decide) rfl (kz := 4) rfl hO1 hb18 ?_
  refine r_aload_n x_158_225 rfl ?_
  obtain ⟨b19, hb20, h⟩ := h
  refine r_getR x_158_226 rfl (ci := 9) (k := 1) (ns := 0) (by decide +kernel) (by decide) rfl (kz := 1) rfl hO1 hb20 ?_
  refine r_iload x_158_229 rfl ?_
  obtain ⟨hO21, h⟩ := h
  refine r_invV x_158_231 (z := 84) (ns := 1) (by decide +kernel) (as := [.ref b19, g_n w0]) (r := []) rfl rfl rfl hO21 rfl rfl ?_
  refine r_callV h fun M22 hx23 hok24 h => ?_
  replace h := h hx23 hok24
  replace hO1 := hO1.up hx23
  replace hO13 := hO13.up hx23
  replace hO21 := hO21.up hx23
  exact r_retV x_158_234 rfl h
theorem m_X9_sum {d : Nat} {M : g_M} {Q : Int64 → g_M → Prop} {a0 : Nat} {v1 : Int} (hv1 : g_InR v1) (h : g_ok M → g_Run d 159 8 [(0, .ref a0), (1, g_n v1), (2, .long 0), (4, .long 0), (6, g_n 0)] [] M (g_qL Q)) : g_Call (d + 1) 159 [.ref a0, g_n v1] M (g_qL Q) := by
  refine g_Call.ok fun hok0 => ?_
  replace h := h hok0
  refine r_body rfl (lv := [(0, .ref a0), (1, g_n v1)]) rfl ?_
  refine g_Run.ok fun hok => ?_
  refine r_lconst x_159_0 ?_
  show g_Run d 159 1 [(0, .ref a0), (1, g_n v1)] [.long 0] M _
  refine r_lstore_n x_159_1 (by decide +kernel) rfl (lv1 := [(0, .ref a0), (1, g_n v1), (2, .long 0)]) rfl ?_
  refine r_lconst x_159_2 ?_
  show g_Run d 159 3 [(0, .ref a0), (1, g_n v1), (2, .long 0)] [.long 0] M _
  refine r_lstore x_159_3 (by decide +kernel) rfl (lv1 := [(0, .ref a0), (1, g_n v1), (2, .long 0), (4, .long 0)]) rfl ?_
  refine r_iconst x_159_5 ?_
  refine r_istore x_159_6 (by decide +kernel) rfl (lv1 := [(0, .ref a0), (1, g_n v1), (2, .long 0), (4, .long 0), (6, g_n 0)]) rfl ?_
  exact h
theorem s_X9_sum_8 {d : Nat} {M : g_M} {Q : Int64 → g_M → Prop} {a0 : Nat} {v1 : Int} (hv1 : g_InR v1) {V2 : Int64} {V4 : Int64} {v6 : Int} (hv6 : g_InR v6) (h : g_ok M → ((v6 < v1 → g_O M a0 9 ∧ ∃ b7, g_r M a0 1 = some b7 ∧ ∃ b9, g_r M a0 10 = some b9 ∧ ∃ n11, g_A M b9 1 n11 ∧ ((0 : Int) ≤ v6 ∧ (v6 : Int) < n11) ∧ g_Call d 117 [.ref b7, g_n (g_i M b9 v6)] M (g_qI fun r17 M14 => g_ext M M14 → g_ok M14 → g_InR r17 → ((r17 = 0 → g_InR (v6 + 1) ∧ g_Run d 159 8 [(0, .ref a0), (1, g_n v1), (2, .long V2), (4, .long V4), (6, g_n (v6 + 1))] [] M14 (g_qL Q)) ∧ (¬ r17 = 0 → ∃ b19, g_r M14 a0 1 = some b19 ∧ ∃ b21, g_r M14 a0 10 = some b21 ∧ ∃ n23, g_A M14 b21 1 n23 ∧ ((0 : Int) ≤ v6 ∧ (v6 : Int) < n23) ∧ g_Call d 118 [.ref b19, g_n (g_i M14 b21 v6)] M14 (g_qL fun R29 M26 => g_ext M14 M26 → g_ok M26 → ((g_lc ((V2 + R29) + ((-9223372036854775808))) (V2 + ((-9223372036854775808))) < 0 → g_InR (v6 + 1) ∧ g_Run d 159 8 [(0, .ref a0), (1, g_n v1), (2, .long (V2 + R29)), (4, .long (V4 + ((R29 >>> ((Int32.ofInt 63).toInt64 &&& 63)) + (Int64.ofInt 1)))), (6, g_n (v6 + 1))] [] M26 (g_qL Q)) ∧ (¬ g_lc ((V2 + R29) + ((-9223372036854775808))) (V2 + ((-9223372036854775808))) < 0 → g_InR (v6 + 1) ∧ g_Run d 159 8 [(0, .ref a0), (1, g_n v1), (2, .long (V2 + R29)), (4, .long (V4 + ((R29 >>> ((Int32.ofInt 63).toInt64 &&& 63)) + (Int64.ofInt 0)))), (6, g_n (v6 + 1))] [] M26 (g_qL Q)))))))) ∧ (¬ v6 < v1 → ((g_lc V4 (V2 >>> ((Int32.ofInt 63).toInt64 &&& 63)) = 0 → Q V2 M) ∧ (¬ g_lc V4 (V2 >>> ((Int32.ofInt 63).toInt64 &&& 63)) = 0 → g_O M a0 9 ∧ (∀ M2, M2 = g_wi M a0 19 1 → g_ok M2 → Q V2 M2)))))) : g_Run d 159 8 [(0, .ref a0), (1, g_n v1), (2, .long V2), (4, .long V4), (6, g_n v6)] [] M (g_qL Q) := by
  refine g_Run.ok fun hok => ?_
  replace h := h hok
  refine r_iload x_159_8 rfl ?_
  refine r_iload_n x_159_10 rfl ?_
  refine r_ic_ge x_159_11 (t := 97) (by decide +kernel) hv6 hv1 (fun hc => ?_) (fun hc => ?_)
  · replace h := h.2 hc
    refine r_lload x_159_97 rfl ?_
    refine r_lload_n x_159_99 rfl ?_
    refine r_bipush x_159_100 (x := 63) rfl ?_
    refine r_lshr x_159_102 ?_
    refine r_lcmp x_159_103 ?_
    refine r_if_eq x_159_104 (t := 112) (by decide +kernel) (g_InR_toInt _) (fun hc => ?_) (fun hc => ?_)
    · replace h := h.1 hc
      refine r_lload_n x_159_112 rfl ?_
      exact r_retL x_159_113 rfl h
    · replace h := h.2 hc
      refine r_aload_n x_159_107 rfl ?_
      refine r_iconst x_159_108 ?_
      obtain ⟨hO1, h⟩ := h
      refine r_putI x_159_109 (ci := 9) (k := 19) (ns := 0) (by decide +kernel) (by decide) (g_fZ (Or.inr rfl) (by decide +kernel)) rfl (g_Rk rfl) (g_zx (Or.inr rfl) rfl).2 (kz := 19) rfl hO1 ?_
      obtain ⟨M2, hM3⟩ : ∃ Mz, Mz = g_wi M a0 19 1 := ⟨_, rfl⟩
      rw [← hM3]
      refine g_Run.ok fun hok4 => ?_
      replace h := h M2 hM3 hok4
      have hx5 := g_extW hM3
      replace hO1 := hO1.up hx5
      refine r_lload_n x_159_112 rfl ?_
      exact r_retL x_159_113 rfl h
  · replace h := h.1 hc
    refine r_aload_n x_159_14 rfl ?_
    obtain ⟨hO6, h⟩ := h
    obtain ⟨b7, hb8, h⟩ := h
    refine r_getR x_159_15 rfl (ci := 9) (k := 1) (ns := 0) (by decide +kernel) (by decide) rfl (kz := 1) rfl hO6 hb8 ?_
    refine r_aload_n x_159_18 rfl ?_
    obtain ⟨b9, hb10, h⟩ := h
    refine r_getR x_159_19 rfl (ci := 9) (k := 10) (ns := 0) (by decide +kernel) (by decide) rfl (kz := 10) rfl hO6 hb10 ?_
    refine r_iload x_159_22 rfl ?_
    obtain ⟨n11, hA12, h⟩ := h
    obtain ⟨h13, h⟩ := h
    refine r_iald x_159_24 hA12 hv6 h13.1 h13.2 ?_
    refine r_invS x_159_25 (z := 117) (ns := 1) (by decide +kernel) (as := [.ref b7, g_n (g_i M b9 v6)]) (r := []) rfl rfl rfl ?_
    refine r_callI h fun r17 M14 hx15 hok16 hr18 h => ?_
    replace h := h hx15 hok16 hr18
    replace hO6 := hO6.up hx15
    replace hA12 := hA12.up hx15
    refine r_if_ne x_159_28 (t := 34) (by decide +kernel) hr18 (fun hc => ?_) (fun hc => ?_)
    · replace h := h.2 hc
      refine r_aload_n x_159_34 rfl ?_
      obtain ⟨b19, hb20, h⟩ := h
      refine r_getR x_159_35 rfl (ci := 9) (k := 1) (ns := 0) (by decide +kernel) (by decide) rfl (kz := 1) rfl hO6 hb20 ?_
      refine r_aload_n x_159_38 rfl ?_
      obtain ⟨b21, hb22, h⟩ := h
      refine r_getR x_159_39 rfl (ci := 9) (k := 10) (ns := 0) (by decide +kernel) (by decide) rfl (kz := 10) rfl hO6 hb22 ?_
      refine r_iload x_159_42 rfl ?_
      obtain ⟨n23, hA24, h⟩ := h
      obtain ⟨h25, h⟩ := h
      refine r_iald x_159_44 hA24 hv6 h25.1 h25.2 ?_
      refine r_invS x_159_45 (z := 118) (ns := 1) (by decide +kernel) (as := [.ref b19, g_n (g_i M14 b21 v6)]) (r := []) rfl rfl rfl ?_
      refine r_callL h fun R29 M26 hx27 hok28 h => ?_
      replace h := h hx27 hok28
      replace hO6 := hO6.up hx27
      replace hA12 := hA12.up hx27
      replace hA24 := hA24.up hx27
      refine r_lstore x_159_48 (by decide +kernel) rfl (lv1 := [(0, .ref a0), (1, g_n v1), (2, .long V2), (4, .long V4), (6, g_n v6), (7, .long R29)]) rfl ?_
      refine r_lload_n x_159_50 rfl ?_
      refine r_lload x_159_51 rfl ?_
      refine r_ladd x_159_53 ?_
      refine r_lstore x_159_54 (by decide +kernel) rfl (lv1 := [(0, .ref a0), (1, g_n v1), (2, .long V2), (4, .long V4), (6, g_n v6), (7, .long R29), (9, .long (V2 + R29))]) rfl ?_
      refine r_lload x_159_56 rfl ?_
      refine r_lload x_159_58 rfl ?_
      refine r_bipush x_159_60 (x := 63) rfl ?_
      refine r_lshr x_159_62 ?_
      refine r_lload x_159_63 rfl ?_
      refine r_ldc2 x_159_65 (X := (-9223372036854775808)) rfl ?_
      refine r_ladd x_159_68 ?_
      refine r_lload_n x_159_69 rfl ?_
      refine r_ldc2 x_159_70 (X := (-9223372036854775808)) rfl ?_
      refine r_ladd x_159_73 ?_
      refine r_lcmp x_159_74 ?_
      refine r_if_ge x_159_75 (t := 82) (by decide +kernel) (g_InR_toInt _) (fun hc => ?_) (fun hc => ?_)
      · replace h := h.2 hc
        refine r_iconst x_159_82 ?_
        refine r_i2l x_159_83 (g_Rk rfl) ?_
        refine r_ladd x_159_84 ?_
        refine r_ladd x_159_85 ?_
        refine r_lstore x_159_86 (by decide +kernel) rfl (lv1 := [(0, .ref a0), (1, g_n v1), (2, .long V2), (4, .long (V4 + ((R29 >>> ((Int32.ofInt 63).toInt64 &&& 63)) + (Int64.ofInt 0)))), (6, g_n v6), (7, .long R29), (9, .long (V2 + R29))]) rfl ?_
        refine r_lload x_159_88 rfl ?_
        refine r_lstore_n x_159_90 (by decide +kernel) rfl (lv1 := [(0, .ref a0), (1, g_n v1), (2, .long (V2 + R29)), (4, .long (V4 + ((R29 >>> ((Int32.ofInt 63).toInt64 &&& 63)) + (Int64.ofInt 0)))), (6, g_n v6), (7, .long R29), (9, .long (V2 + R29))]) rfl ?_
        obtain ⟨h30, h⟩ := h
        refine r_iinc x_159_91 (by decide +kernel) rfl rfl (lv1 := [(0, .ref a0), (1, g_n v1), (2, .long (V2 + R29)), (4, .long (V4 + ((R29 >>> ((Int32.ofInt 63).toInt64 &&& 63)) + (Int64.ofInt 0)))), (6, g_n (v6 + 1)), (7, .long R29), (9, .long (V2 + R29))]) rfl ?_
        refine r_goto x_159_94 (t := 8) (by decide +kernel) ?_
        refine g_drop [0, 1, 2, 4, 6] (lv1 := [(0, .ref a0), (1, g_n v1), (2, .long (V2 + R29)), (4, .long (V4 + ((R29 >>> ((Int32.ofInt 63).toInt64 &&& 63)) + (Int64.ofInt 0)))), (6, g_n (v6 + 1))]) rfl ?_
        exact h
      · replace h := h.1 hc
        refine r_iconst x_159_78 ?_
        refine r_goto x_159_79 (t := 83) (by decide +kernel) ?_
        refine r_i2l x_159_83 (g_Rk rfl) ?_
        refine r_ladd x_159_84 ?_
        refine r_ladd x_159_85 ?_
        refine r_lstore x_159_86 (by decide +kernel) rfl (lv1 := [(0, .ref a0), (1, g_n v1), (2, .long V2), (4, .long (V4 + ((R29 >>> ((Int32.ofInt 63).toInt64 &&& 63)) + (Int64.ofInt 1)))), (6, g_n v6), (7, .long R29), (9, .long (V2 + R29))]) rfl ?_
        refine r_lload x_159_88 rfl ?_
        refine r_lstore_n x_159_90 (by decide +kernel) rfl (lv1 := [(0, .ref a0), (1, g_n v1), (2, .long (V2 + R29)), (4, .long (V4 + ((R29 >>> ((Int32.ofInt 63).toInt64 &&& 63)) + (Int64.ofInt 1)))), (6, g_n v6), (7, .long R29), (9, .long (V2 + R29))]) rfl ?_
        obtain ⟨h31, h⟩ := h
        refine r_iinc x_159_91 (by decide +kernel) rfl rfl (lv1 := [(0, .ref a0), (1, g_n v1), (2, .long (V2 + R29)), (4, .long (V4 + ((R29 >>> ((Int32.ofInt 63).toInt64 &&& 63)) + (Int64.ofInt 1)))), (6, g_n (v6 + 1)), (7, .long R29), (9, .long (V2 + R29))]) rfl ?_
        refine r_goto x_159_94 (t := 8) (by decide +kernel) ?_
        refine g_drop [0, 1, 2, 4, 6] (lv1 := [(0, .ref a0), (1, g_n v1), (2, .long (V2 + R29)), (4, .long (V4 + ((R29 >>> ((Int32.ofInt 63).toInt64 &&& 63)) + (Int64.ofInt 1)))), (6, g_n (v6 + 1))]) rfl ?_
        exact h
    · replace h := h.1 hc
      refine r_goto x_159_31 (t := 91) (by decide +kernel) ?_
      obtain ⟨h32, h⟩ := h
      refine r_iinc x_159_91 (by decide +kernel) rfl rfl (lv1 := [(0, .ref a0), (1, g_n v1), (2, .long V2), (4, .long V4), (6, g_n (v6 + 1))]) rfl ?_
      refine r_goto x_159_94 (t := 8) (by decide +kernel) ?_
      exact h
theorem m_X9_extreme {d : Nat} {M : g_M} {Q : Int → g_M → Prop} {a0 : Nat} {v1 : Int} (hv1 : g_InR v1) {v2 : Int} (hv2 : g_InR v2) (h : g_ok M → g_Run d 160 5 [(0, .ref a0), (1, g_n v1), (2, g_n v2), (3, g_n ((-1))), (4, g_n 0)] [] M (g_qI Q)) : g_Call (d + 1) 160 [.ref a0, g_n v1, g_n v2] M (g_qI Q) := by
  refine g_Call.ok fun hok0 => ?_
  replace h := h hok0
  refine r_body rfl (lv := [(0, .ref a0), (1, g_n v1), (2, g_n v2)]) rfl ?_
  refine g_Run.ok fun hok => ?_
  refine r_iconst x_160_0 ?_
  refine r_istore_n x_160_1 (by decide +kernel) rfl (lv1 := [(0, .ref a0), (1, g_n v1), (2, g_n v2), (3, g_n ((-1)))]) rfl ?_
  refine r_iconst x_160_2 ?_
  refine r_istore x_160_3 (by decide +kernel) rfl (lv1 := [(0, .ref a0), (1, g_n v1), (2, g_n v2), (3, g_n ((-1))), (4, g_n 0)]) rfl ?_
  exact h
theorem s_X9_extreme_5 {d : Nat} {M : g_M} {Q : Int → g_M → Prop} {a0 : Nat} {v1 : Int} (hv1 : g_InR v1) {v2 : Int} (hv2 : g_InR v2) {v3 : Int} (hv3 : g_InR v3) {v4 : Int} (hv4 : g_InR v4) (h : g_ok M → ((v4 < v1 → g_O M a0 9 ∧ ∃ b2, g_r M a0 10 = some b2 ∧ ∃ n4, g_A M b2 1 n4 ∧ ((0 : Int) ≤ v4 ∧ (v4 : Int) < n4) ∧ ((g_i M b2 v4 < 0 → g_InR (v4 + 1) ∧ g_Run d 160 5 [(0, .ref a0), (1, g_n v1), (2, g_n v2), (3, g_n v3), (4, g_n (v4 + 1))] [] M (g_qI Q)) ∧ (¬ g_i M b2 v4 < 0 → ((v3 < 0 → ∃ b8, g_r M a0 10 = some b8 ∧ ∃ n10, g_A M b8 1 n10 ∧ ((0 : Int) ≤ v4 ∧ (v4 : Int) < n10) ∧ g_InR (v4 + 1) ∧ g_Run d 160 5 [(0, .ref a0), (1, g_n v1), (2, g_n v2), (3, g_n (g_i M b8 v4)), (4, g_n (v4 + 1))] [] M (g_qI Q)) ∧ (¬ v3 < 0 → ∃ b14, g_r M a0 1 = some b14 ∧ ∃ b16, g_r M a0 10 = some b16 ∧ ∃ n18, g_A M b16 1 n18 ∧ ((0 : Int) ≤ v4 ∧ (v4 : Int) < n18) ∧ ∃ b21, g_r M a0 1 = some b21 ∧ g_Call d 121 [.ref b14, g_n (g_i M b16 v4), .ref b21, g_n v3, g_n 0] M (g_qI fun r26 M23 => g_ext M M23 → g_ok M23 → g_InR r26 → g_InR (r26 * v2) ∧ ((0 < r26 * v2 → ∃ b30, g_r M23 a0 10 = some b30 ∧ ∃ n32, g_A M23 b30 1 n32 ∧ ((0 : Int) ≤ v4 ∧ (v4 : Int) < n32) ∧ g_InR (v4 + 1) ∧ g_Run d 160 5 [(0, .ref a0), (1, g_n v1), (2, g_n v2), (3, g_n (g_i M23 b30 v4)), (4, g_n (v4 + 1))] [] M23 (g_qI Q)) ∧ (¬ 0 < r26 * v2 → g_InR (v4 + 1) ∧ g_Run d 160 5 [(0, .ref a0), (1, g_n v1), (2, g_n v2), (3, g_n v3), (4, g_n (v4 + 1))] [] M23 (g_qI Q))))))))) ∧ (¬ v4 < v1 → Q v3 M))) : g_Run d 160 5 [(0, .ref a0), (1, g_n v1), (2, g_n v2), (3, g_n v3), (4, g_n v4)] [] M (g_qI Q) := by
  refine g_Run.ok fun hok => ?_
  replace h := h hok
  refine r_iload x_160_5 rfl ?_
  refine r_iload_n x_160_7 rfl ?_
  refine r_ic_ge x_160_8 (t := 64) (by decide +kernel) hv4 hv1 (fun hc => ?_) (fun hc => ?_)
  · replace h := h.2 hc
    refine r_iload_n x_160_64 rfl ?_
    exact r_retI x_160_65 rfl hv3 h
  · replace h := h.1 hc
    refine r_aload_n x_160_11 rfl ?_
    obtain ⟨hO1, h⟩ := h
    obtain ⟨b2, hb3, h⟩ := h
    refine r_getR x_160_12 rfl (ci := 9) (k := 10) (ns := 0) (by decide +kernel) (by decide) rfl (kz := 10) rfl hO1 hb3 ?_
    refine r_iload x_160_15 rfl ?_
    obtain ⟨n4, hA5, h⟩ := h
    obtain ⟨h6, h⟩ := h
    refine r_iald x_160_17 hA5 hv4 h6.1 h6.2 ?_
    refine r_if_lt x_160_18 (t := 58) (by decide +kernel) (hok.1 _ _) (fun hc => ?_) (fun hc => ?_)
    · replace h := h.1 hc
      obtain ⟨h7, h⟩ := h
      refine r_iinc x_160_58 (by decide +kernel) rfl rfl (lv1 := [(0, .ref a0), (1, g_n v1), (2, g_n v2), (3, g_n v3), (4, g_n (v4 + 1))]) rfl ?_
      refine r_goto x_160_61 (t := 5) (by decide +kernel) ?_
      exact h
    · replace h := h.2 hc
      refine r_iload_n x_160_21 rfl ?_
      refine r_if_lt x_160_22 (t := 50) (by decide +kernel) hv3 (fun hc => ?_) (fun hc => ?_)
      · replace h := h.1 hc
        refine r_aload_n x_160_50 rfl ?_
        obtain ⟨b8, hb9, h⟩ := h
        refine r_getR x_160_51 rfl (ci := 9) (k := 10) (ns := 0) (by decide +kernel) (by decide) rfl (kz := 10) rfl hO1 hb9 ?_
        refine r_iload x_160_54 rfl ?_
        obtain ⟨n10, hA11, h⟩ := h
        obtain ⟨h12, h⟩ := h
        refine r_iald x_160_56 hA11 hv4 h12.1 h12.2 ?_
        refine r_istore_n x_160_57 (by decide +kernel) rfl (lv1 := [(0, .ref a0), (1, g_n v1), (2, g_n v2), (3, g_n (g_i M b8 v4)), (4, g_n v4)]) rfl ?_
        obtain ⟨h13, h⟩ := h
        refine r_iinc x_160_58 (by decide +kernel) rfl rfl (lv1 := [(0, .ref a0), (1, g_n v1), (2, g_n v2), (3, g_n (g_i M b8 v4)), (4, g_n (v4 + 1))]) rfl ?_
        refine r_goto x_160_61 (t := 5) (by decide +kernel) ?_
        exact h
      · replace h := h.2 hc
        refine r_aload_n x_160_25 rfl ?_
        obtain ⟨b14, hb15, h⟩ := h
        refine r_getR x_160_26 rfl (ci := 9) (k := 1) (ns := 0) (by decide +kernel) (by decide) rfl (kz := 1) rfl hO1 hb15 ?_
        refine r_aload_n x_160_29 rfl ?_
        obtain ⟨b16, hb17, h⟩ := h
        refine r_getR x_160_30 rfl (ci := 9) (k := 10) (ns := 0) (by decide +kernel) (by decide) rfl (kz := 10) rfl hO1 hb17 ?_
        refine r_iload x_160_33 rfl ?_
        obtain ⟨n18, hA19, h⟩ := h
        obtain ⟨h20, h⟩ := h
        refine r_iald x_160_35 hA19 hv4 h20.1 h20.2 ?_
        refine r_aload_n x_160_36 rfl ?_
        obtain ⟨b21, hb22, h⟩ := h
        refine r_getR x_160_37 rfl (ci := 9) (k := 1) (ns := 0) (by decide +kernel) (by decide) rfl (kz := 1) rfl hO1 hb22 ?_
        refine r_iload_n x_160_40 rfl ?_
        refine r_iconst x_160_41 ?_
        refine r_invS x_160_42 (z := 121) (ns := 1) (by decide +kernel) (as := [.ref b14, g_n (g_i M b16 v4), .ref b21, g_n v3, g_n 0]) (r := []) rfl rfl rfl ?_
        refine r_callI h fun r26 M23 hx24 hok25 hr27 h => ?_
        replace h := h hx24 hok25 hr27
        replace hO1 := hO1.up hx24
        replace hA5 := hA5.up hx24
        replace hA19 := hA19.up hx24
        refine r_iload_n x_160_45 rfl ?_
        refine r_imul x_160_46 ?_
        obtain ⟨h28, h⟩ := h
        refine r_if_le x_160_47 (t := 58) (by decide +kernel) h28 (fun hc => ?_) (fun hc => ?_)
        · replace h := h.2 hc
          obtain ⟨h29, h⟩ := h
          refine r_iinc x_160_58 (by decide +kernel) rfl rfl (lv1 := [(0, .ref a0), (1, g_n v1), (2, g_n v2), (3, g_n v3), (4, g_n (v4 + 1))]) rfl ?_
          refine r_goto x_160_61 (t := 5) (by decide +kernel) ?_
          exact h
        · replace h := h.1 hc
          refine r_aload_n x_160_50 rfl ?_
          obtain ⟨b30, hb31, h⟩ := h
          refine r_getR x_160_51 rfl (ci := 9) (k := 10) (ns := 0) (by decide +kernel) (by decide) rfl (kz := 10) rfl hO1 hb31 ?_
          refine r_iload x_160_54 rfl ?_
          obtain ⟨n32, hA33, h⟩ := h
          obtain ⟨h34, h⟩ := h
          refine r_iald x_160_56 hA33 hv4 h34.1 h34.2 ?_
          refine r_istore_n x_160_57 (by decide +kernel) rfl (lv1 := [(0, .ref a0), (1, g_n v1), (2, g_n v2), (3, g_n (g_i M23 b30 v4)), (4, g_n v4)]) rfl ?_
          obtain ⟨h35, h⟩ := h
          refine r_iinc x_160_58 (by decide +kernel) rfl rfl (lv1 := [(0, .ref a0), (1, g_n v1), (2, g_n v2), (3, g_n (g_i M23 b30 v4)), (4, g_n (v4 + 1))]) rfl ?_
          refine r_goto x_160_61 (t := 5) (by decide +kernel) ?_
          exact h
theorem m_X9_writeValues {d : Nat} {M : g_M} {Q : g_M → Prop} {a0 : Nat} {v1 : Int} (hv1 : g_InR v1) {v2 : Int} (hv2 : g_InR v2) (h : g_ok M → g_O M a0 9 ∧ ∃ b2, g_r M a0 4 = some b2 ∧ g_O M b2 4 ∧ g_Call d 85 [.ref b2] M (g_qI fun r8 M5 => g_ext M M5 → g_ok M5 → g_InR r8 → g_Run d 161 14 [(0, .ref a0), (1, g_n v1), (2, g_n v2), (3, g_n r8), (4, g_n 0), (5, g_n 0)] [] M5 (g_qV Q))) : g_Call (d + 1) 161 [.ref a0, g_n v1, g_n v2] M (g_qV Q) := by
  refine g_Call.ok fun hok0 => ?_
  replace h := h hok0
  refine r_body rfl (lv := [(0, .ref a0), (1, g_n v1), (2, g_n v2)]) rfl ?_
  refine g_Run.ok fun hok => ?_
  refine r_aload_n x_161_0 rfl ?_
  obtain ⟨hO1, h⟩ := h
  obtain ⟨b2, hb3, h⟩ := h
  refine r_getR x_161_1 rfl (ci := 9) (k := 4) (ns := 0) (by decide +kernel) (by decide) rfl (kz := 4) rfl hO1 hb3 ?_
  obtain ⟨hO4, h⟩ := h
  refine r_invV x_161_4 (z := 85) (ns := 1) (by decide +kernel) (as := []) (r := []) rfl rfl rfl hO4 rfl rfl ?_
  refine r_callI h fun r8 M5 hx6 hok7 hr9 h => ?_
  replace h := h hx6 hok7 hr9
  replace hO1 := hO1.up hx6
  replace hO4 := hO4.up hx6
  refine r_istore_n x_161_7 (by decide +kernel) rfl (lv1 := [(0, .ref a0), (1, g_n v1), (2, g_n v2), (3, g_n r8)]) rfl ?_
  refine r_iconst x_161_8 ?_
  refine r_istore x_161_9 (by decide +kernel) rfl (lv1 := [(0, .ref a0), (1, g_n v1), (2, g_n v2), (3, g_n r8), (4, g_n 0)]) rfl ?_
  refine r_iconst x_161_11 ?_
  refine r_istore x_161_12 (by decide +kernel) rfl (lv1 := [(0, .ref a0), (1, g_n v1), (2, g_n v2), (3, g_n r8), (4, g_n 0), (5, g_n 0)]) rfl ?_
  exact h
theorem s_X9_writeValues_14 {d : Nat} {M : g_M} {Q : g_M → Prop} {a0 : Nat} {v1 : Int} (hv1 : g_InR v1) {v2 : Int} (hv2 : g_InR v2) {v3 : Int} (hv3 : g_InR v3) {v4 : Int} (hv4 : g_InR v4) {v5 : Int} (hv5 : g_InR v5) (h : g_ok M → ((v5 < v1 → g_O M a0 9 ∧ ∃ b9, g_r M a0 10 = some b9 ∧ ∃ n11, g_A M b9 1 n11 ∧ ((0 : Int) ≤ v5 ∧ (v5 : Int) < n11) ∧ ((g_i M b9 v5 < 0 → g_Run d 161 40 [(0, .ref a0), (1, g_n v1), (2, g_n v2), (3, g_n v3), (4, g_n v4), (5, g_n v5), (6, g_n 0), (7, g_n 0)] [] M (g_qV Q)) ∧ (¬ g_i M b9 v5 < 0 → g_Run d 161 40 [(0, .ref a0), (1, g_n v1), (2, g_n v2), (3, g_n v3), (4, g_n v4), (5, g_n v5), (6, g_n 1), (7, g_n 0)] [] M (g_qV Q)))) ∧ (¬ v5 < v1 → g_O M a0 9 ∧ ∃ b2, g_r M a0 4 = some b2 ∧ g_O M b2 4 ∧ g_Call d 86 [.ref b2, g_n v3] M (g_qV fun M5 => g_ext M M5 → g_ok M5 → Q M5)))) : g_Run d 161 14 [(0, .ref a0), (1, g_n v1), (2, g_n v2), (3, g_n v3), (4, g_n v4), (5, g_n v5)] [] M (g_qV Q) := by
  refine g_Run.ok fun hok => ?_
  replace h := h hok
  refine r_iload x_161_14 rfl ?_
  refine r_iload_n x_161_16 rfl ?_
  refine r_ic_ge x_161_17 (t := 163) (by decide +kernel) hv5 hv1 (fun hc => ?_) (fun hc => ?_)
  · replace h := h.2 hc
    refine r_aload_n x_161_163 rfl ?_
    obtain ⟨hO1, h⟩ := h
    obtain ⟨b2, hb3, h⟩ := h
    refine r_getR x_161_164 rfl (ci := 9) (k := 4) (ns := 0) (by decide +kernel) (by decide) rfl (kz := 4) rfl hO1 hb3 ?_
    refine r_iload_n x_161_167 rfl ?_
    obtain ⟨hO4, h⟩ := h
    refine r_invV x_161_168 (z := 86) (ns := 1) (by decide +kernel) (as := [g_n v3]) (r := []) rfl rfl rfl hO4 rfl rfl ?_
    refine r_callV h fun M5 hx6 hok7 h => ?_
    replace h := h hx6 hok7
    replace hO1 := hO1.up hx6
    replace hO4 := hO4.up hx6
    exact r_retV x_161_171 rfl h
  · replace h := h.1 hc
    refine r_aload_n x_161_20 rfl ?_
    obtain ⟨hO8, h⟩ := h
    obtain ⟨b9, hb10, h⟩ := h
    refine r_getR x_161_21 rfl (ci := 9) (k := 10) (ns := 0) (by decide +kernel) (by decide) rfl (kz := 10) rfl hO8 hb10 ?_
    refine r_iload x_161_24 rfl ?_
    obtain ⟨n11, hA12, h⟩ := h
    obtain ⟨h13, h⟩ := h
    refine r_iald x_161_26 hA12 hv5 h13.1 h13.2 ?_
    refine r_if_lt x_161_27 (t := 34) (by decide +kernel) (hok.1 _ _) (fun hc => ?_) (fun hc => ?_)
    · replace h := h.1 hc
      refine r_iconst x_161_34 ?_
      refine r_istore x_161_35 (by decide +kernel) rfl (lv1 := [(0, .ref a0), (1, g_n v1), (2, g_n v2), (3, g_n v3), (4, g_n v4), (5, g_n v5), (6, g_n 0)]) rfl ?_
      refine r_iconst x_161_37 ?_
      refine r_istore x_161_38 (by decide +kernel) rfl (lv1 := [(0, .ref a0), (1, g_n v1), (2, g_n v2), (3, g_n v3), (4, g_n v4), (5, g_n v5), (6, g_n 0), (7, g_n 0)]) rfl ?_
      exact h
    · replace h := h.2 hc
      refine r_iconst x_161_30 ?_
      refine r_goto x_161_31 (t := 35) (by decide +kernel) ?_
      refine r_istore x_161_35 (by decide +kernel) rfl (lv1 := [(0, .ref a0), (1, g_n v1), (2, g_n v2), (3, g_n v3), (4, g_n v4), (5, g_n v5), (6, g_n 1)]) rfl ?_
      refine r_iconst x_161_37 ?_
      refine r_istore x_161_38 (by decide +kernel) rfl (lv1 := [(0, .ref a0), (1, g_n v1), (2, g_n v2), (3, g_n v3), (4, g_n v4), (5, g_n v5), (6, g_n 1), (7, g_n 0)]) rfl ?_
      exact h
theorem s_X9_writeValues_40 {d : Nat} {M : g_M} {Q : g_M → Prop} {a0 : Nat} {v1 : Int} (hv1 : g_InR v1) {v2 : Int} (hv2 : g_InR v2) {v3 : Int} (hv3 : g_InR v3) {v4 : Int} (hv4 : g_InR v4) {v5 : Int} (hv5 : g_InR v5) {v6 : Int} (hv6 : g_InR v6) {v7 : Int} (hv7 : g_InR v7) (h : g_ok M → ((v7 < v5 → ((v2 = 0 → g_Run d 161 108 [(0, .ref a0), (1, g_n v1), (2, g_n v2), (3, g_n v3), (4, g_n v4), (5, g_n v5), (6, g_n v6), (7, g_n v7)] [] M (g_qV Q)) ∧ (¬ v2 = 0 → ((v6 = 0 → g_Run d 161 108 [(0, .ref a0), (1, g_n v1), (2, g_n v2), (3, g_n v3), (4, g_n v4), (5, g_n v5), (6, g_n v6), (7, g_n v7)] [] M (g_qV Q)) ∧ (¬ v6 = 0 → g_O M a0 9 ∧ ∃ b2, g_r M a0 10 = some b2 ∧ ∃ n4, g_A M b2 1 n4 ∧ ((0 : Int) ≤ v7 ∧ (v7 : Int) < n4) ∧ ((g_i M b2 v7 < 0 → g_InR (v7 + 1) ∧ g_Run d 161 40 [(0, .ref a0), (1, g_n v1), (2, g_n v2), (3, g_n v3), (4, g_n v4), (5, g_n v5), (6, g_n 1), (7, g_n (v7 + 1))] [] M (g_qV Q)) ∧ (¬ g_i M b2 v7 < 0 → ∃ b8, g_r M a0 1 = some b8 ∧ ∃ b10, g_r M a0 10 = some b10 ∧ ∃ n12, g_A M b10 1 n12 ∧ ((0 : Int) ≤ v7 ∧ (v7 : Int) < n12) ∧ ∃ b15, g_r M a0 1 = some b15 ∧ ∃ b17, g_r M a0 10 = some b17 ∧ ∃ n19, g_A M b17 1 n19 ∧ ((0 : Int) ≤ v5 ∧ (v5 : Int) < n19) ∧ g_Call d 121 [.ref b8, g_n (g_i M b10 v7), .ref b15, g_n (g_i M b17 v5), g_n 0] M (g_qI fun r25 M22 => g_ext M M22 → g_ok M22 → g_InR r25 → ((r25 = 0 → g_InR (v7 + 1) ∧ g_Run d 161 40 [(0, .ref a0), (1, g_n v1), (2, g_n v2), (3, g_n v3), (4, g_n v4), (5, g_n v5), (6, g_n 0), (7, g_n (v7 + 1))] [] M22 (g_qV Q)) ∧ (¬ r25 = 0 → g_InR (v7 + 1) ∧ g_Run d 161 40 [(0, .ref a0), (1, g_n v1), (2, g_n v2), (3, g_n v3), (4, g_n v4), (5, g_n v5), (6, g_n 1), (7, g_n (v7 + 1))] [] M22 (g_qV Q))))))))))) ∧ (¬ v7 < v5 → g_Run d 161 108 [(0, .ref a0), (1, g_n v1), (2, g_n v2), (3, g_n v3), (4, g_n v4), (5, g_n v5), (6, g_n v6), (7, g_n v7)] [] M (g_qV Q)))) : g_Run d 161 40 [(0, .ref a0), (1, g_n v1), (2, g_n v2), (3, g_n v3), (4, g_n v4), (5, g_n v5), (6, g_n v6), (7, g_n v7)] [] M (g_qV Q) := by
  refine g_Run.ok fun hok => ?_
  replace h := h hok
  refine r_iload x_161_40 rfl ?_
  refine r_iload x_161_42 rfl ?_
  refine r_ic_ge x_161_44 (t := 108) (by decide +kernel) hv7 hv5 (fun hc => ?_) (fun hc => ?_)
  · replace h := h.2 hc
    exact h
  · replace h := h.1 hc
    refine r_iload_n x_161_47 rfl ?_
    refine r_if_eq x_161_48 (t := 108) (by decide +kernel) hv2 (fun hc => ?_) (fun hc => ?_)
    · replace h := h.1 hc
      exact h
    · replace h := h.2 hc
      refine r_iload x_161_51 rfl ?_
      refine r_if_eq x_161_53 (t := 108) (by decide +kernel) hv6 (fun hc => ?_) (fun hc => ?_)
      · replace h := h.1 hc
        exact h
      · replace h := h.2 hc
        refine r_aload_n x_161_56 rfl ?_
        obtain ⟨hO1, h⟩ := h
        obtain ⟨b2, hb3, h⟩ := h
        refine r_getR x_161_57 rfl (ci := 9) (k := 10) (ns := 0) (by decide +kernel) (by decide) rfl (kz := 10) rfl hO1 hb3 ?_
        refine r_iload x_161_60 rfl ?_
        obtain ⟨n4, hA5, h⟩ := h
        obtain ⟨h6, h⟩ := h
        refine r_iald x_161_62 hA5 hv7 h6.1 h6.2 ?_
        refine r_if_lt x_161_63 (t := 95) (by decide +kernel) (hok.1 _ _) (fun hc => ?_) (fun hc => ?_)
        · replace h := h.1 hc
          refine r_iconst x_161_95 ?_
          refine r_goto x_161_96 (t := 100) (by decide +kernel) ?_
          refine r_istore x_161_100 (by decide +kernel) rfl (lv1 := [(0, .ref a0), (1, g_n v1), (2, g_n v2), (3, g_n v3), (4, g_n v4), (5, g_n v5), (6, g_n 1), (7, g_n v7)]) rfl ?_
          obtain ⟨h7, h⟩ := h
          refine r_iinc x_161_102 (by decide +kernel) rfl rfl (lv1 := [(0, .ref a0), (1, g_n v1), (2, g_n v2), (3, g_n v3), (4, g_n v4), (5, g_n v5), (6, g_n 1), (7, g_n (v7 + 1))]) rfl ?_
          refine r_goto x_161_105 (t := 40) (by decide +kernel) ?_
          exact h
        · replace h := h.2 hc
          refine r_aload_n x_161_66 rfl ?_
          obtain ⟨b8, hb9, h⟩ := h
          refine r_getR x_161_67 rfl (ci := 9) (k := 1) (ns := 0) (by decide +kernel) (by decide) rfl (kz := 1) rfl hO1 hb9 ?_
          refine r_aload_n x_161_70 rfl ?_
          obtain ⟨b10, hb11, h⟩ := h
          refine r_getR x_161_71 rfl (ci := 9) (k := 10) (ns := 0) (by decide +kernel) (by decide) rfl (kz := 10) rfl hO1 hb11 ?_
          refine r_iload x_161_74 rfl ?_
          obtain ⟨n12, hA13, h⟩ := h
          obtain ⟨h14, h⟩ := h
          refine r_iald x_161_76 hA13 hv7 h14.1 h14.2 ?_
          refine r_aload_n x_161_77 rfl ?_
          obtain ⟨b15, hb16, h⟩ := h
          refine r_getR x_161_78 rfl (ci := 9) (k := 1) (ns := 0) (by decide +kernel) (by decide) rfl (kz := 1) rfl hO1 hb16 ?_
          refine r_aload_n x_161_81 rfl ?_
          obtain ⟨b17, hb18, h⟩ := h
          refine r_getR x_161_82 rfl (ci := 9) (k := 10) (ns := 0) (by decide +kernel) (by decide) rfl (kz := 10) rfl hO1 hb18 ?_
          refine r_iload x_161_85 rfl ?_
          obtain ⟨n19, hA20, h⟩ := h
          obtain ⟨h21, h⟩ := h
          refine r_iald x_161_87 hA20 hv5 h21.1 h21.2 ?_
          refine r_iconst x_161_88 ?_
          refine r_invS x_161_89 (z := 121) (ns := 1) (by decide +kernel) (as := [.ref b8, g_n (g_i M b10 v7), .ref b15, g_n (g_i M b17 v5), g_n 0]) (r := []) rfl rfl rfl ?_
          refine r_callI h fun r25 M22 hx23 hok24 hr26 h => ?_
          replace h := h hx23 hok24 hr26
          replace hO1 := hO1.up hx23
          replace hA5 := hA5.up hx23
          replace hA13 := hA13.up hx23
          replace hA20 := hA20.up hx23
          refine r_if_eq x_161_92 (t := 99) (by decide +kernel) hr26 (fun hc => ?_) (fun hc => ?_)
          · replace h := h.1 hc
            refine r_iconst x_161_99 ?_
            refine r_istore x_161_100 (by decide +kernel) rfl (lv1 := [(0, .ref a0), (1, g_n v1), (2, g_n v2), (3, g_n v3), (4, g_n v4), (5, g_n v5), (6, g_n 0), (7, g_n v7)]) rfl ?_
            obtain ⟨h27, h⟩ := h
            refine r_iinc x_161_102 (by decide +kernel) rfl rfl (lv1 := [(0, .ref a0), (1, g_n v1), (2, g_n v2), (3, g_n v3), (4, g_n v4), (5, g_n v5), (6, g_n 0), (7, g_n (v7 + 1))]) rfl ?_
            refine r_goto x_161_105 (t := 40) (by decide +kernel) ?_
            exact h
          · replace h := h.2 hc
            refine r_iconst x_161_95 ?_
            refine r_goto x_161_96 (t := 100) (by decide +kernel) ?_
            refine r_istore x_161_100 (by decide +kernel) rfl (lv1 := [(0, .ref a0), (1, g_n v1), (2, g_n v2), (3, g_n v3), (4, g_n v4), (5, g_n v5), (6, g_n 1), (7, g_n v7)]) rfl ?_
            obtain ⟨h28, h⟩ := h
            refine r_iinc x_161_102 (by decide +kernel) rfl rfl (lv1 := [(0, .ref a0), (1, g_n v1), (2, g_n v2), (3, g_n v3), (4, g_n v4), (5, g_n v5), (6, g_n 1), (7, g_n (v7 + 1))]) rfl ?_
            refine r_goto x_161_105 (t := 40) (by decide +kernel) ?_
            exact h
theorem s_X9_writeValues_108 {d : Nat} {M : g_M} {Q : g_M → Prop} {a0 : Nat} {v1 : Int} (hv1 : g_InR v1) {v2 : Int} (hv2 : g_InR v2) {v3 : Int} (hv3 : g_InR v3) {v4 : Int} (hv4 : g_InR v4) {v5 : Int} (hv5 : g_InR v5) {v6 : Int} (hv6 : g_InR v6) {v7 : Int} (hv7 : g_InR v7) (h : g_ok M → ((v6 = 0 → g_InR (v5 + 1) ∧ g_Run d 161 14 [(0, .ref a0), (1, g_n v1), (2, g_n v2), (3, g_n v3), (4, g_n v4), (5, g_n (v5 + 1))] [] M (g_qV Q)) ∧ (¬ v6 = 0 → g_O M a0 9 ∧ ∃ b3, g_r M a0 4 = some b3 ∧ ∃ b5, g_r M a0 1 = some b5 ∧ ∃ b7, g_r M a0 10 = some b7 ∧ ∃ n9, g_A M b7 1 n9 ∧ ((0 : Int) ≤ v5 ∧ (v5 : Int) < n9) ∧ g_Call d 108 [.ref b5, g_n (g_i M b7 v5)] M (g_qI fun r15 M12 => g_ext M M12 → g_ok M12 → g_InR r15 → g_O M12 b3 4 ∧ g_Call d 83 [.ref b3, g_n r15, g_n v4] M12 (g_qV fun M18 => g_ext M12 M18 → g_ok M18 → ∃ b21, g_r M18 a0 4 = some b21 ∧ ∃ b23, g_r M18 a0 1 = some b23 ∧ ∃ b25, g_r M18 a0 10 = some b25 ∧ ∃ n27, g_A M18 b25 1 n27 ∧ ((0 : Int) ≤ v5 ∧ (v5 : Int) < n27) ∧ g_O M18 b21 4 ∧ g_Call d 84 [.ref b21, .ref b23, g_n (g_i M18 b25 v5)] M18 (g_qV fun M31 => g_ext M18 M31 → g_ok M31 → g_InR (v4 + 1) ∧ g_InR (v5 + 1) ∧ g_Run d 161 14 [(0, .ref a0), (1, g_n v1), (2, g_n v2), (3, g_n v3), (4, g_n (v4 + 1)), (5, g_n (v5 + 1))] [] M31 (g_qV Q))))))) : g_Run d 161 108 [(0, .ref a0), (1, g_n v1), (2, g_n v2), (3, g_n v3), (4, g_n v4), (5, g_n v5), (6, g_n v6), (7, g_n v7)] [] M (g_qV Q) := by
  refine g_Run.ok fun hok => ?_
  replace h := h hok
  refine r_iload x_161_108 rfl ?_
  refine r_if_eq x_161_110 (t := 157) (by decide +kernel) hv6 (fun hc => ?_) (fun hc => ?_)
  · replace h := h.1 hc
    obtain ⟨h1, h⟩ := h
    refine r_iinc x_161_157 (by decide +kernel) rfl rfl (lv1 := [(0, .ref a0), (1, g_n v1), (2, g_n v2), (3, g_n v3), (4, g_n v4), (5, g_n (v5 + 1)), (6, g_n v6), (7, g_n v7)]) rfl ?_
    refine r_goto x_161_160 (t := 14) (by decide +kernel) ?_
    refine g_drop [0, 1, 2, 3, 4, 5] (lv1 := [(0, .ref a0), (1, g_n v1), (2, g_n v2), (3, g_n v3), (4, g_n v4), (5, g_n (v5 + 1))]) rfl ?_
    exact h
  · replace h := h.2 hc
    refine r_aload_n x_161_113 rfl ?_
    obtain ⟨hO2, h⟩ := h
    obtain ⟨b3, hb4, h⟩ := h
    refine r_getR x_161_114 rfl (ci := 9) (k := 4) (ns := 0) (by decide +kernel) (by decide) rfl (kz := 4) rfl hO2 hb4 ?_
    refine r_aload_n x_161_117 rfl ?_
    obtain ⟨b5, hb6, h⟩ := h
    refine r_getR x_161_118 rfl (ci := 9) (k := 1) (ns := 0) (by decide +kernel) (by decide) rfl (kz := 1) rfl hO2 hb6 ?_
    refine r_aload_n x_161_121 rfl ?_
    obtain ⟨b7, hb8, h⟩ := h
    refine r_getR x_161_122 rfl (ci := 9) (k := 10) (ns := 0) (by decide +kernel) (by decide) rfl (kz := 10) rfl hO2 hb8 ?_
    refine r_iload x_161_125 rfl ?_
    obtain ⟨n9, hA10, h⟩ := h
    obtain ⟨h11, h⟩ := h
    refine r_iald x_161_127 hA10 hv5 h11.1 h11.2 ?_
    refine r_invS x_161_128 (z := 108) (ns := 1) (by decide +kernel) (as := [.ref b5, g_n (g_i M b7 v5)]) (r := [.ref b3]) rfl rfl rfl ?_
    refine r_callI h fun r15 M12 hx13 hok14 hr16 h => ?_
    replace h := h hx13 hok14 hr16
    replace hO2 := hO2.up hx13
    replace hA10 := hA10.up hx13
    refine r_iload x_161_131 rfl ?_
    obtain ⟨hO17, h⟩ := h
    refine r_invV x_161_133 (z := 83) (ns := 1) (by decide +kernel) (as := [g_n r15, g_n v4]) (r := []) rfl rfl rfl hO17 rfl rfl ?_
    refine r_callV h fun M18 hx19 hok20 h => ?_
    replace h := h hx19 hok20
    replace hO2 := hO2.up hx19
    replace hO17 := hO17.up hx19
    replace hA10 := hA10.up hx19
    refine r_aload_n x_161_136 rfl ?_
    obtain ⟨b21, hb22, h⟩ := h
    refine r_getR x_161_137 rfl (ci := 9) (k := 4) (ns := 0) (by decide +kernel) (by decide) rfl (kz := 4) rfl hO2 hb22 ?_
    refine r_aload_n x_161_140 rfl ?_
    obtain ⟨b23, hb24, h⟩ := h
    refine r_getR x_161_141 rfl (ci := 9) (k := 1) (ns := 0) (by decide +kernel) (by decide) rfl (kz := 1) rfl hO2 hb24 ?_
    refine r_aload_n x_161_144 rfl ?_
    obtain ⟨b25, hb26, h⟩ := h
    refine r_getR x_161_145 rfl (ci := 9) (k := 10) (ns := 0) (by decide +kernel) (by decide) rfl (kz := 10) rfl hO2 hb26 ?_
    refine r_iload x_161_148 rfl ?_
    obtain ⟨n27, hA28, h⟩ := h
    obtain ⟨h29, h⟩ := h
    refine r_iald x_161_150 hA28 hv5 h29.1 h29.2 ?_
    obtain ⟨hO30, h⟩ := h
    refine r_invV x_161_151 (z := 84) (ns := 1) (by decide +kernel) (as := [.ref b23, g_n (g_i M18 b25 v5)]) (r := []) rfl rfl rfl hO30 rfl rfl ?_
    refine r_callV h fun M31 hx32 hok33 h => ?_
    replace h := h hx32 hok33
    replace hO2 := hO2.up hx32
    replace hO17 := hO17.up hx32
    replace hO30 := hO30.up hx32
    replace hA10 := hA10.up hx32
    replace hA28 := hA28.up hx32
    obtain ⟨h34, h⟩ := h
    refine r_iinc x_161_154 (by decide +kernel) rfl rfl (lv1 := [(0, .ref a0), (1, g_n v1), (2, g_n v2), (3, g_n v3), (4, g_n (v4 + 1)), (5, g_n v5), (6, g_n v6), (7, g_n v7)]) rfl ?_
    obtain ⟨h35, h⟩ := h
    refine r_iinc x_161_157 (by decide +kernel) rfl rfl (lv1 := [(0, .ref a0), (1, g_n v1), (2, g_n v2), (3, g_n v3), (4, g_n (v4 + 1)), (5, g_n (v5 + 1)), (6, g_n v6), (7, g_n v7)]) rfl ?_
    refine r_goto x_161_160 (t := 14) (by decide +kernel) ?_
    refine g_drop [0, 1, 2, 3, 4, 5] (lv1 := [(0, .ref a0), (1, g_n v1), (2, g_n v2), (3, g_n v3), (4, g_n (v4 + 1)), (5, g_n (v5 + 1))]) rfl ?_
    exact h
theorem m_X9_wrongInSort {d : Nat} {M : g_M} {Q : Int → g_M → Prop} {a0 : Nat} {v1 : Int} (hv1 : g_InR v1) (h : g_ok M → g_O M a0 9 ∧ ∃ b2, g_r M a0 1 = some b2 ∧ g_Call d 108 [.ref b2, g_n v1] M (g_qI fun r7 M4 => g_ext M M4 → g_ok M4 → g_InR r7 → ((r7 = 3 → ∃ b9, g_r M4 a0 1 = some b9 ∧ g_Call d 113 [.ref b9, g_n v1] M4 (g_qI fun r14 M11 => g_ext M4 M11 → g_ok M11 → g_InR r14 → ((r14 < 1 → Q 2 M11) ∧ (¬ r14 < 1 → ∃ b16, g_r M11 a0 1 = some b16 ∧ g_Call d 113 [.ref b16, g_n v1] M11 (g_qI fun r21 M18 => g_ext M11 M18 → g_ok M18 → g_InR r21 → ((4 < r21 → Q 2 M18) ∧ (¬ 4 < r21 → ∃ b23, g_r M18 a0 1 = some b23 ∧ g_Call d 112 [.ref b23, g_n v1] M18 (g_qI fun r28 M25 => g_ext M18 M25 → g_ok M25 → g_InR r28 → g_Run d 162 49 [(0, .ref a0), (1, g_n v1), (2, g_n r28), (3, g_n 0)] [] M25 (g_qI Q))))))))) ∧ (¬ r7 = 3 → Q 2 M4)))) : g_Call (d + 1) 162 [.ref a0, g_n v1] M (g_qI Q) := by
  refine g_Call.ok fun hok0 => ?_
  replace h := h hok0
  refine r_body rfl (lv := [(0, .ref a0), (1, g_n v1)]) rfl ?_
  refine g_Run.ok fun hok => ?_
  refine r_aload_n x_162_0 rfl ?_
  obtain ⟨hO1, h⟩ := h
  obtain ⟨b2, hb3, h⟩ := h
  refine r_getR x_162_1 rfl (ci := 9) (k := 1) (ns := 0) (by decide +kernel) (by decide) rfl (kz := 1) rfl hO1 hb3 ?_
  refine r_iload_n x_162_4 rfl ?_
  refine r_invS x_162_5 (z := 108) (ns := 1) (by decide +kernel) (as := [.ref b2, g_n v1]) (r := []) rfl rfl rfl ?_
  refine r_callI h fun r7 M4 hx5 hok6 hr8 h => ?_
  replace h := h hx5 hok6 hr8
  replace hO1 := hO1.up hx5
  refine r_iconst x_162_8 ?_
  refine r_ic_ne x_162_9 (t := 36) (by decide +kernel) hr8 (g_Rk rfl) (fun hc => ?_) (fun hc => ?_)
  · replace h := h.2 hc
    refine r_iconst x_162_36 ?_
    exact r_retI x_162_37 rfl (g_Rk rfl) h
  · replace h := h.1 hc
    refine r_aload_n x_162_12 rfl ?_
    obtain ⟨b9, hb10, h⟩ := h
    refine r_getR x_162_13 rfl (ci := 9) (k := 1) (ns := 0) (by decide +kernel) (by decide) rfl (kz := 1) rfl hO1 hb10 ?_
    refine r_iload_n x_162_16 rfl ?_
    refine r_invS x_162_17 (z := 113) (ns := 1) (by decide +kernel) (as := [.ref b9, g_n v1]) (r := []) rfl rfl rfl ?_
    refine r_callI h fun r14 M11 hx12 hok13 hr15 h => ?_
    replace h := h hx12 hok13 hr15
    replace hO1 := hO1.up hx12
    refine r_iconst x_162_20 ?_
    refine r_ic_lt x_162_21 (t := 36) (by decide +kernel) hr15 (g_Rk rfl) (fun hc => ?_) (fun hc => ?_)
    · replace h := h.1 hc
      refine r_iconst x_162_36 ?_
      exact r_retI x_162_37 rfl (g_Rk rfl) h
    · replace h := h.2 hc
      refine r_aload_n x_162_24 rfl ?_
      obtain ⟨b16, hb17, h⟩ := h
      refine r_getR x_162_25 rfl (ci := 9) (k := 1) (ns := 0) (by decide +kernel) (by decide) rfl (kz := 1) rfl hO1 hb17 ?_
      refine r_iload_n x_162_28 rfl ?_
      refine r_invS x_162_29 (z := 113) (ns := 1) (by decide +kernel) (as := [.ref b16, g_n v1]) (r := []) rfl rfl rfl ?_
      refine r_callI h fun r21 M18 hx19 hok20 hr22 h => ?_
      replace h := h hx19 hok20 hr22
      replace hO1 := hO1.up hx19
      refine r_iconst x_162_32 ?_
      refine r_ic_le x_162_33 (t := 38) (by decide +kernel) hr22 (g_Rk rfl) (fun hc => ?_) (fun hc => ?_)
      · replace h := h.2 hc
        refine r_aload_n x_162_38 rfl ?_
        obtain ⟨b23, hb24, h⟩ := h
        refine r_getR x_162_39 rfl (ci := 9) (k := 1) (ns := 0) (by decide +kernel) (by decide) rfl (kz := 1) rfl hO1 hb24 ?_
        refine r_iload_n x_162_42 rfl ?_
        refine r_invS x_162_43 (z := 112) (ns := 1) (by decide +kernel) (as := [.ref b23, g_n v1]) (r := []) rfl rfl rfl ?_
        refine r_callI h fun r28 M25 hx26 hok27 hr29 h => ?_
        replace h := h hx26 hok27 hr29
        replace hO1 := hO1.up hx26
        refine r_istore_n x_162_46 (by decide +kernel) rfl (lv1 := [(0, .ref a0), (1, g_n v1), (2, g_n r28)]) rfl ?_
        refine r_iconst x_162_47 ?_
        refine r_istore_n x_162_48 (by decide +kernel) rfl (lv1 := [(0, .ref a0), (1, g_n v1), (2, g_n r28), (3, g_n 0)]) rfl ?_
        exact h
      · replace h := h.1 hc
        refine r_iconst x_162_36 ?_
        exact r_retI x_162_37 rfl (g_Rk rfl) h
theorem s_X9_wrongInSort_49 {d : Nat} {M : g_M} {Q : Int → g_M → Prop} {a0 : Nat} {v1 : Int} (hv1 : g_InR v1) {v2 : Int} (hv2 : g_InR v2) {v3 : Int} (hv3 : g_InR v3) (h : g_ok M → ((v3 < 4 → g_O M a0 9 ∧ ∃ b2, g_r M a0 1 = some b2 ∧ g_Call d 108 [.ref b2, g_n v2] M (g_qI fun r7 M4 => g_ext M M4 → g_ok M4 → g_InR r7 → ((r7 = 0 → Q 0 M4) ∧ (¬ r7 = 0 → ∃ b9, g_r M4 a0 1 = some b9 ∧ g_Call d 117 [.ref b9, g_n v2] M4 (g_qI fun r14 M11 => g_ext M4 M11 → g_ok M11 → g_InR r14 → ((r14 = 0 → g_Run d 162 88 [(0, .ref a0), (1, g_n v1), (2, g_n v2), (3, g_n v3)] [.long 0] M11 (g_qI Q)) ∧ (¬ r14 = 0 → ∃ b16, g_r M11 a0 1 = some b16 ∧ g_Call d 118 [.ref b16, g_n v2] M11 (g_qL fun R21 M18 => g_ext M11 M18 → g_ok M18 → g_Run d 162 88 [(0, .ref a0), (1, g_n v1), (2, g_n v2), (3, g_n v3)] [.long R21] M18 (g_qI Q))))))))) ∧ (¬ v3 < 4 → Q 0 M))) : g_Run d 162 49 [(0, .ref a0), (1, g_n v1), (2, g_n v2), (3, g_n v3)] [] M (g_qI Q) := by
  refine g_Run.ok fun hok => ?_
  replace h := h hok
  refine r_iload_n x_162_49 rfl ?_
  refine r_iconst x_162_50 ?_
  refine r_ic_ge x_162_51 (t := 159) (by decide +kernel) hv3 (g_Rk rfl) (fun hc => ?_) (fun hc => ?_)
  · replace h := h.2 hc
    refine r_iconst x_162_159 ?_
    exact r_retI x_162_160 rfl (g_Rk rfl) h
  · replace h := h.1 hc
    refine r_aload_n x_162_54 rfl ?_
    obtain ⟨hO1, h⟩ := h
    obtain ⟨b2, hb3, h⟩ := h
    refine r_getR x_162_55 rfl (ci := 9) (k := 1) (ns := 0) (by decide +kernel) (by decide) rfl (kz := 1) rfl hO1 hb3 ?_
    refine r_iload_n x_162_58 rfl ?_
    refine r_invS x_162_59 (z := 108) (ns := 1) (by decide +kernel) (as := [.ref b2, g_n v2]) (r := []) rfl rfl rfl ?_
    refine r_callI h fun r7 M4 hx5 hok6 hr8 h => ?_
    replace h := h hx5 hok6 hr8
    replace hO1 := hO1.up hx5
    refine r_if_eq x_162_62 (t := 159) (by decide +kernel) hr8 (fun hc => ?_) (fun hc => ?_)
    · replace h := h.1 hc
      refine r_iconst x_162_159 ?_
      exact r_retI x_162_160 rfl (g_Rk rfl) h
    · replace h := h.2 hc
      refine r_aload_n x_162_65 rfl ?_
      obtain ⟨b9, hb10, h⟩ := h
      refine r_getR x_162_66 rfl (ci := 9) (k := 1) (ns := 0) (by decide +kernel) (by decide) rfl (kz := 1) rfl hO1 hb10 ?_
      refine r_iload_n x_162_69 rfl ?_
      refine r_invS x_162_70 (z := 117) (ns := 1) (by decide +kernel) (as := [.ref b9, g_n v2]) (r := []) rfl rfl rfl ?_
      refine r_callI h fun r14 M11 hx12 hok13 hr15 h => ?_
      replace h := h hx12 hok13 hr15
      replace hO1 := hO1.up hx12
      refine r_if_eq x_162_73 (t := 87) (by decide +kernel) hr15 (fun hc => ?_) (fun hc => ?_)
      · replace h := h.1 hc
        refine r_lconst x_162_87 ?_
        show g_Run d 162 88 [(0, .ref a0), (1, g_n v1), (2, g_n v2), (3, g_n v3)] [.long 0] M11 _
        exact h
      · replace h := h.2 hc
        refine r_aload_n x_162_76 rfl ?_
        obtain ⟨b16, hb17, h⟩ := h
        refine r_getR x_162_77 rfl (ci := 9) (k := 1) (ns := 0) (by decide +kernel) (by decide) rfl (kz := 1) rfl hO1 hb17 ?_
        refine r_iload_n x_162_80 rfl ?_
        refine r_invS x_162_81 (z := 118) (ns := 1) (by decide +kernel) (as := [.ref b16, g_n v2]) (r := []) rfl rfl rfl ?_
        refine r_callL h fun R21 M18 hx19 hok20 h => ?_
        replace h := h hx19 hok20
        replace hO1 := hO1.up hx19
        refine r_goto x_162_84 (t := 88) (by decide +kernel) ?_
        exact h
theorem s_X9_wrongInSort_88 {d : Nat} {M : g_M} {Q : Int → g_M → Prop} {a0 : Nat} {v1 : Int} (hv1 : g_InR v1) {v2 : Int} (hv2 : g_InR v2) {v3 : Int} (hv3 : g_InR v3) {W0 : Int64} (h : g_ok M → ((g_lc W0 1 = 0 → g_Run d 162 108 [(0, .ref a0), (1, g_n v1), (2, g_n v2), (3, g_n v3), (4, .long W0)] [] M (g_qI Q)) ∧ (¬ g_lc W0 1 = 0 → ((g_lc W0 ((-1)) = 0 → g_Run d 162 108 [(0, .ref a0), (1, g_n v1), (2, g_n v2), (3, g_n v3), (4, .long W0)] [] M (g_qI Q)) ∧ (¬ g_lc W0 ((-1)) = 0 → Q 2 M))))) : g_Run d 162 88 [(0, .ref a0), (1, g_n v1), (2, g_n v2), (3, g_n v3)] [.long W0] M (g_qI Q) := by
  refine g_Run.ok fun hok => ?_
  replace h := h hok
  refine r_lstore x_162_88 (by decide +kernel) rfl (lv1 := [(0, .ref a0), (1, g_n v1), (2, g_n v2), (3, g_n v3), (4, .long W0)]) rfl ?_
  refine r_lload x_162_90 rfl ?_
  refine r_lconst x_162_92 ?_
  show g_Run d 162 93 [(0, .ref a0), (1, g_n v1), (2, g_n v2), (3, g_n v3), (4, .long W0)] [.long 1, .long W0] M _
  refine r_lcmp x_162_93 ?_
  refine r_if_eq x_162_94 (t := 108) (by decide +kernel) (g_InR_toInt _) (fun hc => ?_) (fun hc => ?_)
  · replace h := h.1 hc
    exact h
  · replace h := h.2 hc
    refine r_lload x_162_97 rfl ?_
    refine r_ldc2 x_162_99 (X := (-1)) rfl ?_
    refine r_lcmp x_162_102 ?_
    refine r_if_eq x_162_103 (t := 108) (by decide +kernel) (g_InR_toInt _) (fun hc => ?_) (fun hc => ?_)
    · replace h := h.1 hc
      exact h
    · replace h := h.2 hc
      refine r_iconst x_162_106 ?_
      exact r_retI x_162_107 rfl (g_Rk rfl) h
theorem s_X9_wrongInSort_108 {d : Nat} {M : g_M} {Q : Int → g_M → Prop} {a0 : Nat} {v1 : Int} (hv1 : g_InR v1) {v2 : Int} (hv2 : g_InR v2) {v3 : Int} (hv3 : g_InR v3) {V4 : Int64} (h : g_ok M → g_O M a0 9 ∧ ∃ b2, g_r M a0 2 = some b2 ∧ ∃ b4, g_r M a0 1 = some b4 ∧ g_O M b2 5 ∧ g_Call d 91 [.ref b2, .ref b4, g_n v2] M (g_qI fun r10 M7 => g_ext M M7 → g_ok M7 → g_InR r10 → ((r10 = 0 → Q 3 M7) ∧ (¬ r10 = 0 → ∃ b12, g_r M7 a0 2 = some b12 ∧ g_O M7 b12 5 ∧ ((g_i M7 b12 4 = 0 → ∃ b15, g_r M7 a0 12 = some b15 ∧ ∃ n17, g_A M7 b15 1 n17 ∧ ((0 : Int) ≤ v3 ∧ (v3 : Int) < n17) ∧ (∀ M20, M20 = g_wi M7 b15 v3 V4.toInt32.toInt → g_ok M20 → ∃ b24, g_r M20 a0 1 = some b24 ∧ g_Call d 111 [.ref b24, g_n v2] M20 (g_qI fun r29 M26 => g_ext M20 M26 → g_ok M26 → g_InR r29 → g_InR (v3 + 1) ∧ g_Run d 162 49 [(0, .ref a0), (1, g_n v1), (2, g_n r29), (3, g_n (v3 + 1))] [] M26 (g_qI Q)))) ∧ (¬ g_i M7 b12 4 = 0 → Q 3 M7)))))) : g_Run d 162 108 [(0, .ref a0), (1, g_n v1), (2, g_n v2), (3, g_n v3), (4, .long V4)] [] M (g_qI Q) := by
  refine g_Run.ok fun hok => ?_
  replace h := h hok
  refine r_aload_n x_162_108 rfl ?_
  obtain ⟨hO1, h⟩ := h
  obtain ⟨b2, hb3, h⟩ := h
  refine r_getR x_162_109 rfl (ci := 9) (k := 2) (ns := 0) (by decide +kernel) (by decide) rfl (kz := 2) rfl hO1 hb3 ?_
  refine r_aload_n x_162_112 rfl ?_
  obtain ⟨b4, hb5, h⟩ := h
  refine r_getR x_162_113 rfl (ci := 9) (k := 1) (ns := 0) (by decide +kernel) (by decide) rfl (kz := 1) rfl hO1 hb5 ?_
  refine r_iload_n x_162_116 rfl ?_
  obtain ⟨hO6, h⟩ := h
  refine r_invV x_162_117 (z := 91) (ns := 1) (by decide +kernel) (as := [.ref b4, g_n v2]) (r := []) rfl rfl rfl hO6 rfl rfl ?_
  refine r_callI h fun r10 M7 hx8 hok9 hr11 h => ?_
  replace h := h hx8 hok9 hr11
  replace hO1 := hO1.up hx8
  replace hO6 := hO6.up hx8
  refine r_if_eq x_162_120 (t := 133) (by decide +kernel) hr11 (fun hc => ?_) (fun hc => ?_)
  · replace h := h.1 hc
    refine r_iconst x_162_133 ?_
    exact r_retI x_162_134 rfl (g_Rk rfl) h
  · replace h := h.2 hc
    refine r_aload_n x_162_123 rfl ?_
    obtain ⟨b12, hb13, h⟩ := h
    refine r_getR x_162_124 rfl (ci := 9) (k := 2) (ns := 0) (by decide +kernel) (by decide) rfl (kz := 2) rfl hO1 hb13 ?_
    obtain ⟨hO14, h⟩ := h
    refine r_getI x_162_127 rfl (ci := 5) (k := 4) (ns := 1) (by decide +kernel) (by decide) rfl (kz := 4) rfl hO14 ?_
    refine r_if_eq x_162_130 (t := 135) (by decide +kernel) (hok9.1 _ _) (fun hc => ?_) (fun hc => ?_)
    · replace h := h.1 hc
      refine r_aload_n x_162_135 rfl ?_
      obtain ⟨b15, hb16, h⟩ := h
      refine r_getR x_162_136 rfl (ci := 9) (k := 12) (ns := 0) (by decide +kernel) (by decide) rfl (kz := 12) rfl hO1 hb16 ?_
      refine r_iload_n x_162_139 rfl ?_
      refine r_lload x_162_140 rfl ?_
      refine r_l2i x_162_142 ?_
      obtain ⟨n17, hA18, h⟩ := h
      obtain ⟨h19, h⟩ := h
      refine r_iast x_162_143 hA18 hv3 h19.1 h19.2 (g_InR_toInt _) ?_
      obtain ⟨M20, hM21⟩ : ∃ Mz, Mz = g_wi M7 b15 v3 V4.toInt32.toInt := ⟨_, rfl⟩
      rw [← hM21]
      refine g_Run.ok fun hok22 => ?_
      replace h := h M20 hM21 hok22
      have hx23 := g_extW hM21
      replace hO1 := hO1.up hx23
      replace hO6 := hO6.up hx23
      replace hO14 := hO14.up hx23
      replace hA18 := hA18.up hx23
      refine r_aload_n x_162_144 rfl ?_
      obtain ⟨b24, hb25, h⟩ := h
      refine r_getR x_162_145 rfl (ci := 9) (k := 1) (ns := 0) (by decide +kernel) (by decide) rfl (kz := 1) rfl hO1 hb25 ?_
      refine r_iload_n x_162_148 rfl ?_
      refine r_invS x_162_149 (z := 111) (ns := 1) (by decide +kernel) (as := [.ref b24, g_n v2]) (r := []) rfl rfl rfl ?_
      refine r_callI h fun r29 M26 hx27 hok28 hr30 h => ?_
      replace h := h hx27 hok28 hr30
      replace hO1 := hO1.up hx27
      replace hO6 := hO6.up hx27
      replace hO14 := hO14.up hx27
      replace hA18 := hA18.up hx27
      refine r_istore_n x_162_152 (by decide +kernel) rfl (lv1 := [(0, .ref a0), (1, g_n v1), (2, g_n r29), (3, g_n v3), (4, .long V4)]) rfl ?_
      obtain ⟨h31, h⟩ := h
      refine r_iinc x_162_153 (by decide +kernel) rfl rfl (lv1 := [(0, .ref a0), (1, g_n v1), (2, g_n r29), (3, g_n (v3 + 1)), (4, .long V4)]) rfl ?_
      refine r_goto x_162_156 (t := 49) (by decide +kernel) ?_
      refine g_drop [0, 1, 2, 3] (lv1 := [(0, .ref a0), (1, g_n v1), (2, g_n r29), (3, g_n (v3 + 1))]) rfl ?_
      exact h
    · replace h := h.2 hc
      refine r_iconst x_162_133 ?_
      exact r_retI x_162_134 rfl (g_Rk rfl) h
theorem m_X9_sort {d : Nat} {M : g_M} {Q : Int → g_M → Prop} {a0 : Nat} {v1 : Int} (hv1 : g_InR v1) (h : g_ok M → g_O M a0 9 ∧ g_Call d 162 [.ref a0, g_n v1] M (g_qI fun r5 M2 => g_ext M M2 → g_ok M2 → g_InR r5 → ((r5 = 0 → ∃ b7, g_r M2 a0 1 = some b7 ∧ g_Call d 112 [.ref b7, g_n v1] M2 (g_qI fun r12 M9 => g_ext M2 M9 → g_ok M9 → g_InR r12 → g_Run d 163 27 [(0, .ref a0), (1, g_n v1), (2, g_n r5), (3, g_n 0), (4, g_n r12), (5, g_n 0)] [] M9 (g_qI Q))) ∧ (¬ r5 = 0 → Q r5 M2)))) : g_Call (d + 1) 163 [.ref a0, g_n v1] M (g_qI Q) := by
  refine g_Call.ok fun hok0 => ?_
  replace h := h hok0
  refine r_body rfl (lv := [(0, .ref a0), (1, g_n v1)]) rfl ?_
  refine g_Run.ok fun hok => ?_
  refine r_aload_n x_163_0 rfl ?_
  refine r_iload_n x_163_1 rfl ?_
  obtain ⟨hO1, h⟩ := h
  refine r_invV x_163_2 (z := 162) (ns := 0) (by decide +kernel) (as := [g_n v1]) (r := []) rfl rfl rfl hO1 rfl rfl ?_
  refine r_callI h fun r5 M2 hx3 hok4 hr6 h => ?_
  replace h := h hx3 hok4 hr6
  replace hO1 := hO1.up hx3
  refine r_istore_n x_163_5 (by decide +kernel) rfl (lv1 := [(0, .ref a0), (1, g_n v1), (2, g_n r5)]) rfl ?_
  refine r_iload_n x_163_6 rfl ?_
  refine r_if_eq x_163_7 (t := 12) (by decide +kernel) hr6 (fun hc => ?_) (fun hc => ?_)
  · replace h := h.1 hc
    refine r_iconst x_163_12 ?_
    refine r_istore_n x_163_13 (by decide +kernel) rfl (lv1 := [(0, .ref a0), (1, g_n v1), (2, g_n r5), (3, g_n 0)]) rfl ?_
    refine r_aload_n x_163_14 rfl ?_
    obtain ⟨b7, hb8, h⟩ := h
    refine r_getR x_163_15 rfl (ci := 9) (k := 1) (ns := 0) (by decide +kernel) (by decide) rfl (kz := 1) rfl hO1 hb8 ?_
    refine r_iload_n x_163_18 rfl ?_
    refine r_invS x_163_19 (z := 112) (ns := 1) (by decide +kernel) (as := [.ref b7, g_n v1]) (r := []) rfl rfl rfl ?_
    refine r_callI h fun r12 M9 hx10 hok11 hr13 h => ?_
    replace h := h hx10 hok11 hr13
    replace hO1 := hO1.up hx10
    refine r_istore x_163_22 (by decide +kernel) rfl (lv1 := [(0, .ref a0), (1, g_n v1), (2, g_n r5), (3, g_n 0), (4, g_n r12)]) rfl ?_
    refine r_iconst x_163_24 ?_
    refine r_istore x_163_25 (by decide +kernel) rfl (lv1 := [(0, .ref a0), (1, g_n v1), (2, g_n r5), (3, g_n 0), (4, g_n r12), (5, g_n 0)]) rfl ?_
    exact h
  · replace h := h.2 hc
    refine r_iload_n x_163_10 rfl ?_
    exact r_retI x_163_11 rfl hr6 h
theorem s_X9_sort_27 {d : Nat} {M : g_M} {Q : Int → g_M → Prop} {a0 : Nat} {v1 : Int} (hv1 : g_InR v1) {v2 : Int} (hv2 : g_InR v2) {v3 : Int} (hv3 : g_InR v3) {v4 : Int} (hv4 : g_InR v4) {v5 : Int} (hv5 : g_InR v5) (h : g_ok M → ((v5 < 4 → g_O M a0 9 ∧ ∃ b2, g_r M a0 1 = some b2 ∧ g_Call d 108 [.ref b2, g_n v4] M (g_qI fun r7 M4 => g_ext M M4 → g_ok M4 → g_InR r7 → ((r7 = 0 → g_Run d 163 128 [(0, .ref a0), (1, g_n v1), (2, g_n v2), (3, g_n v3), (4, g_n v4), (5, g_n 0)] [] M4 (g_qI Q)) ∧ (¬ r7 = 0 → ∃ b9, g_r M4 a0 2 = some b9 ∧ ∃ b11, g_r M4 a0 1 = some b11 ∧ g_O M4 b9 5 ∧ g_Call d 91 [.ref b9, .ref b11, g_n v4] M4 (g_qI fun r17 M14 => g_ext M4 M14 → g_ok M14 → g_InR r17 → g_Run d 163 62 [(0, .ref a0), (1, g_n v1), (2, g_n v2), (3, g_n v3), (4, g_n v4), (5, g_n v5), (6, g_n 0)] [] M14 (g_qI Q)))))) ∧ (¬ v5 < 4 → g_Run d 163 128 [(0, .ref a0), (1, g_n v1), (2, g_n v2), (3, g_n v3), (4, g_n v4), (5, g_n 0)] [] M (g_qI Q)))) : g_Run d 163 27 [(0, .ref a0), (1, g_n v1), (2, g_n v2), (3, g_n v3), (4, g_n v4), (5, g_n v5)] [] M (g_qI Q) := by
  refine g_Run.ok fun hok => ?_
  replace h := h hok
  refine r_iload x_163_27 rfl ?_
  refine r_iconst x_163_29 ?_
  refine r_ic_ge x_163_30 (t := 125) (by decide +kernel) hv5 (g_Rk rfl) (fun hc => ?_) (fun hc => ?_)
  · replace h := h.2 hc
    refine r_iconst x_163_125 ?_
    refine r_istore x_163_126 (by decide +kernel) rfl (lv1 := [(0, .ref a0), (1, g_n v1), (2, g_n v2), (3, g_n v3), (4, g_n v4), (5, g_n 0)]) rfl ?_
    exact h
  · replace h := h.1 hc
    refine r_aload_n x_163_33 rfl ?_
    obtain ⟨hO1, h⟩ := h
    obtain ⟨b2, hb3, h⟩ := h
    refine r_getR x_163_34 rfl (ci := 9) (k := 1) (ns := 0) (by decide +kernel) (by decide) rfl (kz := 1) rfl hO1 hb3 ?_
    refine r_iload x_163_37 rfl ?_
    refine r_invS x_163_39 (z := 108) (ns := 1) (by decide +kernel) (as := [.ref b2, g_n v4]) (r := []) rfl rfl rfl ?_
    refine r_callI h fun r7 M4 hx5 hok6 hr8 h => ?_
    replace h := h hx5 hok6 hr8
    replace hO1 := hO1.up hx5
    refine r_if_eq x_163_42 (t := 125) (by decide +kernel) hr8 (fun hc => ?_) (fun hc => ?_)
    · replace h := h.1 hc
      refine r_iconst x_163_125 ?_
      refine r_istore x_163_126 (by decide +kernel) rfl (lv1 := [(0, .ref a0), (1, g_n v1), (2, g_n v2), (3, g_n v3), (4, g_n v4), (5, g_n 0)]) rfl ?_
      exact h
    · replace h := h.2 hc
      refine r_aload_n x_163_45 rfl ?_
      obtain ⟨b9, hb10, h⟩ := h
      refine r_getR x_163_46 rfl (ci := 9) (k := 2) (ns := 0) (by decide +kernel) (by decide) rfl (kz := 2) rfl hO1 hb10 ?_
      refine r_aload_n x_163_49 rfl ?_
      obtain ⟨b11, hb12, h⟩ := h
      refine r_getR x_163_50 rfl (ci := 9) (k := 1) (ns := 0) (by decide +kernel) (by decide) rfl (kz := 1) rfl hO1 hb12 ?_
      refine r_iload x_163_53 rfl ?_
      obtain ⟨hO13, h⟩ := h
      refine r_invV x_163_55 (z := 91) (ns := 1) (by decide +kernel) (as := [.ref b11, g_n v4]) (r := []) rfl rfl rfl hO13 rfl rfl ?_
      refine r_callI h fun r17 M14 hx15 hok16 hr18 h => ?_
      replace h := h hx15 hok16 hr18
      replace hO1 := hO1.up hx15
      replace hO13 := hO13.up hx15
      refine r_pop x_163_58 rfl ?_
      refine r_iconst x_163_59 ?_
      refine r_istore x_163_60 (by decide +kernel) rfl (lv1 := [(0, .ref a0), (1, g_n v1), (2, g_n v2), (3, g_n v3), (4, g_n v4), (5, g_n v5), (6, g_n 0)]) rfl ?_
      exact h
theorem s_X9_sort_62 {d : Nat} {M : g_M} {Q : Int → g_M → Prop} {a0 : Nat} {v1 : Int} (hv1 : g_InR v1) {v2 : Int} (hv2 : g_InR v2) {v3 : Int} (hv3 : g_InR v3) {v4 : Int} (hv4 : g_InR v4) {v5 : Int} (hv5 : g_InR v5) {v6 : Int} (hv6 : g_InR v6) (h : g_ok M → g_O M a0 9 ∧ ((v6 < g_i M a0 14 → ∃ b11, g_r M a0 11 = some b11 ∧ ∃ n13, g_A M b11 5 n13 ∧ ((0 : Int) ≤ v5 ∧ (v5 : Int) < n13) ∧ ∃ b16, g_r M b11 v5 = some b16 ∧ ∃ b18, g_r M a0 6 = some b18 ∧ ∃ n20, g_A M b18 1 n20 ∧ ((0 : Int) ≤ v6 ∧ (v6 : Int) < n20) ∧ ∃ b23, g_r M a0 12 = some b23 ∧ ∃ n25, g_A M b23 1 n25 ∧ ((0 : Int) ≤ v5 ∧ (v5 : Int) < n25) ∧ g_Call d 164 [.ref a0, g_n (g_i M b18 v6), g_n (g_i M b23 v5)] M (g_qI fun r31 M28 => g_ext M M28 → g_ok M28 → g_InR r31 → ∃ n33, g_A M28 b16 1 n33 ∧ ((0 : Int) ≤ v6 ∧ (v6 : Int) < n33) ∧ (∀ M36, M36 = g_wi M28 b16 v6 r31 → g_ok M36 → g_InR (v6 + 1) ∧ g_Run d 163 62 [(0, .ref a0), (1, g_n v1), (2, g_n v2), (3, g_n v3), (4, g_n v4), (5, g_n v5), (6, g_n (v6 + 1))] [] M36 (g_qI Q)))) ∧ (¬ v6 < g_i M a0 14 → g_InR (v3 + 1) ∧ ∃ b3, g_r M a0 1 = some b3 ∧ g_Call d 111 [.ref b3, g_n v4] M (g_qI fun r8 M5 => g_ext M M5 → g_ok M5 → g_InR r8 → g_InR (v5 + 1) ∧ g_Run d 163 27 [(0, .ref a0), (1, g_n v1), (2, g_n v2), (3, g_n (v3 + 1)), (4, g_n r8), (5, g_n (v5 + 1))] [] M5 (g_qI Q))))) : g_Run d 163 62 [(0, .ref a0), (1, g_n v1), (2, g_n v2), (3, g_n v3), (4, g_n v4), (5, g_n v5), (6, g_n v6)] [] M (g_qI Q) := by
  refine g_Run.ok fun hok => ?_
  replace h := h hok
  refine r_iload x_163_62 rfl ?_
  refine r_aload_n x_163_64 rfl ?_
  obtain ⟨hO1, h⟩ := h
  refine r_getI x_163_65 rfl (ci := 9) (k := 14) (ns := 0) (by decide +kernel) (by decide) rfl (kz := 14) rfl hO1 ?_
  refine r_ic_ge x_163_68 (t := 105) (by decide +kernel) hv6 (hok.1 _ _) (fun hc => ?_) (fun hc => ?_)
  · replace h := h.2 hc
    obtain ⟨h2, h⟩ := h
    refine r_iinc x_163_105 (by decide +kernel) rfl rfl (lv1 := [(0, .ref a0), (1, g_n v1), (2, g_n v2), (3, g_n (v3 + 1)), (4, g_n v4), (5, g_n v5), (6, g_n v6)]) rfl ?_
    refine r_aload_n x_163_108 rfl ?_
    obtain ⟨b3, hb4, h⟩ := h
    refine r_getR x_163_109 rfl (ci := 9) (k := 1) (ns := 0) (by decide +kernel) (by decide) rfl (kz := 1) rfl hO1 hb4 ?_
    refine r_iload x_163_112 rfl ?_
    refine r_invS x_163_114 (z := 111) (ns := 1) (by decide +kernel) (as := [.ref b3, g_n v4]) (r := []) rfl rfl rfl ?_
    refine r_callI h fun r8 M5 hx6 hok7 hr9 h => ?_
    replace h := h hx6 hok7 hr9
    replace hO1 := hO1.up hx6
    refine r_istore x_163_117 (by decide +kernel) rfl (lv1 := [(0, .ref a0), (1, g_n v1), (2, g_n v2), (3, g_n (v3 + 1)), (4, g_n r8), (5, g_n v5), (6, g_n v6)]) rfl ?_
    obtain ⟨h10, h⟩ := h
    refine r_iinc x_163_119 (by decide +kernel) rfl rfl (lv1 := [(0, .ref a0), (1, g_n v1), (2, g_n v2), (3, g_n (v3 + 1)), (4, g_n r8), (5, g_n (v5 + 1)), (6, g_n v6)]) rfl ?_
    refine r_goto x_163_122 (t := 27) (by decide +kernel) ?_
    refine g_drop [0, 1, 2, 3, 4, 5] (lv1 := [(0, .ref a0), (1, g_n v1), (2, g_n v2), (3, g_n (v3 + 1)), (4, g_n r8), (5, g_n (v5 + 1))]) rfl ?_
    exact h
  · replace h := h.1 hc
    refine r_aload_n x_163_71 rfl ?_
    obtain ⟨b11, hb12, h⟩ := h
    refine r_getR x_163_72 rfl (ci := 9) (k := 11) (ns := 0) (by decide +kernel) (by decide) rfl (kz := 11) rfl hO1 hb12 ?_
    refine r_iload x_163_75 rfl ?_
    obtain ⟨n13, hA14, h⟩ := h
    obtain ⟨h15, h⟩ := h
    obtain ⟨b16, hb17, h⟩ := h
    refine r_aald x_163_77 (by decide) hA14 hv5 h15.1 h15.2 hb17 ?_
    refine r_iload x_163_78 rfl ?_
    refine r_aload_n x_163_80 rfl ?_
    refine r_aload_n x_163_81 rfl ?_
    obtain ⟨b18, hb19, h⟩ := h
    refine r_getR x_163_82 rfl (ci := 9) (k := 6) (ns := 0) (by decide +kernel) (by decide) rfl (kz := 6) rfl hO1 hb19 ?_
    refine r_iload x_163_85 rfl ?_
    obtain ⟨n20, hA21, h⟩ := h
    obtain ⟨h22, h⟩ := h
    refine r_iald x_163_87 hA21 hv6 h22.1 h22.2 ?_
    refine r_aload_n x_163_88 rfl ?_
    obtain ⟨b23, hb24, h⟩ := h
    refine r_getR x_163_89 rfl (ci := 9) (k := 12) (ns := 0) (by decide +kernel) (by decide) rfl (kz := 12) rfl hO1 hb24 ?_
    refine r_iload x_163_92 rfl ?_
    obtain ⟨n25, hA26, h⟩ := h
    obtain ⟨h27, h⟩ := h
    refine r_iald x_163_94 hA26 hv5 h27.1 h27.2 ?_
    refine r_invV x_163_95 (z := 164) (ns := 0) (by decide +kernel) (as := [g_n (g_i M b18 v6), g_n (g_i M b23 v5)]) (r := [g_n v6, .ref b16]) rfl rfl rfl hO1 rfl rfl ?_
    refine r_callI h fun r31 M28 hx29 hok30 hr32 h => ?_
    replace h := h hx29 hok30 hr32
    replace hO1 := hO1.up hx29
    replace hA14 := hA14.up hx29
    replace hA21 := hA21.up hx29
    replace hA26 := hA26.up hx29
    obtain ⟨n33, hA34, h⟩ := h
    obtain ⟨h35, h⟩ := h
    refine r_iast x_163_98 hA34 hv6 h35.1 h35.2 hr32 ?_
    obtain ⟨M36, hM37⟩ : ∃ Mz, Mz = g_wi M28 b16 v6 r31 := ⟨_, rfl⟩
    rw [← hM37]
    refine g_Run.ok fun hok38 => ?_
    replace h := h M36 hM37 hok38
    have hx39 := g_extW hM37
    replace hO1 := hO1.up hx39
    replace hA14 := hA14.up hx39
    replace hA21 := hA21.up hx39
    replace hA26 := hA26.up hx39
    replace hA34 := hA34.up hx39
    obtain ⟨h40, h⟩ := h
    refine r_iinc x_163_99 (by decide +kernel) rfl rfl (lv1 := [(0, .ref a0), (1, g_n v1), (2, g_n v2), (3, g_n v3), (4, g_n v4), (5, g_n v5), (6, g_n (v6 + 1))]) rfl ?_
    refine r_goto x_163_102 (t := 62) (by decide +kernel) ?_
    exact h
theorem s_X9_sort_128 {d : Nat} {M : g_M} {Q : Int → g_M → Prop} {a0 : Nat} {v1 : Int} (hv1 : g_InR v1) {v2 : Int} (hv2 : g_InR v2) {v3 : Int} (hv3 : g_InR v3) {v4 : Int} (hv4 : g_InR v4) {v5 : Int} (hv5 : g_InR v5) (h : g_ok M → g_O M a0 9 ∧ ((v5 < g_i M a0 14 → g_Run d 163 141 [(0, .ref a0), (1, g_n v1), (2, g_n v2), (3, g_n v3), (4, g_n v4), (5, g_n v5), (6, g_n v5)] [] M (g_qI Q)) ∧ (¬ v5 < g_i M a0 14 → g_Run d 163 205 [(0, .ref a0), (1, g_n v1), (2, g_n v2), (3, g_n v3), (4, g_n v4), (5, g_n 0)] [] M (g_qI Q)))) : g_Run d 163 128 [(0, .ref a0), (1, g_n v1), (2, g_n v2), (3, g_n v3), (4, g_n v4), (5, g_n v5)] [] M (g_qI Q) := by
  refine g_Run.ok fun hok => ?_
  replace h := h hok
  refine r_iload x_163_128 rfl ?_
  refine r_aload_n x_163_130 rfl ?_
  obtain ⟨hO1, h⟩ := h
  refine r_getI x_163_131 rfl (ci := 9) (k := 14) (ns := 0) (by decide +kernel) (by decide) rfl (kz := 14) rfl hO1 ?_
  refine r_ic_ge x_163_134 (t := 202) (by decide +kernel) hv5 (hok.1 _ _) (fun hc => ?_) (fun hc => ?_)
  · replace h := h.2 hc
    refine r_iconst x_163_202 ?_
    refine r_istore x_163_203 (by decide +kernel) rfl (lv1 := [(0, .ref a0), (1, g_n v1), (2, g_n v2), (3, g_n v3), (4, g_n v4), (5, g_n 0)]) rfl ?_
    exact h
  · replace h := h.1 hc
    refine r_iload x_163_137 rfl ?_
    refine r_istore x_163_139 (by decide +kernel) rfl (lv1 := [(0, .ref a0), (1, g_n v1), (2, g_n v2), (3, g_n v3), (4, g_n v4), (5, g_n v5), (6, g_n v5)]) rfl ?_
    exact h
theorem s_X9_sort_141 {d : Nat} {M : g_M} {Q : Int → g_M → Prop} {a0 : Nat} {v1 : Int} (hv1 : g_InR v1) {v2 : Int} (hv2 : g_InR v2) {v3 : Int} (hv3 : g_InR v3) {v4 : Int} (hv4 : g_InR v4) {v5 : Int} (hv5 : g_InR v5) {v6 : Int} (hv6 : g_InR v6) (h : g_ok M → ((0 < v6 → g_O M a0 9 ∧ ∃ b13, g_r M a0 10 = some b13 ∧ g_InR (v6 - 1) ∧ ∃ n16, g_A M b13 1 n16 ∧ ((0 : Int) ≤ v6 - 1 ∧ (v6 - 1 : Int) < n16) ∧ g_Call d 165 [.ref a0, g_n (g_i M b13 (v6 - 1)), g_n v5, g_n v3] M (g_qI fun r22 M19 => g_ext M M19 → g_ok M19 → g_InR r22 → ((0 < r22 → ∃ b34, g_r M19 a0 10 = some b34 ∧ ∃ b36, g_r M19 a0 10 = some b36 ∧ g_InR (v6 - 1) ∧ ∃ n39, g_A M19 b36 1 n39 ∧ ((0 : Int) ≤ v6 - 1 ∧ (v6 - 1 : Int) < n39) ∧ ∃ n42, g_A M19 b34 1 n42 ∧ ((0 : Int) ≤ v6 ∧ (v6 : Int) < n42) ∧ (∀ M45, M45 = g_wi M19 b34 v6 (g_i M19 b36 (v6 - 1)) → g_ok M45 → g_InR (v6 + (-1)) ∧ g_Run d 163 141 [(0, .ref a0), (1, g_n v1), (2, g_n v2), (3, g_n v3), (4, g_n v4), (5, g_n v5), (6, g_n (v6 + (-1)))] [] M45 (g_qI Q))) ∧ (¬ 0 < r22 → ∃ b24, g_r M19 a0 10 = some b24 ∧ ∃ n26, g_A M19 b24 1 n26 ∧ ((0 : Int) ≤ v6 ∧ (v6 : Int) < n26) ∧ (∀ M29, M29 = g_wi M19 b24 v6 v5 → g_ok M29 → g_InR (v5 + 1) ∧ g_Run d 163 128 [(0, .ref a0), (1, g_n v1), (2, g_n v2), (3, g_n v3), (4, g_n v4), (5, g_n (v5 + 1))] [] M29 (g_qI Q)))))) ∧ (¬ 0 < v6 → g_O M a0 9 ∧ ∃ b2, g_r M a0 10 = some b2 ∧ ∃ n4, g_A M b2 1 n4 ∧ ((0 : Int) ≤ v6 ∧ (v6 : Int) < n4) ∧ (∀ M7, M7 = g_wi M b2 v6 v5 → g_ok M7 → g_InR (v5 + 1) ∧ g_Run d 163 128 [(0, .ref a0), (1, g_n v1), (2, g_n v2), (3, g_n v3), (4, g_n v4), (5, g_n (v5 + 1))] [] M7 (g_qI Q))))) : g_Run d 163 141 [(0, .ref a0), (1, g_n v1), (2, g_n v2), (3, g_n v3), (4, g_n v4), (5, g_n v5), (6, g_n v6)] [] M (g_qI Q) := by
  refine g_Run.ok fun hok => ?_
  replace h := h hok
  refine r_iload x_163_141 rfl ?_
  refine r_if_le x_163_143 (t := 187) (by decide +kernel) hv6 (fun hc => ?_) (fun hc => ?_)
  · replace h := h.2 hc
    refine r_aload_n x_163_187 rfl ?_
    obtain ⟨hO1, h⟩ := h
    obtain ⟨b2, hb3, h⟩ := h
    refine r_getR x_163_188 rfl (ci := 9) (k := 10) (ns := 0) (by decide +kernel) (by decide) rfl (kz := 10) rfl hO1 hb3 ?_
    refine r_iload x_163_191 rfl ?_
    refine r_iload x_163_193 rfl ?_
    obtain ⟨n4, hA5, h⟩ := h
    obtain ⟨h6, h⟩ := h
    refine r_iast x_163_195 hA5 hv6 h6.1 h6.2 hv5 ?_
    obtain ⟨M7, hM8⟩ : ∃ Mz, Mz = g_wi M b2 v6 v5 := ⟨_, rfl⟩
    rw [← hM8]
    refine g_Run.ok fun hok9 => ?_
    replace h := h M7 hM8 hok9
    have hx10 := g_extW hM8
    replace hO1 := hO1.up hx10
    replace hA5 := hA5.up hx10
    obtain ⟨h11, h⟩ := h
    refine r_iinc x_163_196 (by decide +kernel) rfl rfl (lv1 := [(0, .ref a0), (1, g_n v1), (2, g_n v2), (3, g_n v3), (4, g_n v4), (5, g_n (v5 + 1)), (6, g_n v6)]) rfl ?_
    refine r_goto x_163_199 (t := 128) (by decide +kernel) ?_
    refine g_drop [0, 1, 2, 3, 4, 5] (lv1 := [(0, .ref a0), (1, g_n v1), (2, g_n v2), (3, g_n v3), (4, g_n v4), (5, g_n (v5 + 1))]) rfl ?_
    exact h
  · replace h := h.1 hc
    refine r_aload_n x_163_146 rfl ?_
    refine r_aload_n x_163_147 rfl ?_
    obtain ⟨hO12, h⟩ := h
    obtain ⟨b13, hb14, h⟩ := h
    refine r_getR x_163_148 rfl (ci := 9) (k := 10) (ns := 0) (by decide +kernel) (by decide) rfl (kz := 10) rfl hO12 hb14 ?_
    refine r_iload x_163_151 rfl ?_
    refine r_iconst x_163_153 ?_
    refine r_isub x_163_154 ?_
    obtain ⟨h15, h⟩ := h
    obtain ⟨n16, hA17, h⟩ := h
    obtain ⟨h18, h⟩ := h
    refine r_iald x_163_155 hA17 h15 h18.1 h18.2 ?_
    refine r_iload x_163_156 rfl ?_
    refine r_iload_n x_163_158 rfl ?_
    refine r_invV x_163_159 (z := 165) (ns := 0) (by decide +kernel) (as := [g_n (g_i M b13 (v6 - 1)), g_n v5, g_n v3]) (r := []) rfl rfl rfl hO12 rfl rfl ?_
    refine r_callI h fun r22 M19 hx20 hok21 hr23 h => ?_
    replace h := h hx20 hok21 hr23
    replace hO12 := hO12.up hx20
    replace hA17 := hA17.up hx20
    refine r_if_le x_163_162 (t := 187) (by decide +kernel) hr23 (fun hc => ?_) (fun hc => ?_)
    · replace h := h.2 hc
      refine r_aload_n x_163_187 rfl ?_
      obtain ⟨b24, hb25, h⟩ := h
      refine r_getR x_163_188 rfl (ci := 9) (k := 10) (ns := 0) (by decide +kernel) (by decide) rfl (kz := 10) rfl hO12 hb25 ?_
      refine r_iload x_163_191 rfl ?_
      refine r_iload x_163_193 rfl ?_
      obtain ⟨n26, hA27, h⟩ := h
      obtain ⟨h28, h⟩ := h
      refine r_iast x_163_195 hA27 hv6 h28.1 h28.2 hv5 ?_
      obtain ⟨M29, hM30⟩ : ∃ Mz, Mz = g_wi M19 b24 v6 v5 := ⟨_, rfl⟩
      rw [← hM30]
      refine g_Run.ok fun hok31 => ?_
      replace h := h M29 hM30 hok31
      have hx32 := g_extW hM30
      replace hO12 := hO12.up hx32
      replace hA17 := hA17.up hx32
      replace hA27 := hA27.up hx32
      obtain ⟨h33, h⟩ := h
      refine r_iinc x_163_196 (by decide +kernel) rfl rfl (lv1 := [(0, .ref a0), (1, g_n v1), (2, g_n v2), (3, g_n v3), (4, g_n v4), (5, g_n (v5 + 1)), (6, g_n v6)]) rfl ?_
      refine r_goto x_163_199 (t := 128) (by decide +kernel) ?_
      refine g_drop [0, 1, 2, 3, 4, 5] (lv1 := [(0, .ref a0), (1, g_n v1), (2, g_n v2), (3, g_n v3), (4, g_n v4), (5, g_n (v5 + 1))]) rfl ?_
      exact h
    · replace h := h.1 hc
      refine r_aload_n x_163_165 rfl ?_
      obtain ⟨b34, hb35, h⟩ := h
      refine r_getR x_163_166 rfl (ci := 9) (k := 10) (ns := 0) (by decide +kernel) (by decide) rfl (kz := 10) rfl hO12 hb35 ?_
      refine r_iload x_163_169 rfl ?_
      refine r_aload_n x_163_171 rfl ?_
      obtain ⟨b36, hb37, h⟩ := h
      refine r_getR x_163_172 rfl (ci := 9) (k := 10) (ns := 0) (by decide +kernel) (by decide) rfl (kz := 10) rfl hO12 hb37 ?_
      refine r_iload x_163_175 rfl ?_
      refine r_iconst x_163_177 ?_
      refine r_isub x_163_178 ?_
      obtain ⟨h38, h⟩ := h
      obtain ⟨n39, hA40, h⟩ := h
      obtain ⟨h41, h⟩ := h
      refine r_iald x_163_179 hA40 h38 h41.1 h41.2 ?_
      obtain ⟨n42, hA43, h⟩ := h
      obtain ⟨h44, h⟩ := h
      refine r_iast x_163_180 hA43 hv6 h44.1 h44.2 (hok21.1 _ _) ?_
      obtain ⟨M45, hM46⟩ : ∃ Mz, Mz = g_wi M19 b34 v6 (g_i M19 b36 (v6 - 1)) := ⟨_, rfl⟩
      rw [← hM46]
      refine g_Run.ok fun hok47 => ?_
      replace h := h M45 hM46 hok47
      have hx48 := g_extW hM46
      replace hO12 := hO12.up hx48
      replace hA17 := hA17.up hx48
      replace hA40 := hA40.up hx48
      replace hA43 := hA43.up hx48
      obtain ⟨h49, h⟩ := h
      refine r_iinc x_163_181 (by decide +kernel) rfl rfl (lv1 := [(0, .ref a0), (1, g_n v1), (2, g_n v2), (3, g_n v3), (4, g_n v4), (5, g_n v5), (6, g_n (v6 + (-1)))]) rfl ?_
      refine r_goto x_163_184 (t := 141) (by decide +kernel) ?_
      exact h
theorem s_X9_sort_205 {d : Nat} {M : g_M} {Q : Int → g_M → Prop} {a0 : Nat} {v1 : Int} (hv1 : g_InR v1) {v2 : Int} (hv2 : g_InR v2) {v3 : Int} (hv3 : g_InR v3) {v4 : Int} (hv4 : g_InR v4) {v5 : Int} (hv5 : g_InR v5) (h : g_ok M → g_O M a0 9 ∧ ((v5 < g_i M a0 14 → ∃ b15, g_r M a0 7 = some b15 ∧ ∃ b17, g_r M a0 6 = some b17 ∧ ∃ b19, g_r M a0 10 = some b19 ∧ ∃ n21, g_A M b19 1 n21 ∧ ((0 : Int) ≤ v5 ∧ (v5 : Int) < n21) ∧ ∃ n24, g_A M b17 1 n24 ∧ ((0 : Int) ≤ g_i M b19 v5 ∧ (g_i M b19 v5 : Int) < n24) ∧ ∃ n27, g_A M b15 1 n27 ∧ ((0 : Int) ≤ v5 ∧ (v5 : Int) < n27) ∧ (∀ M30, M30 = g_wi M b15 v5 (g_i M b17 (g_i M b19 v5)) → g_ok M30 → g_InR (v5 + 1) ∧ g_Run d 163 205 [(0, .ref a0), (1, g_n v1), (2, g_n v2), (3, g_n v3), (4, g_n v4), (5, g_n (v5 + 1))] [] M30 (g_qI Q))) ∧ (¬ v5 < g_i M a0 14 → ∃ b2, g_r M a0 7 = some b2 ∧ ∃ b4, g_r M a0 6 = some b4 ∧ ∃ n6, g_A M b2 1 n6 ∧ ∃ n8, g_A M b4 1 n8 ∧ ((0 : Int) ≤ 0 ∧ (0 : Int) ≤ 0 ∧ (0 : Int) ≤ g_i M a0 14 ∧ (0 : Int) + (g_i M a0 14) ≤ n6 ∧ (0 : Int) + (g_i M a0 14) ≤ n8) ∧ (∀ M11, M11 = g_cp M b2 b4 0 0 (g_i M a0 14) → g_ok M11 → Q 0 M11)))) : g_Run d 163 205 [(0, .ref a0), (1, g_n v1), (2, g_n v2), (3, g_n v3), (4, g_n v4), (5, g_n v5)] [] M (g_qI Q) := by
  refine g_Run.ok fun hok => ?_
  replace h := h hok
  refine r_iload x_163_205 rfl ?_
  refine r_aload_n x_163_207 rfl ?_
  obtain ⟨hO1, h⟩ := h
  refine r_getI x_163_208 rfl (ci := 9) (k := 14) (ns := 0) (by decide +kernel) (by decide) rfl (kz := 14) rfl hO1 ?_
  refine r_ic_ge x_163_211 (t := 239) (by decide +kernel) hv5 (hok.1 _ _) (fun hc => ?_) (fun hc => ?_)
  · replace h := h.2 hc
    refine r_aload_n x_163_239 rfl ?_
    obtain ⟨b2, hb3, h⟩ := h
    refine r_getR x_163_240 rfl (ci := 9) (k := 7) (ns := 0) (by decide +kernel) (by decide) rfl (kz := 7) rfl hO1 hb3 ?_
    refine r_iconst x_163_243 ?_
    refine r_aload_n x_163_244 rfl ?_
    obtain ⟨b4, hb5, h⟩ := h
    refine r_getR x_163_245 rfl (ci := 9) (k := 6) (ns := 0) (by decide +kernel) (by decide) rfl (kz := 6) rfl hO1 hb5 ?_
    refine r_iconst x_163_248 ?_
    refine r_aload_n x_163_249 rfl ?_
    refine r_getI x_163_250 rfl (ci := 9) (k := 14) (ns := 0) (by decide +kernel) (by decide) rfl (kz := 14) rfl hO1 ?_
    obtain ⟨n6, hA7, h⟩ := h
    obtain ⟨n8, hA9, h⟩ := h
    obtain ⟨h10, h⟩ := h
    refine r_copy x_163_253 rfl rfl rfl rfl rfl rfl (by decide) hA7 hA9 (g_Rk rfl) (g_Rk rfl) (hok.1 _ _) h10.1 h10.2.1 h10.2.2.1 h10.2.2.2.1 h10.2.2.2.2 ?_
    obtain ⟨M11, hM12⟩ : ∃ Mz, Mz = g_cp M b2 b4 0 0 (g_i M a0 14) := ⟨_, rfl⟩
    rw [← hM12]
    refine g_Run.ok fun hok13 => ?_
    replace h := h M11 hM12 hok13
    have hx14 := g_extC hM12
    replace hO1 := hO1.up hx14
    replace hA7 := hA7.up hx14
    replace hA9 := hA9.up hx14
    refine r_iconst x_163_256 ?_
    exact r_retI x_163_257 rfl (g_Rk rfl) h
  · replace h := h.1 hc
    refine r_aload_n x_163_214 rfl ?_
    obtain ⟨b15, hb16, h⟩ := h
    refine r_getR x_163_215 rfl (ci := 9) (k := 7) (ns := 0) (by decide +kernel) (by decide) rfl (kz := 7) rfl hO1 hb16 ?_
    refine r_iload x_163_218 rfl ?_
    refine r_aload_n x_163_220 rfl ?_
    obtain ⟨b17, hb18, h⟩ := h
    refine r_getR x_163_221 rfl (ci := 9) (k := 6) (ns := 0) (by decide +kernel) (by decide) rfl (kz := 6) rfl hO1 hb18 ?_
    refine r_aload_n x_163_224 rfl ?_
    obtain ⟨b19, hb20, h⟩ := h
    refine r_getR x_163_225 rfl (ci := 9) (k := 10) (ns := 0) (by decide +kernel) (by decide) rfl (kz := 10) rfl hO1 hb20 ?_
    refine r_iload x_163_228 rfl ?_
    obtain ⟨n21, hA22, h⟩ := h
    obtain ⟨h23, h⟩ := h
    refine r_iald x_163_230 hA22 hv5 h23.1 h23.2 ?_
    obtain ⟨n24, hA25, h⟩ := h
    obtain ⟨h26, h⟩ := h
    refine r_iald x_163_231 hA25 (hok.1 _ _) h26.1 h26.2 ?_
    obtain ⟨n27, hA28, h⟩ := h
    obtain ⟨h29, h⟩ := h
    refine r_iast x_163_232 hA28 hv5 h29.1 h29.2 (hok.1 _ _) ?_
    obtain ⟨M30, hM31⟩ : ∃ Mz, Mz = g_wi M b15 v5 (g_i M b17 (g_i M b19 v5)) := ⟨_, rfl⟩
    rw [← hM31]
    refine g_Run.ok fun hok32 => ?_
    replace h := h M30 hM31 hok32
    have hx33 := g_extW hM31
    replace hO1 := hO1.up hx33
    replace hA22 := hA22.up hx33
    replace hA25 := hA25.up hx33
    replace hA28 := hA28.up hx33
    obtain ⟨h34, h⟩ := h
    refine r_iinc x_163_233 (by decide +kernel) rfl rfl (lv1 := [(0, .ref a0), (1, g_n v1), (2, g_n v2), (3, g_n v3), (4, g_n v4), (5, g_n (v5 + 1))]) rfl ?_
    refine r_goto x_163_236 (t := 205) (by decide +kernel) ?_
    exact h
theorem m_X9_sortKey {d : Nat} {M : g_M} {Q : Int → g_M → Prop} {a0 : Nat} {v1 : Int} (hv1 : g_InR v1) {v2 : Int} (hv2 : g_InR v2) (h : g_ok M → g_O M a0 9 ∧ ∃ b2, g_r M a0 0 = some b2 ∧ g_O M b2 7 ∧ ∃ b5, g_r M a0 2 = some b5 ∧ ∃ b7, g_r M a0 0 = some b7 ∧ g_O M b5 5 ∧ g_Call d 94 [.ref b5, .ref b7, g_n v1, g_n 0, g_n 0] M (g_qV fun M10 => g_ext M M10 → g_ok M10 → ∃ b13, g_r M10 a0 0 = some b13 ∧ g_O M10 b13 7 ∧ g_Call d 107 [.ref b13, g_n (g_i M b2 2), g_n ((-1))] M10 (g_qV fun M16 => g_ext M10 M16 → g_ok M16 → ∃ b19, g_r M16 a0 0 = some b19 ∧ g_O M16 b19 7 ∧ g_Call d 105 [.ref b19, g_n (g_i M b2 2)] M16 (g_qI fun r25 M22 => g_ext M16 M22 → g_ok M22 → g_InR r25 → g_InR ((g_i M b2 2) + 1) ∧ g_Run d 164 46 [(0, .ref a0), (1, g_n v1), (2, g_n v2), (3, g_n (g_i M b2 2)), (4, g_n r25), (5, g_n ((g_i M b2 2) + 1))] [] M22 (g_qI Q))))) : g_Call (d + 1) 164 [.ref a0, g_n v1, g_n v2] M (g_qI Q) := by
  refine g_Call.ok fun hok0 => ?_
  replace h := h hok0
  refine r_body rfl (lv := [(0, .ref a0), (1, g_n v1), (2, g_n v2)]) rfl ?_
  refine g_Run.ok fun hok => ?_
  refine r_aload_n x_164_0 rfl ?_
  obtain ⟨hO1, h⟩ := h
  obtain ⟨b2, hb3, h⟩ := h
  refine r_getR x_164_1 rfl (ci := 9) (k := 0) (ns := 0) (by decide +kernel) (by decide) rfl (kz := 0) rfl hO1 hb3 ?_
  obtain ⟨hO4, h⟩ := h
  refine r_getI x_164_4 rfl (ci := 7) (k := 2) (ns := 1) (by decide +kernel) (by decide) rfl (kz := 2) rfl hO4 ?_
  refine r_istore_n x_164_7 (by decide +kernel) rfl (lv1 := [(0, .ref a0), (1, g_n v1), (2, g_n v2), (3, g_n (g_i M b2 2))]) rfl ?_
  refine r_aload_n x_164_8 rfl ?_
  obtain ⟨b5, hb6, h⟩ := h
  refine r_getR x_164_9 rfl (ci := 9) (k := 2) (ns := 0) (by decide +kernel) (by decide) rfl (kz := 2) rfl hO1 hb6 ?_
  refine r_aload_n x_164_12 rfl ?_
  obtain ⟨b7, hb8, h⟩ := h
  refine r_getR x_164_13 rfl (ci := 9) (k := 0) (ns := 0) (by decide +kernel) (by decide) rfl (kz := 0) rfl hO1 hb8 ?_
  refine r_iload_n x_164_16 rfl ?_
  refine r_iconst x_164_17 ?_
  refine r_iconst x_164_18 ?_
  obtain ⟨hO9, h⟩ := h
  refine r_invV x_164_19 (z := 94) (ns := 1) (by decide +kernel) (as := [.ref b7, g_n v1, g_n 0, g_n 0]) (r := []) rfl rfl rfl hO9 rfl rfl ?_
  refine r_callV h fun M10 hx11 hok12 h => ?_
  replace h := h hx11 hok12
  replace hO1 := hO1.up hx11
  replace hO4 := hO4.up hx11
  replace hO9 := hO9.up hx11
  refine r_aload_n x_164_22 rfl ?_
  obtain ⟨b13, hb14, h⟩ := h
  refine r_getR x_164_23 rfl (ci := 9) (k := 0) (ns := 0) (by decide +kernel) (by decide) rfl (kz := 0) rfl hO1 hb14 ?_
  refine r_iload_n x_164_26 rfl ?_
  refine r_iconst x_164_27 ?_
  obtain ⟨hO15, h⟩ := h
  refine r_invV x_164_28 (z := 107) (ns := 1) (by decide +kernel) (as := [g_n (g_i M b2 2), g_n ((-1))]) (r := []) rfl rfl rfl hO15 rfl rfl ?_
  refine r_callV h fun M16 hx17 hok18 h => ?_
  replace h := h hx17 hok18
  replace hO1 := hO1.up hx17
  replace hO4 := hO4.up hx17
  replace hO9 := hO9.up hx17
  replace hO15 := hO15.up hx17
  refine r_aload_n x_164_31 rfl ?_
  obtain ⟨b19, hb20, h⟩ := h
  refine r_getR x_164_32 rfl (ci := 9) (k := 0) (ns := 0) (by decide +kernel) (by decide) rfl (kz := 0) rfl hO1 hb20 ?_
  refine r_iload_n x_164_35 rfl ?_
  obtain ⟨hO21, h⟩ := h
  refine r_invV x_164_36 (z := 105) (ns := 1) (by decide +kernel) (as := [g_n (g_i M b2 2)]) (r := []) rfl rfl rfl hO21 rfl rfl ?_
  refine r_callI h fun r25 M22 hx23 hok24 hr26 h => ?_
  replace h := h hx23 hok24 hr26
  replace hO1 := hO1.up hx23
  replace hO4 := hO4.up hx23
  replace hO9 := hO9.up hx23
  replace hO15 := hO15.up hx23
  replace hO21 := hO21.up hx23
  refine r_istore x_164_39 (by decide +kernel) rfl (lv1 := [(0, .ref a0), (1, g_n v1), (2, g_n v2), (3, g_n (g_i M b2 2)), (4, g_n r25)]) rfl ?_
  refine r_iload_n x_164_41 rfl ?_
  refine r_iconst x_164_42 ?_
  refine r_iadd x_164_43 ?_
  obtain ⟨h27, h⟩ := h
  refine r_istore x_164_44 (by decide +kernel) rfl (lv1 := [(0, .ref a0), (1, g_n v1), (2, g_n v2), (3, g_n (g_i M b2 2)), (4, g_n r25), (5, g_n ((g_i M b2 2) + 1))]) rfl ?_
  exact h
theorem s_X9_sortKey_46 {d : Nat} {M : g_M} {Q : Int → g_M → Prop} {a0 : Nat} {v1 : Int} (hv1 : g_InR v1) {v2 : Int} (hv2 : g_InR v2) {v3 : Int} (hv3 : g_InR v3) {v4 : Int} (hv4 : g_InR v4) {v5 : Int} (hv5 : g_InR v5) (h : g_ok M → g_O M a0 9 ∧ ∃ b2, g_r M a0 0 = some b2 ∧ g_O M b2 7 ∧ ((v5 < g_i M b2 2 → ∃ b12, g_r M a0 1 = some b12 ∧ ∃ b14, g_r M a0 0 = some b14 ∧ g_O M b14 7 ∧ g_Call d 105 [.ref b14, g_n v5] M (g_qI fun r20 M17 => g_ext M M17 → g_ok M17 → g_InR r20 → ∃ b22, g_r M17 a0 1 = some b22 ∧ g_Call d 121 [.ref b12, g_n r20, .ref b22, g_n v4, g_n 0] M17 (g_qI fun r27 M24 => g_ext M17 M24 → g_ok M24 → g_InR r27 → g_InR (r27 * v2) ∧ ((r27 * v2 < 0 → ∃ b31, g_r M24 a0 0 = some b31 ∧ g_O M24 b31 7 ∧ g_Call d 105 [.ref b31, g_n v5] M24 (g_qI fun r37 M34 => g_ext M24 M34 → g_ok M34 → g_InR r37 → g_InR (v5 + 1) ∧ g_Run d 164 46 [(0, .ref a0), (1, g_n v1), (2, g_n v2), (3, g_n v3), (4, g_n r37), (5, g_n (v5 + 1))] [] M34 (g_qI Q))) ∧ (¬ r27 * v2 < 0 → g_InR (v5 + 1) ∧ g_Run d 164 46 [(0, .ref a0), (1, g_n v1), (2, g_n v2), (3, g_n v3), (4, g_n v4), (5, g_n (v5 + 1))] [] M24 (g_qI Q)))))) ∧ (¬ v5 < g_i M b2 2 → ∃ b5, g_r M a0 0 = some b5 ∧ g_O M b5 7 ∧ (∀ M8, M8 = g_wi M b5 2 v3 → g_ok M8 → Q v4 M8)))) : g_Run d 164 46 [(0, .ref a0), (1, g_n v1), (2, g_n v2), (3, g_n v3), (4, g_n v4), (5, g_n v5)] [] M (g_qI Q) := by
  refine g_Run.ok fun hok => ?_
  replace h := h hok
  refine r_iload x_164_46 rfl ?_
  refine r_aload_n x_164_48 rfl ?_
  obtain ⟨hO1, h⟩ := h
  obtain ⟨b2, hb3, h⟩ := h
  refine r_getR x_164_49 rfl (ci := 9) (k := 0) (ns := 0) (by decide +kernel) (by decide) rfl (kz := 0) rfl hO1 hb3 ?_
  obtain ⟨hO4, h⟩ := h
  refine r_getI x_164_52 rfl (ci := 7) (k := 2) (ns := 1) (by decide +kernel) (by decide) rfl (kz := 2) rfl hO4 ?_
  refine r_ic_ge x_164_55 (t := 103) (by decide +kernel) hv5 (hok.1 _ _) (fun hc => ?_) (fun hc => ?_)
  · replace h := h.2 hc
    refine r_aload_n x_164_103 rfl ?_
    obtain ⟨b5, hb6, h⟩ := h
    refine r_getR x_164_104 rfl (ci := 9) (k := 0) (ns := 0) (by decide +kernel) (by decide) rfl (kz := 0) rfl hO1 hb6 ?_
    refine r_iload_n x_164_107 rfl ?_
    obtain ⟨hO7, h⟩ := h
    refine r_putI x_164_108 (ci := 7) (k := 2) (ns := 1) (by decide +kernel) (by decide) (g_f0 (by decide +kernel)) rfl hv3 trivial (kz := 2) rfl hO7 ?_
    obtain ⟨M8, hM9⟩ : ∃ Mz, Mz = g_wi M b5 2 v3 := ⟨_, rfl⟩
    rw [← hM9]
    refine g_Run.ok fun hok10 => ?_
    replace h := h M8 hM9 hok10
    have hx11 := g_extW hM9
    replace hO1 := hO1.up hx11
    replace hO4 := hO4.up hx11
    replace hO7 := hO7.up hx11
    refine r_iload x_164_111 rfl ?_
    exact r_retI x_164_113 rfl hv4 h
  · replace h := h.1 hc
    refine r_aload_n x_164_58 rfl ?_
    obtain ⟨b12, hb13, h⟩ := h
    refine r_getR x_164_59 rfl (ci := 9) (k := 1) (ns := 0) (by decide +kernel) (by decide) rfl (kz := 1) rfl hO1 hb13 ?_
    refine r_aload_n x_164_62 rfl ?_
    obtain ⟨b14, hb15, h⟩ := h
    refine r_getR x_164_63 rfl (ci := 9) (k := 0) (ns := 0) (by decide +kernel) (by decide) rfl (kz := 0) rfl hO1 hb15 ?_
    refine r_iload x_164_66 rfl ?_
    obtain ⟨hO16, h⟩ := h
    refine r_invV x_164_68 (z := 105) (ns := 1) (by decide +kernel) (as := [g_n v5]) (r := [.ref b12]) rfl rfl rfl hO16 rfl rfl ?_
    refine r_callI h fun r20 M17 hx18 hok19 hr21 h => ?_
    replace h := h hx18 hok19 hr21
    replace hO1 := hO1.up hx18
    replace hO4 := hO4.up hx18
    replace hO16 := hO16.up hx18
    refine r_aload_n x_164_71 rfl ?_
    obtain ⟨b22, hb23, h⟩ := h
    refine r_getR x_164_72 rfl (ci := 9) (k := 1) (ns := 0) (by decide +kernel) (by decide) rfl (kz := 1) rfl hO1 hb23 ?_
    refine r_iload x_164_75 rfl ?_
    refine r_iconst x_164_77 ?_
    refine r_invS x_164_78 (z := 121) (ns := 1) (by decide +kernel) (as := [.ref b12, g_n r20, .ref b22, g_n v4, g_n 0]) (r := []) rfl rfl rfl ?_
    refine r_callI h fun r27 M24 hx25 hok26 hr28 h => ?_
    replace h := h hx25 hok26 hr28
    replace hO1 := hO1.up hx25
    replace hO4 := hO4.up hx25
    replace hO16 := hO16.up hx25
    refine r_iload_n x_164_81 rfl ?_
    refine r_imul x_164_82 ?_
    obtain ⟨h29, h⟩ := h
    refine r_if_ge x_164_83 (t := 97) (by decide +kernel) h29 (fun hc => ?_) (fun hc => ?_)
    · replace h := h.2 hc
      obtain ⟨h30, h⟩ := h
      refine r_iinc x_164_97 (by decide +kernel) rfl rfl (lv1 := [(0, .ref a0), (1, g_n v1), (2, g_n v2), (3, g_n v3), (4, g_n v4), (5, g_n (v5 + 1))]) rfl ?_
      refine r_goto x_164_100 (t := 46) (by decide +kernel) ?_
      exact h
    · replace h := h.1 hc
      refine r_aload_n x_164_86 rfl ?_
      obtain ⟨b31, hb32, h⟩ := h
      refine r_getR x_164_87 rfl (ci := 9) (k := 0) (ns := 0) (by decide +kernel) (by decide) rfl (kz := 0) rfl hO1 hb32 ?_
      refine r_iload x_164_90 rfl ?_
      obtain ⟨hO33, h⟩ := h
      refine r_invV x_164_92 (z := 105) (ns := 1) (by decide +kernel) (as := [g_n v5]) (r := []) rfl rfl rfl hO33 rfl rfl ?_
      refine r_callI h fun r37 M34 hx35 hok36 hr38 h => ?_
      replace h := h hx35 hok36 hr38
      replace hO1 := hO1.up hx35
      replace hO4 := hO4.up hx35
      replace hO16 := hO16.up hx35
      replace hO33 := hO33.up hx35
      refine r_istore x_164_95 (by decide +kernel) rfl (lv1 := [(0, .ref a0), (1, g_n v1), (2, g_n v2), (3, g_n v3), (4, g_n r37), (5, g_n v5)]) rfl ?_
      obtain ⟨h39, h⟩ := h
      refine r_iinc x_164_97 (by decide +kernel) rfl rfl (lv1 := [(0, .ref a0), (1, g_n v1), (2, g_n v2), (3, g_n v3), (4, g_n r37), (5, g_n (v5 + 1))]) rfl ?_
      refine r_goto x_164_100 (t := 46) (by decide +kernel) ?_
      exact h
theorem m_X9_compareSorted {d : Nat} {M : g_M} {Q : Int → g_M → Prop} {a0 : Nat} {v1 : Int} (hv1 : g_InR v1) {v2 : Int} (hv2 : g_InR v2) {v3 : Int} (hv3 : g_InR v3) (h : g_ok M → g_Run d 165 6 [(0, .ref a0), (1, g_n v1), (2, g_n v2), (3, g_n v3), (4, g_n 0), (5, g_n 0)] [] M (g_qI Q)) : g_Call (d + 1) 165 [.ref a0, g_n v1, g_n v2, g_n v3] M (g_qI Q) := by
  refine g_Call.ok fun hok0 => ?_
  replace h := h hok0
  refine r_body rfl (lv := [(0, .ref a0), (1, g_n v1), (2, g_n v2), (3, g_n v3)]) rfl ?_
  refine g_Run.ok fun hok => ?_
  refine r_iconst x_165_0 ?_
  refine r_istore x_165_1 (by decide +kernel) rfl (lv1 := [(0, .ref a0), (1, g_n v1), (2, g_n v2), (3, g_n v3), (4, g_n 0)]) rfl ?_
  refine r_iconst x_165_3 ?_
  refine r_istore x_165_4 (by decide +kernel) rfl (lv1 := [(0, .ref a0), (1, g_n v1), (2, g_n v2), (3, g_n v3), (4, g_n 0), (5, g_n 0)]) rfl ?_
  exact h
theorem s_X9_compareSorted_6 {d : Nat} {M : g_M} {Q : Int → g_M → Prop} {a0 : Nat} {v1 : Int} (hv1 : g_InR v1) {v2 : Int} (hv2 : g_InR v2) {v3 : Int} (hv3 : g_InR v3) {v4 : Int} (hv4 : g_InR v4) {v5 : Int} (hv5 : g_InR v5) (h : g_ok M → ((v5 < v3 → ((v4 = 0 → g_O M a0 9 ∧ ∃ b2, g_r M a0 1 = some b2 ∧ ∃ b4, g_r M a0 11 = some b4 ∧ ∃ n6, g_A M b4 5 n6 ∧ ((0 : Int) ≤ v5 ∧ (v5 : Int) < n6) ∧ ∃ b9, g_r M b4 v5 = some b9 ∧ ∃ n11, g_A M b9 1 n11 ∧ ((0 : Int) ≤ v1 ∧ (v1 : Int) < n11) ∧ ∃ b14, g_r M a0 1 = some b14 ∧ ∃ b16, g_r M a0 11 = some b16 ∧ ∃ n18, g_A M b16 5 n18 ∧ ((0 : Int) ≤ v5 ∧ (v5 : Int) < n18) ∧ ∃ b21, g_r M b16 v5 = some b21 ∧ ∃ n23, g_A M b21 1 n23 ∧ ((0 : Int) ≤ v2 ∧ (v2 : Int) < n23) ∧ g_Call d 121 [.ref b2, g_n (g_i M b9 v1), .ref b14, g_n (g_i M b21 v2), g_n 0] M (g_qI fun r29 M26 => g_ext M M26 → g_ok M26 → g_InR r29 → ∃ b31, g_r M26 a0 12 = some b31 ∧ ∃ n33, g_A M26 b31 1 n33 ∧ ((0 : Int) ≤ v5 ∧ (v5 : Int) < n33) ∧ g_InR (r29 * (g_i M26 b31 v5)) ∧ g_InR (v5 + 1) ∧ g_Run d 165 6 [(0, .ref a0), (1, g_n v1), (2, g_n v2), (3, g_n v3), (4, g_n (r29 * (g_i M26 b31 v5))), (5, g_n (v5 + 1))] [] M26 (g_qI Q))) ∧ (¬ v4 = 0 → Q v4 M))) ∧ (¬ v5 < v3 → Q v4 M))) : g_Run d 165 6 [(0, .ref a0), (1, g_n v1), (2, g_n v2), (3, g_n v3), (4, g_n v4), (5, g_n v5)] [] M (g_qI Q) := by
  refine g_Run.ok fun hok => ?_
  replace h := h hok
  refine r_iload x_165_6 rfl ?_
  refine r_iload_n x_165_8 rfl ?_
  refine r_ic_ge x_165_9 (t := 63) (by decide +kernel) hv5 hv3 (fun hc => ?_) (fun hc => ?_)
  · replace h := h.2 hc
    refine r_iload x_165_63 rfl ?_
    exact r_retI x_165_65 rfl hv4 h
  · replace h := h.1 hc
    refine r_iload x_165_12 rfl ?_
    refine r_if_ne x_165_14 (t := 63) (by decide +kernel) hv4 (fun hc => ?_) (fun hc => ?_)
    · replace h := h.2 hc
      refine r_iload x_165_63 rfl ?_
      exact r_retI x_165_65 rfl hv4 h
    · replace h := h.1 hc
      refine r_aload_n x_165_17 rfl ?_
      obtain ⟨hO1, h⟩ := h
      obtain ⟨b2, hb3, h⟩ := h
      refine r_getR x_165_18 rfl (ci := 9) (k := 1) (ns := 0) (by decide +kernel) (by decide) rfl (kz := 1) rfl hO1 hb3 ?_
      refine r_aload_n x_165_21 rfl ?_
      obtain ⟨b4, hb5, h⟩ := h
      refine r_getR x_165_22 rfl (ci := 9) (k := 11) (ns := 0) (by decide +kernel) (by decide) rfl (kz := 11) rfl hO1 hb5 ?_
      refine r_iload x_165_25 rfl ?_
      obtain ⟨n6, hA7, h⟩ := h
      obtain ⟨h8, h⟩ := h
      obtain ⟨b9, hb10, h⟩ := h
      refine r_aald x_165_27 (by decide) hA7 hv5 h8.1 h8.2 hb10 ?_
      refine r_iload_n x_165_28 rfl ?_
      obtain ⟨n11, hA12, h⟩ := h
      obtain ⟨h13, h⟩ := h
      refine r_iald x_165_29 hA12 hv1 h13.1 h13.2 ?_
      refine r_aload_n x_165_30 rfl ?_
      obtain ⟨b14, hb15, h⟩ := h
      refine r_getR x_165_31 rfl (ci := 9) (k := 1) (ns := 0) (by decide +kernel) (by decide) rfl (kz := 1) rfl hO1 hb15 ?_
      refine r_aload_n x_165_34 rfl ?_
      obtain ⟨b16, hb17, h⟩ := h
      refine r_getR x_165_35 rfl (ci := 9) (k := 11) (ns := 0) (by decide +kernel) (by decide) rfl (kz := 11) rfl hO1 hb17 ?_
      refine r_iload x_165_38 rfl ?_
      obtain ⟨n18, hA19, h⟩ := h
      obtain ⟨h20, h⟩ := h
      obtain ⟨b21, hb22, h⟩ := h
      refine r_aald x_165_40 (by decide) hA19 hv5 h20.1 h20.2 hb22 ?_
      refine r_iload_n x_165_41 rfl ?_
      obtain ⟨n23, hA24, h⟩ := h
      obtain ⟨h25, h⟩ := h
      refine r_iald x_165_42 hA24 hv2 h25.1 h25.2 ?_
      refine r_iconst x_165_43 ?_
      refine r_invS x_165_44 (z := 121) (ns := 1) (by decide +kernel) (as := [.ref b2, g_n (g_i M b9 v1), .ref b14, g_n (g_i M b21 v2), g_n 0]) (r := []) rfl rfl rfl ?_
      refine r_callI h fun r29 M26 hx27 hok28 hr30 h => ?_
      replace h := h hx27 hok28 hr30
      replace hO1 := hO1.up hx27
      replace hA7 := hA7.up hx27
      replace hA12 := hA12.up hx27
      replace hA19 := hA19.up hx27
      replace hA24 := hA24.up hx27
      refine r_aload_n x_165_47 rfl ?_
      obtain ⟨b31, hb32, h⟩ := h
      refine r_getR x_165_48 rfl (ci := 9) (k := 12) (ns := 0) (by decide +kernel) (by decide) rfl (kz := 12) rfl hO1 hb32 ?_
      refine r_iload x_165_51 rfl ?_
      obtain ⟨n33, hA34, h⟩ := h
      obtain ⟨h35, h⟩ := h
      refine r_iald x_165_53 hA34 hv5 h35.1 h35.2 ?_
      refine r_imul x_165_54 ?_
      obtain ⟨h36, h⟩ := h
      refine r_istore x_165_55 (by decide +kernel) rfl (lv1 := [(0, .ref a0), (1, g_n v1), (2, g_n v2), (3, g_n v3), (4, g_n (r29 * (g_i M26 b31 v5))), (5, g_n v5)]) rfl ?_
      obtain ⟨h37, h⟩ := h
      refine r_iinc x_165_57 (by decide +kernel) rfl rfl (lv1 := [(0, .ref a0), (1, g_n v1), (2, g_n v2), (3, g_n v3), (4, g_n (r29 * (g_i M26 b31 v5))), (5, g_n (v5 + 1))]) rfl ?_
      refine r_goto x_165_60 (t := 6) (by decide +kernel) ?_
      exact h
theorem m_X9_skip {d : Nat} {M : g_M} {Q : Int → g_M → Prop} {a0 : Nat} {v1 : Int} (hv1 : g_InR v1) (h : g_ok M → g_O M a0 9 ∧ ∃ b2, g_r M a0 1 = some b2 ∧ g_Call d 117 [.ref b2, g_n v1] M (g_qI fun r7 M4 => g_ext M M4 → g_ok M4 → g_InR r7 → ((r7 = 0 → g_Run d 166 25 [(0, .ref a0), (1, g_n v1)] [.long ((-1))] M4 (g_qI Q)) ∧ (¬ r7 = 0 → ∃ b9, g_r M4 a0 1 = some b9 ∧ g_Call d 118 [.ref b9, g_n v1] M4 (g_qL fun R14 M11 => g_ext M4 M11 → g_ok M11 → g_Run d 166 25 [(0, .ref a0), (1, g_n v1)] [.long R14] M11 (g_qI Q)))))) : g_Call (d + 1) 166 [.ref a0, g_n v1] M (g_qI Q) := by
  refine g_Call.ok fun hok0 => ?_
  replace h := h hok0
  refine r_body rfl (lv := [(0, .ref a0), (1, g_n v1)]) rfl ?_
  refine g_Run.ok fun hok => ?_
  refine r_aload_n x_166_0 rfl ?_
  obtain ⟨hO1, h⟩ := h
  obtain ⟨b2, hb3, h⟩ := h
  refine r_getR x_166_1 rfl (ci := 9) (k := 1) (ns := 0) (by decide +kernel) (by decide) rfl (kz := 1) rfl hO1 hb3 ?_
  refine r_iload_n x_166_4 rfl ?_
  refine r_invS x_166_5 (z := 117) (ns := 1) (by decide +kernel) (as := [.ref b2, g_n v1]) (r := []) rfl rfl rfl ?_
  refine r_callI h fun r7 M4 hx5 hok6 hr8 h => ?_
  replace h := h hx5 hok6 hr8
  replace hO1 := hO1.up hx5
  refine r_if_eq x_166_8 (t := 22) (by decide +kernel) hr8 (fun hc => ?_) (fun hc => ?_)
  · replace h := h.1 hc
    refine r_ldc2 x_166_22 (X := (-1)) rfl ?_
    exact h
  · replace h := h.2 hc
    refine r_aload_n x_166_11 rfl ?_
    obtain ⟨b9, hb10, h⟩ := h
    refine r_getR x_166_12 rfl (ci := 9) (k := 1) (ns := 0) (by decide +kernel) (by decide) rfl (kz := 1) rfl hO1 hb10 ?_
    refine r_iload_n x_166_15 rfl ?_
    refine r_invS x_166_16 (z := 118) (ns := 1) (by decide +kernel) (as := [.ref b9, g_n v1]) (r := []) rfl rfl rfl ?_
    refine r_callL h fun R14 M11 hx12 hok13 h => ?_
    replace h := h hx12 hok13
    replace hO1 := hO1.up hx12
    refine r_goto x_166_19 (t := 25) (by decide +kernel) ?_
    exact h
theorem s_X9_skip_25 {d : Nat} {M : g_M} {Q : Int → g_M → Prop} {a0 : Nat} {v1 : Int} (hv1 : g_InR v1) {W0 : Int64} (h : g_ok M → ((g_lc W0 0 < 0 → Q 2 M) ∧ (¬ g_lc W0 0 < 0 → g_O M a0 9 ∧ ∃ b2, g_r M a0 6 = some b2 ∧ ∃ b4, g_r M a0 6 = some b4 ∧ g_InR ((g_i M a0 14) - ((if Int64.ofInt (g_i M a0 14) < W0 then Int64.ofInt (g_i M a0 14) else W0).toInt32.toInt)) ∧ ∃ n7, g_A M b2 1 n7 ∧ ∃ n9, g_A M b4 1 n9 ∧ ((0 : Int) ≤ (if Int64.ofInt (g_i M a0 14) < W0 then Int64.ofInt (g_i M a0 14) else W0).toInt32.toInt ∧ (0 : Int) ≤ 0 ∧ (0 : Int) ≤ (g_i M a0 14) - ((if Int64.ofInt (g_i M a0 14) < W0 then Int64.ofInt (g_i M a0 14) else W0).toInt32.toInt) ∧ (((if Int64.ofInt (g_i M a0 14) < W0 then Int64.ofInt (g_i M a0 14) else W0).toInt32.toInt) : Int) + ((g_i M a0 14) - ((if Int64.ofInt (g_i M a0 14) < W0 then Int64.ofInt (g_i M a0 14) else W0).toInt32.toInt)) ≤ n7 ∧ (0 : Int) + ((g_i M a0 14) - ((if Int64.ofInt (g_i M a0 14) < W0 then Int64.ofInt (g_i M a0 14) else W0).toInt32.toInt)) ≤ n9) ∧ (∀ M12, M12 = g_cp M b2 b4 ((if Int64.ofInt (g_i M a0 14) < W0 then Int64.ofInt (g_i M a0 14) else W0).toInt32.toInt) 0 ((g_i M a0 14) - ((if Int64.ofInt (g_i M a0 14) < W0 then Int64.ofInt (g_i M a0 14) else W0).toInt32.toInt)) → g_ok M12 → g_InR ((g_i M12 a0 14) - ((if Int64.ofInt (g_i M a0 14) < W0 then Int64.ofInt (g_i M a0 14) else W0).toInt32.toInt)) ∧ (∀ M17, M17 = g_wi M12 a0 14 ((g_i M12 a0 14) - ((if Int64.ofInt (g_i M a0 14) < W0 then Int64.ofInt (g_i M a0 14) else W0).toInt32.toInt)) → g_ok M17 → Q 0 M17))))) : g_Run d 166 25 [(0, .ref a0), (1, g_n v1)] [.long W0] M (g_qI Q) := by
  refine g_Run.ok fun hok => ?_
  replace h := h hok
  refine r_lstore_n x_166_25 (by decide +kernel) rfl (lv1 := [(0, .ref a0), (1, g_n v1), (2, .long W0)]) rfl ?_
  refine r_lload_n x_166_26 rfl ?_
  refine r_lconst x_166_27 ?_
  show g_Run d 166 28 [(0, .ref a0), (1, g_n v1), (2, .long W0)] [.long 0, .long W0] M _
  refine r_lcmp x_166_28 ?_
  refine r_if_ge x_166_29 (t := 34) (by decide +kernel) (g_InR_toInt _) (fun hc => ?_) (fun hc => ?_)
  · replace h := h.2 hc
    refine r_lload_n x_166_34 rfl ?_
    refine r_aload_n x_166_35 rfl ?_
    obtain ⟨hO1, h⟩ := h
    refine r_getI x_166_36 rfl (ci := 9) (k := 14) (ns := 0) (by decide +kernel) (by decide) rfl (kz := 14) rfl hO1 ?_
    refine r_i2l x_166_39 (hok.1 _ _) ?_
    refine r_minL x_166_40 rfl rfl rfl rfl rfl ?_
    refine r_l2i x_166_43 ?_
    refine r_istore x_166_44 (by decide +kernel) rfl (lv1 := [(0, .ref a0), (1, g_n v1), (2, .long W0), (4, g_n ((if Int64.ofInt (g_i M a0 14) < W0 then Int64.ofInt (g_i M a0 14) else W0).toInt32.toInt))]) rfl ?_
    refine r_aload_n x_166_46 rfl ?_
    obtain ⟨b2, hb3, h⟩ := h
    refine r_getR x_166_47 rfl (ci := 9) (k := 6) (ns := 0) (by decide +kernel) (by decide) rfl (kz := 6) rfl hO1 hb3 ?_
    refine r_iload x_166_50 rfl ?_
    refine r_aload_n x_166_52 rfl ?_
    obtain ⟨b4, hb5, h⟩ := h
    refine r_getR x_166_53 rfl (ci := 9) (k := 6) (ns := 0) (by decide +kernel) (by decide) rfl (kz := 6) rfl hO1 hb5 ?_
    refine r_iconst x_166_56 ?_
    refine r_aload_n x_166_57 rfl ?_
    refine r_getI x_166_58 rfl (ci := 9) (k := 14) (ns := 0) (by decide +kernel) (by decide) rfl (kz := 14) rfl hO1 ?_
    refine r_iload x_166_61 rfl ?_
    refine r_isub x_166_63 ?_
    obtain ⟨h6, h⟩ := h
    obtain ⟨n7, hA8, h⟩ := h
    obtain ⟨n9, hA10, h⟩ := h
    obtain ⟨h11, h⟩ := h
    refine r_copy x_166_64 rfl rfl rfl rfl rfl rfl (by decide) hA8 hA10 (g_InR_toInt _) (g_Rk rfl) h6 h11.1 h11.2.1 h11.2.2.1 h11.2.2.2.1 h11.2.2.2.2 ?_
    obtain ⟨M12, hM13⟩ : ∃ Mz, Mz = g_cp M b2 b4 ((if Int64.ofInt (g_i M a0 14) < W0 then Int64.ofInt (g_i M a0 14) else W0).toInt32.toInt) 0 ((g_i M a0 14) - ((if Int64.ofInt (g_i M a0 14) < W0 then Int64.ofInt (g_i M a0 14) else W0).toInt32.toInt)) := ⟨_, rfl⟩
    rw [← hM13]
    refine g_Run.ok fun hok14 => ?_
    replace h := h M12 hM13 hok14
    have hx15 := g_extC hM13
    replace hO1 := hO1.up hx15
    replace hA8 := hA8.up hx15
    replace hA10 := hA10.up hx15
    refine r_aload_n x_166_67 rfl ?_
    refine r_dup x_166_68 rfl ?_
    refine r_getI x_166_69 rfl (ci := 9) (k := 14) (ns := 0) (by decide +kernel) (by decide) rfl (kz := 14) rfl hO1 ?_
    refine r_iload x_166_72 rfl ?_
    refine r_isub x_166_74 ?_
    obtain ⟨h16, h⟩ := h
    refine r_putI x_166_75 (ci := 9) (k := 14) (ns := 0) (by decide +kernel) (by decide) (g_f0 (by decide +kernel)) rfl h16 trivial (kz := 14) rfl hO1 ?_
    obtain ⟨M17, hM18⟩ : ∃ Mz, Mz = g_wi M12 a0 14 ((g_i M12 a0 14) - ((if Int64.ofInt (g_i M a0 14) < W0 then Int64.ofInt (g_i M a0 14) else W0).toInt32.toInt)) := ⟨_, rfl⟩
    rw [← hM18]
    refine g_Run.ok fun hok19 => ?_
    replace h := h M17 hM18 hok19
    have hx20 := g_extW hM18
    replace hO1 := hO1.up hx20
    replace hA8 := hA8.up hx20
    replace hA10 := hA10.up hx20
    refine r_iconst x_166_78 ?_
    exact r_retI x_166_79 rfl (g_Rk rfl) h
  · replace h := h.1 hc
    refine r_iconst x_166_32 ?_
    exact r_retI x_166_33 rfl (g_Rk rfl) h
theorem m_X9_limit {d : Nat} {M : g_M} {Q : Int → g_M → Prop} {a0 : Nat} {v1 : Int} (hv1 : g_InR v1) (h : g_ok M → g_O M a0 9 ∧ ∃ b2, g_r M a0 1 = some b2 ∧ g_Call d 117 [.ref b2, g_n v1] M (g_qI fun r7 M4 => g_ext M M4 → g_ok M4 → g_InR r7 → ((r7 = 0 → g_Run d 167 25 [(0, .ref a0), (1, g_n v1)] [.long ((-1))] M4 (g_qI Q)) ∧ (¬ r7 = 0 → ∃ b9, g_r M4 a0 1 = some b9 ∧ g_Call d 118 [.ref b9, g_n v1] M4 (g_qL fun R14 M11 => g_ext M4 M11 → g_ok M11 → g_Run d 167 25 [(0, .ref a0), (1, g_n v1)] [.long R14] M11 (g_qI Q)))))) : g_Call (d + 1) 167 [.ref a0, g_n v1] M (g_qI Q) := by
  refine g_Call.ok fun hok0 => ?_
  replace h := h hok0
  refine r_body rfl (lv := [(0, .ref a0), (1, g_n v1)]) rfl ?_
  refine g_Run.ok fun hok => ?_
  refine r_aload_n x_167_0 rfl ?_
  obtain ⟨hO1, h⟩ := h
  obtain ⟨b2, hb3, h⟩ := h
  refine r_getR x_167_1 rfl (ci := 9) (k := 1) (ns := 0) (by decide +kernel) (by decide) rfl (kz := 1) rfl hO1 hb3 ?_
  refine r_iload_n x_167_4 rfl ?_
  refine r_invS x_167_5 (z := 117) (ns := 1) (by decide +kernel) (as := [.ref b2, g_n v1]) (r := []) rfl rfl rfl ?_
  refine r_callI h fun r7 M4 hx5 hok6 hr8 h => ?_
  replace h := h hx5 hok6 hr8
  replace hO1 := hO1.up hx5
  refine r_if_eq x_167_8 (t := 22) (by decide +kernel) hr8 (fun hc => ?_) (fun hc => ?_)
  · replace h := h.1 hc
    refine r_ldc2 x_167_22 (X := (-1)) rfl ?_
    exact h
  · replace h := h.2 hc
    refine r_aload_n x_167_11 rfl ?_
    obtain ⟨b9, hb10, h⟩ := h
    refine r_getR x_167_12 rfl (ci := 9) (k := 1) (ns := 0) (by decide +kernel) (by decide) rfl (kz := 1) rfl hO1 hb10 ?_
    refine r_iload_n x_167_15 rfl ?_
    refine r_invS x_167_16 (z := 118) (ns := 1) (by decide +kernel) (as := [.ref b9, g_n v1]) (r := []) rfl rfl rfl ?_
    refine r_callL h fun R14 M11 hx12 hok13 h => ?_
    replace h := h hx12 hok13
    replace hO1 := hO1.up hx12
    refine r_goto x_167_19 (t := 25) (by decide +kernel) ?_
    exact h
theorem s_X9_limit_25 {d : Nat} {M : g_M} {Q : Int → g_M → Prop} {a0 : Nat} {v1 : Int} (hv1 : g_InR v1) {W0 : Int64} (h : g_ok M → ((g_lc W0 0 < 0 → Q 2 M) ∧ (¬ g_lc W0 0 < 0 → g_O M a0 9 ∧ (∀ M2, M2 = g_wi M a0 14 ((if Int64.ofInt (g_i M a0 14) < W0 then Int64.ofInt (g_i M a0 14) else W0).toInt32.toInt) → g_ok M2 → Q 0 M2)))) : g_Run d 167 25 [(0, .ref a0), (1, g_n v1)] [.long W0] M (g_qI Q) := by
  refine g_Run.ok fun hok => ?_
  replace h := h hok
  refine r_lstore_n x_167_25 (by decide +kernel) rfl (lv1 := [(0, .ref a0), (1, g_n v1), (2, .long W0)]) rfl ?_
  refine r_lload_n x_167_26 rfl ?_
  refine r_lconst x_167_27 ?_
  show g_Run d 167 28 [(0, .ref a0), (1, g_n v1), (2, .long W0)] [.long 0, .long W0] M _
  refine r_lcmp x_167_28 ?_
  refine r_if_ge x_167_29 (t := 34) (by decide +kernel) (g_InR_toInt _) (fun hc => ?_) (fun hc => ?_)
  · replace h := h.2 hc
    refine r_aload_n x_167_34 rfl ?_
    refine r_lload_n x_167_35 rfl ?_
    refine r_aload_n x_167_36 rfl ?_
    obtain ⟨hO1, h⟩ := h
    refine r_getI x_167_37 rfl (ci := 9) (k := 14) (ns := 0) (by decide +kernel) (by decide) rfl (kz := 14) rfl hO1 ?_
    refine r_i2l x_167_40 (hok.1 _ _) ?_
    refine r_minL x_167_41 rfl rfl rfl rfl rfl ?_
    refine r_l2i x_167_44 ?_
    refine r_putI x_167_45 (ci := 9) (k := 14) (ns := 0) (by decide +kernel) (by decide) (g_f0 (by decide +kernel)) rfl (g_InR_toInt _) trivial (kz := 14) rfl hO1 ?_
    obtain ⟨M2, hM3⟩ : ∃ Mz, Mz = g_wi M a0 14 ((if Int64.ofInt (g_i M a0 14) < W0 then Int64.ofInt (g_i M a0 14) else W0).toInt32.toInt) := ⟨_, rfl⟩
    rw [← hM3]
    refine g_Run.ok fun hok4 => ?_
    replace h := h M2 hM3 hok4
    have hx5 := g_extW hM3
    replace hO1 := hO1.up hx5
    refine r_iconst x_167_48 ?_
    exact r_retI x_167_49 rfl (g_Rk rfl) h
  · replace h := h.1 hc
    refine r_iconst x_167_32 ?_
    exact r_retI x_167_33 rfl (g_Rk rfl) h
theorem m_X9_wrongInLookup {d : Nat} {M : g_M} {Q : Int → g_M → Prop} {a0 : Nat} {v1 : Int} (hv1 : g_InR v1) {v2 : Int} (hv2 : g_InR v2) {v3 : Int} (hv3 : g_InR v3) {v4 : Int} (hv4 : g_InR v4) (h : g_ok M → g_O M a0 9 ∧ ∃ b2, g_r M a0 1 = some b2 ∧ g_Call d 108 [.ref b2, g_n v1] M (g_qI fun r7 M4 => g_ext M M4 → g_ok M4 → g_InR r7 → ((r7 = 3 → ∃ b9, g_r M4 a0 1 = some b9 ∧ g_Call d 113 [.ref b9, g_n v1] M4 (g_qI fun r14 M11 => g_ext M4 M11 → g_ok M11 → g_InR r14 → ((r14 = 3 → ∃ b16, g_r M11 a0 1 = some b16 ∧ g_Call d 108 [.ref b16, g_n v2] M11 (g_qI fun r21 M18 => g_ext M11 M18 → g_ok M18 → g_InR r21 → ((r21 = 2 → ∃ b23, g_r M18 a0 1 = some b23 ∧ g_Call d 115 [.ref b23, g_n v2, .ref (4 * 57 + 1)] M18 (g_qI fun r28 M25 => g_ext M18 M25 → g_ok M25 → g_InR r28 → ((r28 = 0 → Q 2 M25) ∧ (¬ r28 = 0 → ∃ b30, g_r M25 a0 1 = some b30 ∧ g_Call d 108 [.ref b30, g_n v3] M25 (g_qI fun r35 M32 => g_ext M25 M32 → g_ok M32 → g_InR r35 → ((r35 = 2 → ∃ b37, g_r M32 a0 1 = some b37 ∧ g_Call d 115 [.ref b37, g_n v3, .ref (4 * 58 + 1)] M32 (g_qI fun r42 M39 => g_ext M32 M39 → g_ok M39 → g_InR r42 → ((r42 = 0 → Q 2 M39) ∧ (¬ r42 = 0 → ∃ b44, g_r M39 a0 1 = some b44 ∧ g_Call d 108 [.ref b44, g_n v4] M39 (g_qI fun r49 M46 => g_ext M39 M46 → g_ok M46 → g_InR r49 → ((r49 = 2 → ∃ b51, g_r M46 a0 1 = some b51 ∧ g_Call d 115 [.ref b51, g_n v4, .ref (4 * 59 + 1)] M46 (g_qI fun r56 M53 => g_ext M46 M53 → g_ok M53 → g_InR r56 → ((r56 = 0 → Q 2 M53) ∧ (¬ r56 = 0 → ∃ b58, g_r M53 a0 1 = some b58 ∧ g_Call d 110 [.ref b58, g_n v4] M53 (g_qI fun r63 M60 => g_ext M53 M60 → g_ok M60 → g_InR r63 → g_InR (r63 + 4) ∧ g_InR (r63 + 3) ∧ ∃ b67, g_r M60 a0 1 = some b67 ∧ g_Call d 109 [.ref b67, g_n r63] M60 (g_qI fun r72 M69 => g_ext M60 M69 → g_ok M69 → g_InR r72 → g_InR ((r63 + 3) + r72) ∧ g_Call d 145 [.ref a0, g_n (r63 + 4), g_n ((r63 + 3) + r72)] M69 (g_qI fun r78 M75 => g_ext M69 M75 → g_ok M75 → g_InR r78 → ((r78 = 0 → Q 2 M75) ∧ (¬ r78 = 0 → ∃ b80, g_r M75 a0 2 = some b80 ∧ ∃ b82, g_r M75 a0 1 = some b82 ∧ g_O M75 b80 5 ∧ g_Call d 92 [.ref b80, .ref b82, g_n v2, g_n 0] M75 (g_qI fun r88 M85 => g_ext M75 M85 → g_ok M85 → g_InR r88 → ((r88 = 0 → Q 3 M85) ∧ (¬ r88 = 0 → ∃ b90, g_r M85 a0 3 = some b90 ∧ ∃ b92, g_r M85 a0 1 = some b92 ∧ g_O M85 b90 5 ∧ g_Call d 92 [.ref b90, .ref b92, g_n v3, g_n 0] M85 (g_qI fun r98 M95 => g_ext M85 M95 → g_ok M95 → g_InR r98 → ((r98 = 0 → Q 3 M95) ∧ (¬ r98 = 0 → Q 0 M95))))))))))))))) ∧ (¬ r49 = 2 → Q 2 M46))))))) ∧ (¬ r35 = 2 → Q 2 M32))))))) ∧ (¬ r21 = 2 → Q 2 M18)))) ∧ (¬ r14 = 3 → Q 2 M11)))) ∧ (¬ r7 = 3 → Q 2 M4)))) : g_Call (d + 1) 168 [.ref a0, g_n v1, g_n v2, g_n v3, g_n v4] M (g_qI Q) := by
  refine g_Call.ok fun hok0 => ?_
  replace h := h hok0
  refine r_body rfl (lv := [(0, .ref a0), (1, g_n v1), (2, g_n v2), (3, g_n v3), (4, g_n v4)]) rfl ?_
  refine g_Run.ok fun hok => ?_
  refine r_aload_n x_168_0 rfl ?_
  obtain ⟨hO1, h⟩ := h
  obtain ⟨b2, hb3, h⟩ := h
  refine r_getR x_168_1 rfl (ci := 9) (k := 1) (ns := 0) (by decide +kernel) (by decide) rfl (kz := 1) rfl hO1 hb3 ?_
  refine r_iload_n x_168_4 rfl ?_
  refine r_invS x_168_5 (z := 108) (ns := 1) (by decide +kernel) (as := [.ref b2, g_n v1]) (r := []) rfl rfl rfl ?_
  refine r_callI h fun r7 M4 hx5 hok6 hr8 h => ?_
  replace h := h hx5 hok6 hr8
  replace hO1 := hO1.up hx5
  refine r_iconst x_168_8 ?_
  refine r_ic_ne x_168_9 (t := 104) (by decide +kernel) hr8 (g_Rk rfl) (fun hc => ?_) (fun hc => ?_)
  · replace h := h.2 hc
    refine r_iconst x_168_104 ?_
    exact r_retI x_168_105 rfl (g_Rk rfl) h
  · replace h := h.1 hc
    refine r_aload_n x_168_12 rfl ?_
    obtain ⟨b9, hb10, h⟩ := h
    refine r_getR x_168_13 rfl (ci := 9) (k := 1) (ns := 0) (by decide +kernel) (by decide) rfl (kz := 1) rfl hO1 hb10 ?_
    refine r_iload_n x_168_16 rfl ?_
    refine r_invS x_168_17 (z := 113) (ns := 1) (by decide +kernel) (as := [.ref b9, g_n v1]) (r := []) rfl rfl rfl ?_
    refine r_callI h fun r14 M11 hx12 hok13 hr15 h => ?_
    replace h := h hx12 hok13 hr15
    replace hO1 := hO1.up hx12
    refine r_iconst x_168_20 ?_
    refine r_ic_ne x_168_21 (t := 104) (by decide +kernel) hr15 (g_Rk rfl) (fun hc => ?_) (fun hc => ?_)
    · replace h := h.2 hc
      refine r_iconst x_168_104 ?_
      exact r_retI x_168_105 rfl (g_Rk rfl) h
    · replace h := h.1 hc
      refine r_aload_n x_168_24 rfl ?_
      obtain ⟨b16, hb17, h⟩ := h
      refine r_getR x_168_25 rfl (ci := 9) (k := 1) (ns := 0) (by decide +kernel) (by decide) rfl (kz := 1) rfl hO1 hb17 ?_
      refine r_iload_n x_168_28 rfl ?_
      refine r_invS x_168_29 (z := 108) (ns := 1) (by decide +kernel) (as := [.ref b16, g_n v2]) (r := []) rfl rfl rfl ?_
      refine r_callI h fun r21 M18 hx19 hok20 hr22 h => ?_
      replace h := h hx19 hok20 hr22
      replace hO1 := hO1.up hx19
      refine r_iconst x_168_32 ?_
      refine r_ic_ne x_168_33 (t := 104) (by decide +kernel) hr22 (g_Rk rfl) (fun hc => ?_) (fun hc => ?_)
      · replace h := h.2 hc
        refine r_iconst x_168_104 ?_
        exact r_retI x_168_105 rfl (g_Rk rfl) h
      · replace h := h.1 hc
        refine r_aload_n x_168_36 rfl ?_
        obtain ⟨b23, hb24, h⟩ := h
        refine r_getR x_168_37 rfl (ci := 9) (k := 1) (ns := 0) (by decide +kernel) (by decide) rfl (kz := 1) rfl hO1 hb24 ?_
        refine r_iload_n x_168_40 rfl ?_
        refine r_ldcw x_168_41 (v := .ref (4 * 57 + 1)) rfl ?_
        refine r_invS x_168_44 (z := 115) (ns := 1) (by decide +kernel) (as := [.ref b23, g_n v2, .ref (4 * 57 + 1)]) (r := []) rfl rfl rfl ?_
        refine r_callI h fun r28 M25 hx26 hok27 hr29 h => ?_
        replace h := h hx26 hok27 hr29
        replace hO1 := hO1.up hx26
        refine r_if_eq x_168_47 (t := 104) (by decide +kernel) hr29 (fun hc => ?_) (fun hc => ?_)
        · replace h := h.1 hc
          refine r_iconst x_168_104 ?_
          exact r_retI x_168_105 rfl (g_Rk rfl) h
        · replace h := h.2 hc
          refine r_aload_n x_168_50 rfl ?_
          obtain ⟨b30, hb31, h⟩ := h
          refine r_getR x_168_51 rfl (ci := 9) (k := 1) (ns := 0) (by decide +kernel) (by decide) rfl (kz := 1) rfl hO1 hb31 ?_
          refine r_iload_n x_168_54 rfl ?_
          refine r_invS x_168_55 (z := 108) (ns := 1) (by decide +kernel) (as := [.ref b30, g_n v3]) (r := []) rfl rfl rfl ?_
          refine r_callI h fun r35 M32 hx33 hok34 hr36 h => ?_
          replace h := h hx33 hok34 hr36
          replace hO1 := hO1.up hx33
          refine r_iconst x_168_58 ?_
          refine r_ic_ne x_168_59 (t := 104) (by decide +kernel) hr36 (g_Rk rfl) (fun hc => ?_) (fun hc => ?_)
          · replace h := h.2 hc
            refine r_iconst x_168_104 ?_
            exact r_retI x_168_105 rfl (g_Rk rfl) h
          · replace h := h.1 hc
            refine r_aload_n x_168_62 rfl ?_
            obtain ⟨b37, hb38, h⟩ := h
            refine r_getR x_168_63 rfl (ci := 9) (k := 1) (ns := 0) (by decide +kernel) (by decide) rfl (kz := 1) rfl hO1 hb38 ?_
            refine r_iload_n x_168_66 rfl ?_
            refine r_ldcw x_168_67 (v := .ref (4 * 58 + 1)) rfl ?_
            refine r_invS x_168_70 (z := 115) (ns := 1) (by decide +kernel) (as := [.ref b37, g_n v3, .ref (4 * 58 + 1)]) (r := []) rfl rfl rfl ?_
            refine r_callI h fun r42 M39 hx40 hok41 hr43 h => ?_
            replace h := h hx40 hok41 hr43
            replace hO1 := hO1.up hx40
            refine r_if_eq x_168_73 (t := 104) (by decide +kernel) hr43 (fun hc => ?_) (fun hc => ?_)
            · replace h := h.1 hc
              refine r_iconst x_168_104 ?_
              exact r_retI x_168_105 rfl (g_Rk rfl) h
            · replace h := h.2 hc
              refine r_aload_n x_168_76 rfl ?_
              obtain ⟨b44, hb45, h⟩ := h
              refine r_getR x_168_77 rfl (ci := 9) (k := 1) (ns := 0) (by decide +kernel) (by decide) rfl (kz := 1) rfl hO1 hb45 ?_
              refine r_iload x_168_80 rfl ?_
              refine r_invS x_168_82 (z := 108) (ns := 1) (by decide +kernel) (as := [.ref b44, g_n v4]) (r := []) rfl rfl rfl ?_
              refine r_callI h fun r49 M46 hx47 hok48 hr50 h => ?_
              replace h := h hx47 hok48 hr50
              replace hO1 := hO1.up hx47
              refine r_iconst x_168_85 ?_
              refine r_ic_ne x_168_86 (t := 104) (by decide +kernel) hr50 (g_Rk rfl) (fun hc => ?_) (fun hc => ?_)
              · replace h := h.2 hc
                refine r_iconst x_168_104 ?_
                exact r_retI x_168_105 rfl (g_Rk rfl) h
              · replace h := h.1 hc
                refine r_aload_n x_168_89 rfl ?_
                obtain ⟨b51, hb52, h⟩ := h
                refine r_getR x_168_90 rfl (ci := 9) (k := 1) (ns := 0) (by decide +kernel) (by decide) rfl (kz := 1) rfl hO1 hb52 ?_
                refine r_iload x_168_93 rfl ?_
                refine r_ldcw x_168_95 (v := .ref (4 * 59 + 1)) rfl ?_
                refine r_invS x_168_98 (z := 115) (ns := 1) (by decide +kernel) (as := [.ref b51, g_n v4, .ref (4 * 59 + 1)]) (r := []) rfl rfl rfl ?_
                refine r_callI h fun r56 M53 hx54 hok55 hr57 h => ?_
                replace h := h hx54 hok55 hr57
                replace hO1 := hO1.up hx54
                refine r_if_ne x_168_101 (t := 106) (by decide +kernel) hr57 (fun hc => ?_) (fun hc => ?_)
                · replace h := h.2 hc
                  refine r_aload_n x_168_106 rfl ?_
                  obtain ⟨b58, hb59, h⟩ := h
                  refine r_getR x_168_107 rfl (ci := 9) (k := 1) (ns := 0) (by decide +kernel) (by decide) rfl (kz := 1) rfl hO1 hb59 ?_
                  refine r_iload x_168_110 rfl ?_
                  refine r_invS x_168_112 (z := 110) (ns := 1) (by decide +kernel) (as := [.ref b58, g_n v4]) (r := []) rfl rfl rfl ?_
                  refine r_callI h fun r63 M60 hx61 hok62 hr64 h => ?_
                  replace h := h hx61 hok62 hr64
                  replace hO1 := hO1.up hx61
                  refine r_istore x_168_115 (by decide +kernel) rfl (lv1 := [(0, .ref a0), (1, g_n v1), (2, g_n v2), (3, g_n v3), (4, g_n v4), (5, g_n r63)]) rfl ?_
                  refine r_aload_n x_168_117 rfl ?_
                  refine r_iload x_168_118 rfl ?_
                  refine r_iconst x_168_120 ?_
                  refine r_iadd x_168_121 ?_
                  obtain ⟨h65, h⟩ := h
                  refine r_iload x_168_122 rfl ?_
                  refine r_iconst x_168_124 ?_
                  refine r_iadd x_168_125 ?_
                  obtain ⟨h66, h⟩ := h
                  refine r_aload_n x_168_126 rfl ?_
                  obtain ⟨b67, hb68, h⟩ := h
                  refine r_getR x_168_127 rfl (ci := 9) (k := 1) (ns := 0) (by decide +kernel) (by decide) rfl (kz := 1) rfl hO1 hb68 ?_
                  refine r_iload x_168_130 rfl ?_
                  refine r_invS x_168_132 (z := 109) (ns := 1) (by decide +kernel) (as := [.ref b67, g_n r63]) (r := [g_n (r63 + 3), g_n (r63 + 4), .ref a0]) rfl rfl rfl ?_
                  refine r_callI h fun r72 M69 hx70 hok71 hr73 h => ?_
                  replace h := h hx70 hok71 hr73
                  replace hO1 := hO1.up hx70
                  refine r_iadd x_168_135 ?_
                  obtain ⟨h74, h⟩ := h
                  refine r_invV x_168_136 (z := 145) (ns := 0) (by decide +kernel) (as := [g_n (r63 + 4), g_n ((r63 + 3) + r72)]) (r := []) rfl rfl rfl hO1 rfl rfl ?_
                  refine r_callI h fun r78 M75 hx76 hok77 hr79 h => ?_
                  replace h := h hx76 hok77 hr79
                  replace hO1 := hO1.up hx76
                  refine r_if_ne x_168_139 (t := 144) (by decide +kernel) hr79 (fun hc => ?_) (fun hc => ?_)
                  · replace h := h.2 hc
                    refine r_aload_n x_168_144 rfl ?_
                    obtain ⟨b80, hb81, h⟩ := h
                    refine r_getR x_168_145 rfl (ci := 9) (k := 2) (ns := 0) (by decide +kernel) (by decide) rfl (kz := 2) rfl hO1 hb81 ?_
                    refine r_aload_n x_168_148 rfl ?_
                    obtain ⟨b82, hb83, h⟩ := h
                    refine r_getR x_168_149 rfl (ci := 9) (k := 1) (ns := 0) (by decide +kernel) (by decide) rfl (kz := 1) rfl hO1 hb83 ?_
                    refine r_iload_n x_168_152 rfl ?_
                    refine r_iconst x_168_153 ?_
                    obtain ⟨hO84, h⟩ := h
                    refine r_invV x_168_154 (z := 92) (ns := 1) (by decide +kernel) (as := [.ref b82, g_n v2, g_n 0]) (r := []) rfl rfl rfl hO84 rfl rfl ?_
                    refine r_callI h fun r88 M85 hx86 hok87 hr89 h => ?_
                    replace h := h hx86 hok87 hr89
                    replace hO1 := hO1.up hx86
                    replace hO84 := hO84.up hx86
                    refine r_if_eq x_168_157 (t := 180) (by decide +kernel) hr89 (fun hc => ?_) (fun hc => ?_)
                    · replace h := h.1 hc
                      refine r_iconst x_168_180 ?_
                      exact r_retI x_168_181 rfl (g_Rk rfl) h
                    · replace h := h.2 hc
                      refine r_aload_n x_168_160 rfl ?_
                      obtain ⟨b90, hb91, h⟩ := h
                      refine r_getR x_168_161 rfl (ci := 9) (k := 3) (ns := 0) (by decide +kernel) (by decide) rfl (kz := 3) rfl hO1 hb91 ?_
                      refine r_aload_n x_168_164 rfl ?_
                      obtain ⟨b92, hb93, h⟩ := h
                      refine r_getR x_168_165 rfl (ci := 9) (k := 1) (ns := 0) (by decide +kernel) (by decide) rfl (kz := 1) rfl hO1 hb93 ?_
                      refine r_iload_n x_168_168 rfl ?_
                      refine r_iconst x_168_169 ?_
                      obtain ⟨hO94, h⟩ := h
                      refine r_invV x_168_170 (z := 92) (ns := 1) (by decide +kernel) (as := [.ref b92, g_n v3, g_n 0]) (r := []) rfl rfl rfl hO94 rfl rfl ?_
                      refine r_callI h fun r98 M95 hx96 hok97 hr99 h => ?_
                      replace h := h hx96 hok97 hr99
                      replace hO1 := hO1.up hx96
                      replace hO84 := hO84.up hx96
                      replace hO94 := hO94.up hx96
                      refine r_if_eq x_168_173 (t := 180) (by decide +kernel) hr99 (fun hc => ?_) (fun hc => ?_)
                      · replace h := h.1 hc
                        refine r_iconst x_168_180 ?_
                        exact r_retI x_168_181 rfl (g_Rk rfl) h
                      · replace h := h.2 hc
                        refine r_iconst x_168_176 ?_
                        refine r_goto x_168_177 (t := 181) (by decide +kernel) ?_
                        exact r_retI x_168_181 rfl (g_Rk rfl) h
                  · replace h := h.1 hc
                    refine r_iconst x_168_142 ?_
                    exact r_retI x_168_143 rfl (g_Rk rfl) h
                · replace h := h.1 hc
                  refine r_iconst x_168_104 ?_
                  exact r_retI x_168_105 rfl (g_Rk rfl) h
theorem m_X9_lookup {d : Nat} {M : g_M} {Q : Int → g_M → Prop} {a0 : Nat} {v1 : Int} (hv1 : g_InR v1) (h : g_ok M → g_O M a0 9 ∧ ∃ b2, g_r M a0 1 = some b2 ∧ g_Call d 112 [.ref b2, g_n v1] M (g_qI fun r7 M4 => g_ext M M4 → g_ok M4 → g_InR r7 → ∃ b9, g_r M4 a0 1 = some b9 ∧ g_Call d 111 [.ref b9, g_n r7] M4 (g_qI fun r14 M11 => g_ext M4 M11 → g_ok M11 → g_InR r14 → ∃ b16, g_r M11 a0 1 = some b16 ∧ g_Call d 111 [.ref b16, g_n r14] M11 (g_qI fun r21 M18 => g_ext M11 M18 → g_ok M18 → g_InR r21 → g_Call d 168 [.ref a0, g_n v1, g_n r7, g_n r14, g_n r21] M18 (g_qI fun r26 M23 => g_ext M18 M23 → g_ok M23 → g_InR r26 → ((r26 = 0 → ∃ b28, g_r M23 a0 1 = some b28 ∧ g_Call d 110 [.ref b28, g_n r21] M23 (g_qI fun r33 M30 => g_ext M23 M30 → g_ok M30 → g_InR r33 → g_InR (r33 + 4) ∧ g_InR ((r33 + 4) - 1) ∧ ∃ b37, g_r M30 a0 1 = some b37 ∧ g_InR ((r33 + 4) - 4) ∧ g_Call d 109 [.ref b37, g_n ((r33 + 4) - 4)] M30 (g_qI fun r43 M40 => g_ext M30 M40 → g_ok M40 → g_InR r43 → g_InR (((r33 + 4) - 1) + r43) ∧ g_Call d 140 [.ref a0] M40 (g_qV fun M46 => g_ext M40 M46 → g_ok M46 → g_Run d 169 85 [(0, .ref a0), (1, g_n v1), (2, g_n r7), (3, g_n r14), (4, g_n r21), (5, g_n r26), (6, g_n (r33 + 4)), (7, g_n (((r33 + 4) - 1) + r43)), (8, g_n 0)] [] M46 (g_qI Q))))) ∧ (¬ r26 = 0 → Q r26 M23))))))) : g_Call (d + 1) 169 [.ref a0, g_n v1] M (g_qI Q) := by
  refine g_Call.ok fun hok0 => ?_
  replace h := h hok0
  refine r_body rfl (lv := [(0, .ref a0), (1, g_n v1)]) rfl ?_
  refine g_Run.ok fun hok => ?_
  refine r_aload_n x_169_0 rfl ?_
  obtain ⟨hO1, h⟩ := h
  obtain ⟨b2, hb3, h⟩ := h
  refine r_getR x_169_1 rfl (ci := 9) (k := 1) (ns := 0) (by decide +kernel) (by decide) rfl (kz := 1) rfl hO1 hb3 ?_
  refine r_iload_n x_169_4 rfl ?_
  refine r_invS x_169_5 (z := 112) (ns := 1) (by decide +kernel) (as := [.ref b2, g_n v1]) (r := []) rfl rfl rfl ?_
  refine r_callI h fun r7 M4 hx5 hok6 hr8 h => ?_
  replace h := h hx5 hok6 hr8
  replace hO1 := hO1.up hx5
  refine r_istore_n x_169_8 (by decide +kernel) rfl (lv1 := [(0, .ref a0), (1, g_n v1), (2, g_n r7)]) rfl ?_
  refine r_aload_n x_169_9 rfl ?_
  obtain ⟨b9, hb10, h⟩ := h
  refine r_getR x_169_10 rfl (ci := 9) (k := 1) (ns := 0) (by decide +kernel) (by decide) rfl (kz := 1) rfl hO1 hb10 ?_
  refine r_iload_n x_169_13 rfl ?_
  refine r_invS x_169_14 (z := 111) (ns := 1) (by decide +kernel) (as := [.ref b9, g_n r7]) (r := []) rfl rfl rfl ?_
  refine r_callI h fun r14 M11 hx12 hok13 hr15 h => ?_
  replace h := h hx12 hok13 hr15
  replace hO1 := hO1.up hx12
  refine r_istore_n x_169_17 (by decide +kernel) rfl (lv1 := [(0, .ref a0), (1, g_n v1), (2, g_n r7), (3, g_n r14)]) rfl ?_
  refine r_aload_n x_169_18 rfl ?_
  obtain ⟨b16, hb17, h⟩ := h
  refine r_getR x_169_19 rfl (ci := 9) (k := 1) (ns := 0) (by decide +kernel) (by decide) rfl (kz := 1) rfl hO1 hb17 ?_
  refine r_iload_n x_169_22 rfl ?_
  refine r_invS x_169_23 (z := 111) (ns := 1) (by decide +kernel) (as := [.ref b16, g_n r14]) (r := []) rfl rfl rfl ?_
  refine r_callI h fun r21 M18 hx19 hok20 hr22 h => ?_
  replace h := h hx19 hok20 hr22
  replace hO1 := hO1.up hx19
  refine r_istore x_169_26 (by decide +kernel) rfl (lv1 := [(0, .ref a0), (1, g_n v1), (2, g_n r7), (3, g_n r14), (4, g_n r21)]) rfl ?_
  refine r_aload_n x_169_28 rfl ?_
  refine r_iload_n x_169_29 rfl ?_
  refine r_iload_n x_169_30 rfl ?_
  refine r_iload_n x_169_31 rfl ?_
  refine r_iload x_169_32 rfl ?_
  refine r_invV x_169_34 (z := 168) (ns := 0) (by decide +kernel) (as := [g_n v1, g_n r7, g_n r14, g_n r21]) (r := []) rfl rfl rfl hO1 rfl rfl ?_
  refine r_callI h fun r26 M23 hx24 hok25 hr27 h => ?_
  replace h := h hx24 hok25 hr27
  replace hO1 := hO1.up hx24
  refine r_istore x_169_37 (by decide +kernel) rfl (lv1 := [(0, .ref a0), (1, g_n v1), (2, g_n r7), (3, g_n r14), (4, g_n r21), (5, g_n r26)]) rfl ?_
  refine r_iload x_169_39 rfl ?_
  refine r_if_eq x_169_41 (t := 47) (by decide +kernel) hr27 (fun hc => ?_) (fun hc => ?_)
  · replace h := h.1 hc
    refine r_aload_n x_169_47 rfl ?_
    obtain ⟨b28, hb29, h⟩ := h
    refine r_getR x_169_48 rfl (ci := 9) (k := 1) (ns := 0) (by decide +kernel) (by decide) rfl (kz := 1) rfl hO1 hb29 ?_
    refine r_iload x_169_51 rfl ?_
    refine r_invS x_169_53 (z := 110) (ns := 1) (by decide +kernel) (as := [.ref b28, g_n r21]) (r := []) rfl rfl rfl ?_
    refine r_callI h fun r33 M30 hx31 hok32 hr34 h => ?_
    replace h := h hx31 hok32 hr34
    replace hO1 := hO1.up hx31
    refine r_iconst x_169_56 ?_
    refine r_iadd x_169_57 ?_
    obtain ⟨h35, h⟩ := h
    refine r_istore x_169_58 (by decide +kernel) rfl (lv1 := [(0, .ref a0), (1, g_n v1), (2, g_n r7), (3, g_n r14), (4, g_n r21), (5, g_n r26), (6, g_n (r33 + 4))]) rfl ?_
    refine r_iload x_169_60 rfl ?_
    refine r_iconst x_169_62 ?_
    refine r_isub x_169_63 ?_
    obtain ⟨h36, h⟩ := h
    refine r_aload_n x_169_64 rfl ?_
    obtain ⟨b37, hb38, h⟩ := h
    refine r_getR x_169_65 rfl (ci := 9) (k := 1) (ns := 0) (by decide +kernel) (by decide) rfl (kz := 1) rfl hO1 hb38 ?_
    refine r_iload x_169_68 rfl ?_
    refine r_iconst x_169_70 ?_
    refine r_isub x_169_71 ?_
    obtain ⟨h39, h⟩ := h
    refine r_invS x_169_72 (z := 109) (ns := 1) (by decide +kernel) (as := [.ref b37, g_n ((r33 + 4) - 4)]) (r := [g_n ((r33 + 4) - 1)]) rfl rfl rfl ?_
    refine r_callI h fun r43 M40 hx41 hok42 hr44 h => ?_
    replace h := h hx41 hok42 hr44
    replace hO1 := hO1.up hx41
    refine r_iadd x_169_75 ?_
    obtain ⟨h45, h⟩ := h
    refine r_istore x_169_76 (by decide +kernel) rfl (lv1 := [(0, .ref a0), (1, g_n v1), (2, g_n r7), (3, g_n r14), (4, g_n r21), (5, g_n r26), (6, g_n (r33 + 4)), (7, g_n (((r33 + 4) - 1) + r43))]) rfl ?_
    refine r_aload_n x_169_78 rfl ?_
    refine r_invV x_169_79 (z := 140) (ns := 0) (by decide +kernel) (as := []) (r := []) rfl rfl rfl hO1 rfl rfl ?_
    refine r_callV h fun M46 hx47 hok48 h => ?_
    replace h := h hx47 hok48
    replace hO1 := hO1.up hx47
    refine r_iconst x_169_82 ?_
    refine r_istore x_169_83 (by decide +kernel) rfl (lv1 := [(0, .ref a0), (1, g_n v1), (2, g_n r7), (3, g_n r14), (4, g_n r21), (5, g_n r26), (6, g_n (r33 + 4)), (7, g_n (((r33 + 4) - 1) + r43)), (8, g_n 0)]) rfl ?_
    exact h
  · replace h := h.2 hc
    refine r_iload x_169_44 rfl ?_
    exact r_retI x_169_46 rfl hr27 h
theorem s_X9_lookup_85 {d : Nat} {M : g_M} {Q : Int → g_M → Prop} {a0 : Nat} {v1 : Int} (hv1 : g_InR v1) {v2 : Int} (hv2 : g_InR v2) {v3 : Int} (hv3 : g_InR v3) {v4 : Int} (hv4 : g_InR v4) {v5 : Int} (hv5 : g_InR v5) {v6 : Int} (hv6 : g_InR v6) {v7 : Int} (hv7 : g_InR v7) {v8 : Int} (hv8 : g_InR v8) (h : g_ok M → g_O M a0 9 ∧ ((v8 < g_i M a0 14 → ∃ b7, g_r M a0 6 = some b7 ∧ ∃ n9, g_A M b7 1 n9 ∧ ((0 : Int) ≤ v8 ∧ (v8 : Int) < n9) ∧ g_Call d 141 [.ref a0] M (g_qI fun r15 M12 => g_ext M M12 → g_ok M12 → g_InR r15 → ∃ b17, g_r M12 a0 1 = some b17 ∧ ∃ b19, g_r M12 a0 1 = some b19 ∧ g_Call d 114 [.ref b17, g_n (g_i M b7 v8), .ref b19, g_n v6, g_n v7] M12 (g_qI fun r24 M21 => g_ext M12 M21 → g_ok M21 → g_InR r24 → ∃ b26, g_r M21 a0 1 = some b26 ∧ g_Call d 111 [.ref b26, g_n (g_i M b7 v8)] M21 (g_qI fun r31 M28 => g_ext M21 M28 → g_ok M28 → g_InR r31 → g_InR (r31 - 1) ∧ ∃ b34, g_r M28 a0 4 = some b34 ∧ ∃ b36, g_r M28 a0 1 = some b36 ∧ ∃ b38, g_r M28 a0 1 = some b38 ∧ g_Call d 112 [.ref b38, g_n (g_i M b7 v8)] M28 (g_qI fun r43 M40 => g_ext M28 M40 → g_ok M40 → g_InR r43 → ((r24 < 0 → g_Run d 169 170 [(0, .ref a0), (1, g_n v1), (2, g_n v2), (3, g_n v3), (4, g_n v4), (5, g_n v5), (6, g_n v6), (7, g_n v7), (8, g_n v8), (9, g_n (g_i M b7 v8)), (10, g_n r15), (11, g_n r24), (12, g_n (r31 - 1))] [g_n (r31 - 1), g_n r43, .ref b36, .ref b34] M40 (g_qI Q)) ∧ (¬ r24 < 0 → g_Run d 169 170 [(0, .ref a0), (1, g_n v1), (2, g_n v2), (3, g_n v3), (4, g_n v4), (5, g_n v5), (6, g_n v6), (7, g_n v7), (8, g_n v8), (9, g_n (g_i M b7 v8)), (10, g_n r15), (11, g_n r24), (12, g_n (r31 - 1))] [g_n r24, g_n r43, .ref b36, .ref b34] M40 (g_qI Q)))))))) ∧ (¬ v8 < g_i M a0 14 → g_Call d 144 [.ref a0] M (g_qI fun r5 M2 => g_ext M M2 → g_ok M2 → g_InR r5 → Q r5 M2)))) : g_Run d 169 85 [(0, .ref a0), (1, g_n v1), (2, g_n v2), (3, g_n v3), (4, g_n v4), (5, g_n v5), (6, g_n v6), (7, g_n v7), (8, g_n v8)] [] M (g_qI Q) := by
  refine g_Run.ok fun hok => ?_
  replace h := h hok
  refine r_iload x_169_85 rfl ?_
  refine r_aload_n x_169_87 rfl ?_
  obtain ⟨hO1, h⟩ := h
  refine r_getI x_169_88 rfl (ci := 9) (k := 14) (ns := 0) (by decide +kernel) (by decide) rfl (kz := 14) rfl hO1 ?_
  refine r_ic_ge x_169_91 (t := 239) (by decide +kernel) hv8 (hok.1 _ _) (fun hc => ?_) (fun hc => ?_)
  · replace h := h.2 hc
    refine r_aload_n x_169_239 rfl ?_
    refine r_invV x_169_240 (z := 144) (ns := 0) (by decide +kernel) (as := []) (r := []) rfl rfl rfl hO1 rfl rfl ?_
    refine r_callI h fun r5 M2 hx3 hok4 hr6 h => ?_
    replace h := h hx3 hok4 hr6
    replace hO1 := hO1.up hx3
    exact r_retI x_169_243 rfl hr6 h
  · replace h := h.1 hc
    refine r_aload_n x_169_94 rfl ?_
    obtain ⟨b7, hb8, h⟩ := h
    refine r_getR x_169_95 rfl (ci := 9) (k := 6) (ns := 0) (by decide +kernel) (by decide) rfl (kz := 6) rfl hO1 hb8 ?_
    refine r_iload x_169_98 rfl ?_
    obtain ⟨n9, hA10, h⟩ := h
    obtain ⟨h11, h⟩ := h
    refine r_iald x_169_100 hA10 hv8 h11.1 h11.2 ?_
    refine r_istore x_169_101 (by decide +kernel) rfl (lv1 := [(0, .ref a0), (1, g_n v1), (2, g_n v2), (3, g_n v3), (4, g_n v4), (5, g_n v5), (6, g_n v6), (7, g_n v7), (8, g_n v8), (9, g_n (g_i M b7 v8))]) rfl ?_
    refine r_aload_n x_169_103 rfl ?_
    refine r_invV x_169_104 (z := 141) (ns := 0) (by decide +kernel) (as := []) (r := []) rfl rfl rfl hO1 rfl rfl ?_
    refine r_callI h fun r15 M12 hx13 hok14 hr16 h => ?_
    replace h := h hx13 hok14 hr16
    replace hO1 := hO1.up hx13
    replace hA10 := hA10.up hx13
    refine r_istore x_169_107 (by decide +kernel) rfl (lv1 := [(0, .ref a0), (1, g_n v1), (2, g_n v2), (3, g_n v3), (4, g_n v4), (5, g_n v5), (6, g_n v6), (7, g_n v7), (8, g_n v8), (9, g_n (g_i M b7 v8)), (10, g_n r15)]) rfl ?_
    refine r_aload_n x_169_109 rfl ?_
    obtain ⟨b17, hb18, h⟩ := h
    refine r_getR x_169_110 rfl (ci := 9) (k := 1) (ns := 0) (by decide +kernel) (by decide) rfl (kz := 1) rfl hO1 hb18 ?_
    refine r_iload x_169_113 rfl ?_
    refine r_aload_n x_169_115 rfl ?_
    obtain ⟨b19, hb20, h⟩ := h
    refine r_getR x_169_116 rfl (ci := 9) (k := 1) (ns := 0) (by decide +kernel) (by decide) rfl (kz := 1) rfl hO1 hb20 ?_
    refine r_iload x_169_119 rfl ?_
    refine r_iload x_169_121 rfl ?_
    refine r_invS x_169_123 (z := 114) (ns := 1) (by decide +kernel) (as := [.ref b17, g_n (g_i M b7 v8), .ref b19, g_n v6, g_n v7]) (r := []) rfl rfl rfl ?_
    refine r_callI h fun r24 M21 hx22 hok23 hr25 h => ?_
    replace h := h hx22 hok23 hr25
    replace hO1 := hO1.up hx22
    replace hA10 := hA10.up hx22
    refine r_istore x_169_126 (by decide +kernel) rfl (lv1 := [(0, .ref a0), (1, g_n v1), (2, g_n v2), (3, g_n v3), (4, g_n v4), (5, g_n v5), (6, g_n v6), (7, g_n v7), (8, g_n v8), (9, g_n (g_i M b7 v8)), (10, g_n r15), (11, g_n r24)]) rfl ?_
    refine r_aload_n x_169_128 rfl ?_
    obtain ⟨b26, hb27, h⟩ := h
    refine r_getR x_169_129 rfl (ci := 9) (k := 1) (ns := 0) (by decide +kernel) (by decide) rfl (kz := 1) rfl hO1 hb27 ?_
    refine r_iload x_169_132 rfl ?_
    refine r_invS x_169_134 (z := 111) (ns := 1) (by decide +kernel) (as := [.ref b26, g_n (g_i M b7 v8)]) (r := []) rfl rfl rfl ?_
    refine r_callI h fun r31 M28 hx29 hok30 hr32 h => ?_
    replace h := h hx29 hok30 hr32
    replace hO1 := hO1.up hx29
    replace hA10 := hA10.up hx29
    refine r_iconst x_169_137 ?_
    refine r_isub x_169_138 ?_
    obtain ⟨h33, h⟩ := h
    refine r_istore x_169_139 (by decide +kernel) rfl (lv1 := [(0, .ref a0), (1, g_n v1), (2, g_n v2), (3, g_n v3), (4, g_n v4), (5, g_n v5), (6, g_n v6), (7, g_n v7), (8, g_n v8), (9, g_n (g_i M b7 v8)), (10, g_n r15), (11, g_n r24), (12, g_n (r31 - 1))]) rfl ?_
    refine r_aload_n x_169_141 rfl ?_
    obtain ⟨b34, hb35, h⟩ := h
    refine r_getR x_169_142 rfl (ci := 9) (k := 4) (ns := 0) (by decide +kernel) (by decide) rfl (kz := 4) rfl hO1 hb35 ?_
    refine r_aload_n x_169_145 rfl ?_
    obtain ⟨b36, hb37, h⟩ := h
    refine r_getR x_169_146 rfl (ci := 9) (k := 1) (ns := 0) (by decide +kernel) (by decide) rfl (kz := 1) rfl hO1 hb37 ?_
    refine r_aload_n x_169_149 rfl ?_
    obtain ⟨b38, hb39, h⟩ := h
    refine r_getR x_169_150 rfl (ci := 9) (k := 1) (ns := 0) (by decide +kernel) (by decide) rfl (kz := 1) rfl hO1 hb39 ?_
    refine r_iload x_169_153 rfl ?_
    refine r_invS x_169_155 (z := 112) (ns := 1) (by decide +kernel) (as := [.ref b38, g_n (g_i M b7 v8)]) (r := [.ref b36, .ref b34]) rfl rfl rfl ?_
    refine r_callI h fun r43 M40 hx41 hok42 hr44 h => ?_
    replace h := h hx41 hok42 hr44
    replace hO1 := hO1.up hx41
    replace hA10 := hA10.up hx41
    refine r_iload x_169_158 rfl ?_
    refine r_if_ge x_169_160 (t := 168) (by decide +kernel) hr25 (fun hc => ?_) (fun hc => ?_)
    · replace h := h.2 hc
      refine r_iload x_169_168 rfl ?_
      exact h
    · replace h := h.1 hc
      refine r_iload x_169_163 rfl ?_
      refine r_goto x_169_165 (t := 170) (by decide +kernel) ?_
      exact h
theorem s_X9_lookup_170 {d : Nat} {M : g_M} {Q : Int → g_M → Prop} {a0 : Nat} {v1 : Int} (hv1 : g_InR v1) {v2 : Int} (hv2 : g_InR v2) {v3 : Int} (hv3 : g_InR v3) {v4 : Int} (hv4 : g_InR v4) {v5 : Int} (hv5 : g_InR v5) {v6 : Int} (hv6 : g_InR v6) {v7 : Int} (hv7 : g_InR v7) {v8 : Int} (hv8 : g_InR v8) {v9 : Int} (hv9 : g_InR v9) {v10 : Int} (hv10 : g_InR v10) {v11 : Int} (hv11 : g_InR v11) {v12 : Int} (hv12 : g_InR v12) {w0 : Int} (hw0 : g_InR w0) {w1 : Int} (hw1 : g_InR w1) {c2 : Nat} {c3 : Nat} (h : g_ok M → g_O M c3 4 ∧ g_Call d 80 [.ref c3, .ref c2, g_n w1, g_n w0] M (g_qV fun M2 => g_ext M M2 → g_ok M2 → g_O M2 a0 9 ∧ ∃ b6, g_r M2 a0 4 = some b6 ∧ ∃ b8, g_r M2 a0 1 = some b8 ∧ g_O M2 b6 4 ∧ g_Call d 82 [.ref b6, g_n 4, .ref b8, g_n v6, g_n v7] M2 (g_qV fun M11 => g_ext M2 M11 → g_ok M11 → g_Call d 170 [.ref a0, g_n v9] M11 (g_qV fun M14 => g_ext M11 M14 → g_ok M14 → ∃ b17, g_r M14 a0 4 = some b17 ∧ ∃ b19, g_r M14 a0 1 = some b19 ∧ ((v11 < 0 → g_O M14 b17 4 ∧ g_Call d 80 [.ref b17, .ref b19, g_n v12, g_n v12] M14 (g_qV fun M37 => g_ext M14 M37 → g_ok M37 → g_Call d 142 [.ref a0, g_n v10] M37 (g_qV fun M40 => g_ext M37 M40 → g_ok M40 → g_InR (v8 + 1) ∧ g_Run d 169 85 [(0, .ref a0), (1, g_n v1), (2, g_n v2), (3, g_n v3), (4, g_n v4), (5, g_n v5), (6, g_n v6), (7, g_n v7), (8, g_n (v8 + 1))] [] M40 (g_qI Q)))) ∧ (¬ v11 < 0 → ∃ b21, g_r M14 a0 1 = some b21 ∧ g_Call d 111 [.ref b21, g_n v11] M14 (g_qI fun r26 M23 => g_ext M14 M23 → g_ok M23 → g_InR r26 → g_O M23 b17 4 ∧ g_Call d 80 [.ref b17, .ref b19, g_n r26, g_n v12] M23 (g_qV fun M29 => g_ext M23 M29 → g_ok M29 → g_Call d 142 [.ref a0, g_n v10] M29 (g_qV fun M32 => g_ext M29 M32 → g_ok M32 → g_InR (v8 + 1) ∧ g_Run d 169 85 [(0, .ref a0), (1, g_n v1), (2, g_n v2), (3, g_n v3), (4, g_n v4), (5, g_n v5), (6, g_n v6), (7, g_n v7), (8, g_n (v8 + 1))] [] M32 (g_qI Q)))))))))) : g_Run d 169 170 [(0, .ref a0), (1, g_n v1), (2, g_n v2), (3, g_n v3), (4, g_n v4), (5, g_n v5), (6, g_n v6), (7, g_n v7), (8, g_n v8), (9, g_n v9), (10, g_n v10), (11, g_n v11), (12, g_n v12)] [g_n w0, g_n w1, .ref c2, .ref c3] M (g_qI Q) := by
  refine g_Run.ok fun hok => ?_
  replace h := h hok
  obtain ⟨hO1, h⟩ := h
  refine r_invV x_169_170 (z := 80) (ns := 1) (by decide +kernel) (as := [.ref c2, g_n w1, g_n w0]) (r := []) rfl rfl rfl hO1 rfl rfl ?_
  refine r_callV h fun M2 hx3 hok4 h => ?_
  replace h := h hx3 hok4
  replace hO1 := hO1.up hx3
  refine r_aload_n x_169_173 rfl ?_
  obtain ⟨hO5, h⟩ := h
  obtain ⟨b6, hb7, h⟩ := h
  refine r_getR x_169_174 rfl (ci := 9) (k := 4) (ns := 0) (by decide +kernel) (by decide) rfl (kz := 4) rfl hO5 hb7 ?_
  refine r_iconst x_169_177 ?_
  refine r_aload_n x_169_178 rfl ?_
  obtain ⟨b8, hb9, h⟩ := h
  refine r_getR x_169_179 rfl (ci := 9) (k := 1) (ns := 0) (by decide +kernel) (by decide) rfl (kz := 1) rfl hO5 hb9 ?_
  refine r_iload x_169_182 rfl ?_
  refine r_iload x_169_184 rfl ?_
  obtain ⟨hO10, h⟩ := h
  refine r_invV x_169_186 (z := 82) (ns := 1) (by decide +kernel) (as := [g_n 4, .ref b8, g_n v6, g_n v7]) (r := []) rfl rfl rfl hO10 rfl rfl ?_
  refine r_callV h fun M11 hx12 hok13 h => ?_
  replace h := h hx12 hok13
  replace hO1 := hO1.up hx12
  replace hO5 := hO5.up hx12
  replace hO10 := hO10.up hx12
  refine r_aload_n x_169_189 rfl ?_
  refine r_iload x_169_190 rfl ?_
  refine r_invV x_169_192 (z := 170) (ns := 0) (by decide +kernel) (as := [g_n v9]) (r := []) rfl rfl rfl hO5 rfl rfl ?_
  refine r_callV h fun M14 hx15 hok16 h => ?_
  replace h := h hx15 hok16
  replace hO1 := hO1.up hx15
  replace hO5 := hO5.up hx15
  replace hO10 := hO10.up hx15
  refine r_aload_n x_169_195 rfl ?_
  obtain ⟨b17, hb18, h⟩ := h
  refine r_getR x_169_196 rfl (ci := 9) (k := 4) (ns := 0) (by decide +kernel) (by decide) rfl (kz := 4) rfl hO5 hb18 ?_
  refine r_aload_n x_169_199 rfl ?_
  obtain ⟨b19, hb20, h⟩ := h
  refine r_getR x_169_200 rfl (ci := 9) (k := 1) (ns := 0) (by decide +kernel) (by decide) rfl (kz := 1) rfl hO5 hb20 ?_
  refine r_iload x_169_203 rfl ?_
  refine r_if_ge x_169_205 (t := 213) (by decide +kernel) hv11 (fun hc => ?_) (fun hc => ?_)
  · replace h := h.2 hc
    refine r_aload_n x_169_213 rfl ?_
    obtain ⟨b21, hb22, h⟩ := h
    refine r_getR x_169_214 rfl (ci := 9) (k := 1) (ns := 0) (by decide +kernel) (by decide) rfl (kz := 1) rfl hO5 hb22 ?_
    refine r_iload x_169_217 rfl ?_
    refine r_invS x_169_219 (z := 111) (ns := 1) (by decide +kernel) (as := [.ref b21, g_n v11]) (r := [.ref b19, .ref b17]) rfl rfl rfl ?_
    refine r_callI h fun r26 M23 hx24 hok25 hr27 h => ?_
    replace h := h hx24 hok25 hr27
    replace hO1 := hO1.up hx24
    replace hO5 := hO5.up hx24
    replace hO10 := hO10.up hx24
    refine r_iload x_169_222 rfl ?_
    obtain ⟨hO28, h⟩ := h
    refine r_invV x_169_224 (z := 80) (ns := 1) (by decide +kernel) (as := [.ref b19, g_n r26, g_n v12]) (r := []) rfl rfl rfl hO28 rfl rfl ?_
    refine r_callV h fun M29 hx30 hok31 h => ?_
    replace h := h hx30 hok31
    replace hO1 := hO1.up hx30
    replace hO5 := hO5.up hx30
    replace hO10 := hO10.up hx30
    replace hO28 := hO28.up hx30
    refine r_aload_n x_169_227 rfl ?_
    refine r_iload x_169_228 rfl ?_
    refine r_invV x_169_230 (z := 142) (ns := 0) (by decide +kernel) (as := [g_n v10]) (r := []) rfl rfl rfl hO5 rfl rfl ?_
    refine r_callV h fun M32 hx33 hok34 h => ?_
    replace h := h hx33 hok34
    replace hO1 := hO1.up hx33
    replace hO5 := hO5.up hx33
    replace hO10 := hO10.up hx33
    replace hO28 := hO28.up hx33
    obtain ⟨h35, h⟩ := h
    refine r_iinc x_169_233 (by decide +kernel) rfl rfl (lv1 := [(0, .ref a0), (1, g_n v1), (2, g_n v2), (3, g_n v3), (4, g_n v4), (5, g_n v5), (6, g_n v6), (7, g_n v7), (8, g_n (v8 + 1)), (9, g_n v9), (10, g_n v10), (11, g_n v11), (12, g_n v12)]) rfl ?_
    refine r_goto x_169_236 (t := 85) (by decide +kernel) ?_
    refine g_drop [0, 1, 2, 3, 4, 5, 6, 7, 8] (lv1 := [(0, .ref a0), (1, g_n v1), (2, g_n v2), (3, g_n v3), (4, g_n v4), (5, g_n v5), (6, g_n v6), (7, g_n v7), (8, g_n (v8 + 1))]) rfl ?_
    exact h
  · replace h := h.1 hc
    refine r_iload x_169_208 rfl ?_
    refine r_goto x_169_210 (t := 222) (by decide +kernel) ?_
    refine r_iload x_169_222 rfl ?_
    obtain ⟨hO36, h⟩ := h
    refine r_invV x_169_224 (z := 80) (ns := 1) (by decide +kernel) (as := [.ref b19, g_n v12, g_n v12]) (r := []) rfl rfl rfl hO36 rfl rfl ?_
    refine r_callV h fun M37 hx38 hok39 h => ?_
    replace h := h hx38 hok39
    replace hO1 := hO1.up hx38
    replace hO5 := hO5.up hx38
    replace hO10 := hO10.up hx38
    replace hO36 := hO36.up hx38
    refine r_aload_n x_169_227 rfl ?_
    refine r_iload x_169_228 rfl ?_
    refine r_invV x_169_230 (z := 142) (ns := 0) (by decide +kernel) (as := [g_n v10]) (r := []) rfl rfl rfl hO5 rfl rfl ?_
    refine r_callV h fun M40 hx41 hok42 h => ?_
    replace h := h hx41 hok42
    replace hO1 := hO1.up hx41
    replace hO5 := hO5.up hx41
    replace hO10 := hO10.up hx41
    replace hO36 := hO36.up hx41
    obtain ⟨h43, h⟩ := h
    refine r_iinc x_169_233 (by decide +kernel) rfl rfl (lv1 := [(0, .ref a0), (1, g_n v1), (2, g_n v2), (3, g_n v3), (4, g_n v4), (5, g_n v5), (6, g_n v6), (7, g_n v7), (8, g_n (v8 + 1)), (9, g_n v9), (10, g_n v10), (11, g_n v11), (12, g_n v12)]) rfl ?_
    refine r_goto x_169_236 (t := 85) (by decide +kernel) ?_
    refine g_drop [0, 1, 2, 3, 4, 5, 6, 7, 8] (lv1 := [(0, .ref a0), (1, g_n v1), (2, g_n v2), (3, g_n v3), (4, g_n v4), (5, g_n v5), (6, g_n v6), (7, g_n v7), (8, g_n (v8 + 1))]) rfl ?_
    exact h
theorem m_X9_writeFound {d : Nat} {M : g_M} {Q : g_M → Prop} {a0 : Nat} {v1 : Int} (hv1 : g_InR v1) (h : g_ok M → g_O M a0 9 ∧ ∃ b2, g_r M a0 0 = some b2 ∧ g_O M b2 7 ∧ ∃ b5, g_r M a0 2 = some b5 ∧ ∃ b7, g_r M a0 0 = some b7 ∧ g_O M b5 5 ∧ g_Call d 94 [.ref b5, .ref b7, g_n v1, g_n 0, g_n 0] M (g_qV fun M10 => g_ext M M10 → g_ok M10 → ∃ b13, g_r M10 a0 0 = some b13 ∧ g_O M10 b13 7 ∧ g_Call d 107 [.ref b13, g_n (g_i M b2 2), g_n 0] M10 (g_qV fun M16 => g_ext M10 M16 → g_ok M16 → ∃ b19, g_r M16 a0 0 = some b19 ∧ g_O M16 b19 7 ∧ ∃ b22, g_r M16 a0 4 = some b22 ∧ g_O M16 b22 4 ∧ g_Call d 85 [.ref b22] M16 (g_qI fun r28 M25 => g_ext M16 M25 → g_ok M25 → g_InR r28 → g_Run d 170 54 [(0, .ref a0), (1, g_n v1), (2, g_n (g_i M b2 2)), (3, g_n (g_i M16 b19 2)), (4, g_n r28), (5, g_n 0), (6, g_n 0)] [] M25 (g_qV Q))))) : g_Call (d + 1) 170 [.ref a0, g_n v1] M (g_qV Q) := by
  refine g_Call.ok fun hok0 => ?_
  replace h := h hok0
  refine r_body rfl (lv := [(0, .ref a0), (1, g_n v1)]) rfl ?_
  refine g_Run.ok fun hok => ?_
  refine r_aload_n x_170_0 rfl ?_
  obtain ⟨hO1, h⟩ := h
  obtain ⟨b2, hb3, h⟩ := h
  refine r_getR x_170_1 rfl (ci := 9) (k := 0) (ns := 0) (by decide +kernel) (by decide) rfl (kz := 0) rfl hO1 hb3 ?_
  obtain ⟨hO4, h⟩ := h
  refine r_getI x_170_4 rfl (ci := 7) (k := 2) (ns := 1) (by decide +kernel) (by decide) rfl (kz := 2) rfl hO4 ?_
  refine r_istore_n x_170_7 (by decide +kernel) rfl (lv1 := [(0, .ref a0), (1, g_n v1), (2, g_n (g_i M b2 2))]) rfl ?_
  refine r_aload_n x_170_8 rfl ?_
  obtain ⟨b5, hb6, h⟩ := h
  refine r_getR x_170_9 rfl (ci := 9) (k := 2) (ns := 0) (by decide +kernel) (by decide) rfl (kz := 2) rfl hO1 hb6 ?_
  refine r_aload_n x_170_12 rfl ?_
  obtain ⟨b7, hb8, h⟩ := h
  refine r_getR x_170_13 rfl (ci := 9) (k := 0) (ns := 0) (by decide +kernel) (by decide) rfl (kz := 0) rfl hO1 hb8 ?_
  refine r_iload_n x_170_16 rfl ?_
  refine r_iconst x_170_17 ?_
  refine r_iconst x_170_18 ?_
  obtain ⟨hO9, h⟩ := h
  refine r_invV x_170_19 (z := 94) (ns := 1) (by decide +kernel) (as := [.ref b7, g_n v1, g_n 0, g_n 0]) (r := []) rfl rfl rfl hO9 rfl rfl ?_
  refine r_callV h fun M10 hx11 hok12 h => ?_
  replace h := h hx11 hok12
  replace hO1 := hO1.up hx11
  replace hO4 := hO4.up hx11
  replace hO9 := hO9.up hx11
  refine r_aload_n x_170_22 rfl ?_
  obtain ⟨b13, hb14, h⟩ := h
  refine r_getR x_170_23 rfl (ci := 9) (k := 0) (ns := 0) (by decide +kernel) (by decide) rfl (kz := 0) rfl hO1 hb14 ?_
  refine r_iload_n x_170_26 rfl ?_
  refine r_iconst x_170_27 ?_
  obtain ⟨hO15, h⟩ := h
  refine r_invV x_170_28 (z := 107) (ns := 1) (by decide +kernel) (as := [g_n (g_i M b2 2), g_n 0]) (r := []) rfl rfl rfl hO15 rfl rfl ?_
  refine r_callV h fun M16 hx17 hok18 h => ?_
  replace h := h hx17 hok18
  replace hO1 := hO1.up hx17
  replace hO4 := hO4.up hx17
  replace hO9 := hO9.up hx17
  replace hO15 := hO15.up hx17
  refine r_aload_n x_170_31 rfl ?_
  obtain ⟨b19, hb20, h⟩ := h
  refine r_getR x_170_32 rfl (ci := 9) (k := 0) (ns := 0) (by decide +kernel) (by decide) rfl (kz := 0) rfl hO1 hb20 ?_
  obtain ⟨hO21, h⟩ := h
  refine r_getI x_170_35 rfl (ci := 7) (k := 2) (ns := 1) (by decide +kernel) (by decide) rfl (kz := 2) rfl hO21 ?_
  refine r_istore_n x_170_38 (by decide +kernel) rfl (lv1 := [(0, .ref a0), (1, g_n v1), (2, g_n (g_i M b2 2)), (3, g_n (g_i M16 b19 2))]) rfl ?_
  refine r_aload_n x_170_39 rfl ?_
  obtain ⟨b22, hb23, h⟩ := h
  refine r_getR x_170_40 rfl (ci := 9) (k := 4) (ns := 0) (by decide +kernel) (by decide) rfl (kz := 4) rfl hO1 hb23 ?_
  obtain ⟨hO24, h⟩ := h
  refine r_invV x_170_43 (z := 85) (ns := 1) (by decide +kernel) (as := []) (r := []) rfl rfl rfl hO24 rfl rfl ?_
  refine r_callI h fun r28 M25 hx26 hok27 hr29 h => ?_
  replace h := h hx26 hok27 hr29
  replace hO1 := hO1.up hx26
  replace hO4 := hO4.up hx26
  replace hO9 := hO9.up hx26
  replace hO15 := hO15.up hx26
  replace hO21 := hO21.up hx26
  replace hO24 := hO24.up hx26
  refine r_istore x_170_46 (by decide +kernel) rfl (lv1 := [(0, .ref a0), (1, g_n v1), (2, g_n (g_i M b2 2)), (3, g_n (g_i M16 b19 2)), (4, g_n r28)]) rfl ?_
  refine r_iconst x_170_48 ?_
  refine r_istore x_170_49 (by decide +kernel) rfl (lv1 := [(0, .ref a0), (1, g_n v1), (2, g_n (g_i M b2 2)), (3, g_n (g_i M16 b19 2)), (4, g_n r28), (5, g_n 0)]) rfl ?_
  refine r_iconst x_170_51 ?_
  refine r_istore x_170_52 (by decide +kernel) rfl (lv1 := [(0, .ref a0), (1, g_n v1), (2, g_n (g_i M b2 2)), (3, g_n (g_i M16 b19 2)), (4, g_n r28), (5, g_n 0), (6, g_n 0)]) rfl ?_
  exact h
theorem s_X9_writeFound_54 {d : Nat} {M : g_M} {Q : g_M → Prop} {a0 : Nat} {v1 : Int} (hv1 : g_InR v1) {v2 : Int} (hv2 : g_InR v2) {v3 : Int} (hv3 : g_InR v3) {v4 : Int} (hv4 : g_InR v4) {v5 : Int} (hv5 : g_InR v5) {v6 : Int} (hv6 : g_InR v6) (h : g_ok M → g_O M a0 9 ∧ ∃ b2, g_r M a0 13 = some b2 ∧ g_O M b2 8 ∧ ((v6 < g_i M b2 6 → ∃ b18, g_r M a0 13 = some b18 ∧ g_O M b18 8 ∧ ∃ b21, g_r M b18 2 = some b21 ∧ ∃ n23, g_A M b21 1 n23 ∧ g_InR n23 ∧ ((v6 < n23 → ∃ b39, g_r M a0 3 = some b39 ∧ ∃ b41, g_r M a0 0 = some b41 ∧ ∃ b43, g_r M a0 13 = some b43 ∧ g_O M b43 8 ∧ ∃ b46, g_r M b43 2 = some b46 ∧ ∃ n48, g_A M b46 1 n48 ∧ ((0 : Int) ≤ v6 ∧ (v6 : Int) < n48) ∧ g_O M b39 5 ∧ g_Call d 94 [.ref b39, .ref b41, g_n (g_i M b46 v6), g_n 0, g_n 0] M (g_qV fun M52 => g_ext M M52 → g_ok M52 → ∃ b55, g_r M52 a0 0 = some b55 ∧ g_O M52 b55 7 ∧ g_Call d 107 [.ref b55, g_n v3, g_n 0] M52 (g_qV fun M58 => g_ext M52 M58 → g_ok M58 → g_Call d 171 [.ref a0, g_n v2, g_n v3] M58 (g_qI fun r64 M61 => g_ext M58 M61 → g_ok M61 → g_InR r64 → ((r64 = 0 → ∃ b66, g_r M61 a0 0 = some b66 ∧ g_O M61 b66 7 ∧ (∀ M69, M69 = g_wi M61 b66 2 v3 → g_ok M69 → g_InR (v6 + 1) ∧ g_Run d 170 54 [(0, .ref a0), (1, g_n v1), (2, g_n v2), (3, g_n v3), (4, g_n v4), (5, g_n v5), (6, g_n (v6 + 1))] [] M69 (g_qV Q))) ∧ (¬ r64 = 0 → ∃ b74, g_r M61 a0 4 = some b74 ∧ g_O M61 b74 4 ∧ g_Call d 83 [.ref b74, g_n 3, g_n v5] M61 (g_qV fun M77 => g_ext M61 M77 → g_ok M77 → ∃ b80, g_r M77 a0 4 = some b80 ∧ ∃ b82, g_r M77 a0 1 = some b82 ∧ ∃ b84, g_r M77 a0 13 = some b84 ∧ g_O M77 b84 8 ∧ ∃ b87, g_r M77 b84 2 = some b87 ∧ ∃ n89, g_A M77 b87 1 n89 ∧ ((0 : Int) ≤ v6 ∧ (v6 : Int) < n89) ∧ g_O M77 b80 4 ∧ g_Call d 84 [.ref b80, .ref b82, g_n (g_i M77 b87 v6)] M77 (g_qV fun M93 => g_ext M77 M93 → g_ok M93 → g_InR (v5 + 1) ∧ ∃ b97, g_r M93 a0 0 = some b97 ∧ g_O M93 b97 7 ∧ (∀ M100, M100 = g_wi M93 b97 2 v3 → g_ok M100 → g_InR (v6 + 1) ∧ g_Run d 170 54 [(0, .ref a0), (1, g_n v1), (2, g_n v2), (3, g_n v3), (4, g_n v4), (5, g_n (v5 + 1)), (6, g_n (v6 + 1))] [] M100 (g_qV Q)))))))))) ∧ (¬ v6 < n23 → ∃ b26, g_r M a0 4 = some b26 ∧ g_O M b26 4 ∧ g_Call d 86 [.ref b26, g_n v4] M (g_qV fun M29 => g_ext M M29 → g_ok M29 → ∃ b32, g_r M29 a0 0 = some b32 ∧ g_O M29 b32 7 ∧ (∀ M35, M35 = g_wi M29 b32 2 v2 → g_ok M35 → Q M35))))) ∧ (¬ v6 < g_i M b2 6 → ∃ b5, g_r M a0 4 = some b5 ∧ g_O M b5 4 ∧ g_Call d 86 [.ref b5, g_n v4] M (g_qV fun M8 => g_ext M M8 → g_ok M8 → ∃ b11, g_r M8 a0 0 = some b11 ∧ g_O M8 b11 7 ∧ (∀ M14, M14 = g_wi M8 b11 2 v2 → g_ok M14 → Q M14))))) : g_Run d 170 54 [(0, .ref a0), (1, g_n v1), (2, g_n v2), (3, g_n v3), (4, g_n v4), (5, g_n v5), (6, g_n v6)] [] M (g_qV Q) := by
  refine g_Run.ok fun hok => ?_
  replace h := h hok
  refine r_iload x_170_54 rfl ?_
  refine r_aload_n x_170_56 rfl ?_
  obtain ⟨hO1, h⟩ := h
  obtain ⟨b2, hb3, h⟩ := h
  refine r_getR x_170_57 rfl (ci := 9) (k := 13) (ns := 0) (by decide +kernel) (by decide) rfl (kz := 13) rfl hO1 hb3 ?_
  obtain ⟨hO4, h⟩ := h
  refine r_getI x_170_60 rfl (ci := 8) (k := 6) (ns := 1) (by decide +kernel) (by decide) rfl (kz := 6) rfl hO4 ?_
  refine r_ic_ge x_170_63 (t := 168) (by decide +kernel) hv6 (hok.1 _ _) (fun hc => ?_) (fun hc => ?_)
  · replace h := h.2 hc
    refine r_aload_n x_170_168 rfl ?_
    obtain ⟨b5, hb6, h⟩ := h
    refine r_getR x_170_169 rfl (ci := 9) (k := 4) (ns := 0) (by decide +kernel) (by decide) rfl (kz := 4) rfl hO1 hb6 ?_
    refine r_iload x_170_172 rfl ?_
    obtain ⟨hO7, h⟩ := h
    refine r_invV x_170_174 (z := 86) (ns := 1) (by decide +kernel) (as := [g_n v4]) (r := []) rfl rfl rfl hO7 rfl rfl ?_
    refine r_callV h fun M8 hx9 hok10 h => ?_
    replace h := h hx9 hok10
    replace hO1 := hO1.up hx9
    replace hO4 := hO4.up hx9
    replace hO7 := hO7.up hx9
    refine r_aload_n x_170_177 rfl ?_
    obtain ⟨b11, hb12, h⟩ := h
    refine r_getR x_170_178 rfl (ci := 9) (k := 0) (ns := 0) (by decide +kernel) (by decide) rfl (kz := 0) rfl hO1 hb12 ?_
    refine r_iload_n x_170_181 rfl ?_
    obtain ⟨hO13, h⟩ := h
    refine r_putI x_170_182 (ci := 7) (k := 2) (ns := 1) (by decide +kernel) (by decide) (g_f0 (by decide +kernel)) rfl hv2 trivial (kz := 2) rfl hO13 ?_
    obtain ⟨M14, hM15⟩ : ∃ Mz, Mz = g_wi M8 b11 2 v2 := ⟨_, rfl⟩
    rw [← hM15]
    refine g_Run.ok fun hok16 => ?_
    replace h := h M14 hM15 hok16
    have hx17 := g_extW hM15
    replace hO1 := hO1.up hx17
    replace hO4 := hO4.up hx17
    replace hO7 := hO7.up hx17
    replace hO13 := hO13.up hx17
    exact r_retV x_170_185 rfl h
  · replace h := h.1 hc
    refine r_iload x_170_66 rfl ?_
    refine r_aload_n x_170_68 rfl ?_
    obtain ⟨b18, hb19, h⟩ := h
    refine r_getR x_170_69 rfl (ci := 9) (k := 13) (ns := 0) (by decide +kernel) (by decide) rfl (kz := 13) rfl hO1 hb19 ?_
    obtain ⟨hO20, h⟩ := h
    obtain ⟨b21, hb22, h⟩ := h
    refine r_getR x_170_72 rfl (ci := 8) (k := 2) (ns := 1) (by decide +kernel) (by decide) rfl (kz := 2) rfl hO20 hb22 ?_
    obtain ⟨n23, hA24, h⟩ := h
    refine r_alen x_170_75 hA24 ?_
    obtain ⟨h25, h⟩ := h
    refine r_ic_ge x_170_76 (t := 168) (by decide +kernel) hv6 h25 (fun hc => ?_) (fun hc => ?_)
    · replace h := h.2 hc
      refine r_aload_n x_170_168 rfl ?_
      obtain ⟨b26, hb27, h⟩ := h
      refine r_getR x_170_169 rfl (ci := 9) (k := 4) (ns := 0) (by decide +kernel) (by decide) rfl (kz := 4) rfl hO1 hb27 ?_
      refine r_iload x_170_172 rfl ?_
      obtain ⟨hO28, h⟩ := h
      refine r_invV x_170_174 (z := 86) (ns := 1) (by decide +kernel) (as := [g_n v4]) (r := []) rfl rfl rfl hO28 rfl rfl ?_
      refine r_callV h fun M29 hx30 hok31 h => ?_
      replace h := h hx30 hok31
      replace hO1 := hO1.up hx30
      replace hO4 := hO4.up hx30
      replace hO20 := hO20.up hx30
      replace hO28 := hO28.up hx30
      replace hA24 := hA24.up hx30
      refine r_aload_n x_170_177 rfl ?_
      obtain ⟨b32, hb33, h⟩ := h
      refine r_getR x_170_178 rfl (ci := 9) (k := 0) (ns := 0) (by decide +kernel) (by decide) rfl (kz := 0) rfl hO1 hb33 ?_
      refine r_iload_n x_170_181 rfl ?_
      obtain ⟨hO34, h⟩ := h
      refine r_putI x_170_182 (ci := 7) (k := 2) (ns := 1) (by decide +kernel) (by decide) (g_f0 (by decide +kernel)) rfl hv2 trivial (kz := 2) rfl hO34 ?_
      obtain ⟨M35, hM36⟩ : ∃ Mz, Mz = g_wi M29 b32 2 v2 := ⟨_, rfl⟩
      rw [← hM36]
      refine g_Run.ok fun hok37 => ?_
      replace h := h M35 hM36 hok37
      have hx38 := g_extW hM36
      replace hO1 := hO1.up hx38
      replace hO4 := hO4.up hx38
      replace hO20 := hO20.up hx38
      replace hO28 := hO28.up hx38
      replace hO34 := hO34.up hx38
      replace hA24 := hA24.up hx38
      exact r_retV x_170_185 rfl h
    · replace h := h.1 hc
      refine r_aload_n x_170_79 rfl ?_
      obtain ⟨b39, hb40, h⟩ := h
      refine r_getR x_170_80 rfl (ci := 9) (k := 3) (ns := 0) (by decide +kernel) (by decide) rfl (kz := 3) rfl hO1 hb40 ?_
      refine r_aload_n x_170_83 rfl ?_
      obtain ⟨b41, hb42, h⟩ := h
      refine r_getR x_170_84 rfl (ci := 9) (k := 0) (ns := 0) (by decide +kernel) (by decide) rfl (kz := 0) rfl hO1 hb42 ?_
      refine r_aload_n x_170_87 rfl ?_
      obtain ⟨b43, hb44, h⟩ := h
      refine r_getR x_170_88 rfl (ci := 9) (k := 13) (ns := 0) (by decide +kernel) (by decide) rfl (kz := 13) rfl hO1 hb44 ?_
      obtain ⟨hO45, h⟩ := h
      obtain ⟨b46, hb47, h⟩ := h
      refine r_getR x_170_91 rfl (ci := 8) (k := 2) (ns := 1) (by decide +kernel) (by decide) rfl (kz := 2) rfl hO45 hb47 ?_
      refine r_iload x_170_94 rfl ?_
      obtain ⟨n48, hA49, h⟩ := h
      obtain ⟨h50, h⟩ := h
      refine r_iald x_170_96 hA49 hv6 h50.1 h50.2 ?_
      refine r_iconst x_170_97 ?_
      refine r_iconst x_170_98 ?_
      obtain ⟨hO51, h⟩ := h
      refine r_invV x_170_99 (z := 94) (ns := 1) (by decide +kernel) (as := [.ref b41, g_n (g_i M b46 v6), g_n 0, g_n 0]) (r := []) rfl rfl rfl hO51 rfl rfl ?_
      refine r_callV h fun M52 hx53 hok54 h => ?_
      replace h := h hx53 hok54
      replace hO1 := hO1.up hx53
      replace hO4 := hO4.up hx53
      replace hO20 := hO20.up hx53
      replace hO45 := hO45.up hx53
      replace hO51 := hO51.up hx53
      replace hA24 := hA24.up hx53
      replace hA49 := hA49.up hx53
      refine r_aload_n x_170_102 rfl ?_
      obtain ⟨b55, hb56, h⟩ := h
      refine r_getR x_170_103 rfl (ci := 9) (k := 0) (ns := 0) (by decide +kernel) (by decide) rfl (kz := 0) rfl hO1 hb56 ?_
      refine r_iload_n x_170_106 rfl ?_
      refine r_iconst x_170_107 ?_
      obtain ⟨hO57, h⟩ := h
      refine r_invV x_170_108 (z := 107) (ns := 1) (by decide +kernel) (as := [g_n v3, g_n 0]) (r := []) rfl rfl rfl hO57 rfl rfl ?_
      refine r_callV h fun M58 hx59 hok60 h => ?_
      replace h := h hx59 hok60
      replace hO1 := hO1.up hx59
      replace hO4 := hO4.up hx59
      replace hO20 := hO20.up hx59
      replace hO45 := hO45.up hx59
      replace hO51 := hO51.up hx59
      replace hO57 := hO57.up hx59
      replace hA24 := hA24.up hx59
      replace hA49 := hA49.up hx59
      refine r_aload_n x_170_111 rfl ?_
      refine r_iload_n x_170_112 rfl ?_
      refine r_iload_n x_170_113 rfl ?_
      refine r_invV x_170_114 (z := 171) (ns := 0) (by decide +kernel) (as := [g_n v2, g_n v3]) (r := []) rfl rfl rfl hO1 rfl rfl ?_
      refine r_callI h fun r64 M61 hx62 hok63 hr65 h => ?_
      replace h := h hx62 hok63 hr65
      replace hO1 := hO1.up hx62
      replace hO4 := hO4.up hx62
      replace hO20 := hO20.up hx62
      replace hO45 := hO45.up hx62
      replace hO51 := hO51.up hx62
      replace hO57 := hO57.up hx62
      replace hA24 := hA24.up hx62
      replace hA49 := hA49.up hx62
      refine r_if_eq x_170_117 (t := 154) (by decide +kernel) hr65 (fun hc => ?_) (fun hc => ?_)
      · replace h := h.1 hc
        refine r_aload_n x_170_154 rfl ?_
        obtain ⟨b66, hb67, h⟩ := h
        refine r_getR x_170_155 rfl (ci := 9) (k := 0) (ns := 0) (by decide +kernel) (by decide) rfl (kz := 0) rfl hO1 hb67 ?_
        refine r_iload_n x_170_158 rfl ?_
        obtain ⟨hO68, h⟩ := h
        refine r_putI x_170_159 (ci := 7) (k := 2) (ns := 1) (by decide +kernel) (by decide) (g_f0 (by decide +kernel)) rfl hv3 trivial (kz := 2) rfl hO68 ?_
        obtain ⟨M69, hM70⟩ : ∃ Mz, Mz = g_wi M61 b66 2 v3 := ⟨_, rfl⟩
        rw [← hM70]
        refine g_Run.ok fun hok71 => ?_
        replace h := h M69 hM70 hok71
        have hx72 := g_extW hM70
        replace hO1 := hO1.up hx72
        replace hO4 := hO4.up hx72
        replace hO20 := hO20.up hx72
        replace hO45 := hO45.up hx72
        replace hO51 := hO51.up hx72
        replace hO57 := hO57.up hx72
        replace hO68 := hO68.up hx72
        replace hA24 := hA24.up hx72
        replace hA49 := hA49.up hx72
        obtain ⟨h73, h⟩ := h
        refine r_iinc x_170_162 (by decide +kernel) rfl rfl (lv1 := [(0, .ref a0), (1, g_n v1), (2, g_n v2), (3, g_n v3), (4, g_n v4), (5, g_n v5), (6, g_n (v6 + 1))]) rfl ?_
        refine r_goto x_170_165 (t := 54) (by decide +kernel) ?_
        exact h
      · replace h := h.2 hc
        refine r_aload_n x_170_120 rfl ?_
        obtain ⟨b74, hb75, h⟩ := h
        refine r_getR x_170_121 rfl (ci := 9) (k := 4) (ns := 0) (by decide +kernel) (by decide) rfl (kz := 4) rfl hO1 hb75 ?_
        refine r_iconst x_170_124 ?_
        refine r_iload x_170_125 rfl ?_
        obtain ⟨hO76, h⟩ := h
        refine r_invV x_170_127 (z := 83) (ns := 1) (by decide +kernel) (as := [g_n 3, g_n v5]) (r := []) rfl rfl rfl hO76 rfl rfl ?_
        refine r_callV h fun M77 hx78 hok79 h => ?_
        replace h := h hx78 hok79
        replace hO1 := hO1.up hx78
        replace hO4 := hO4.up hx78
        replace hO20 := hO20.up hx78
        replace hO45 := hO45.up hx78
        replace hO51 := hO51.up hx78
        replace hO57 := hO57.up hx78
        replace hO76 := hO76.up hx78
        replace hA24 := hA24.up hx78
        replace hA49 := hA49.up hx78
        refine r_aload_n x_170_130 rfl ?_
        obtain ⟨b80, hb81, h⟩ := h
        refine r_getR x_170_131 rfl (ci := 9) (k := 4) (ns := 0) (by decide +kernel) (by decide) rfl (kz := 4) rfl hO1 hb81 ?_
        refine r_aload_n x_170_134 rfl ?_
        obtain ⟨b82, hb83, h⟩ := h
        refine r_getR x_170_135 rfl (ci := 9) (k := 1) (ns := 0) (by decide +kernel) (by decide) rfl (kz := 1) rfl hO1 hb83 ?_
        refine r_aload_n x_170_138 rfl ?_
        obtain ⟨b84, hb85, h⟩ := h
        refine r_getR x_170_139 rfl (ci := 9) (k := 13) (ns := 0) (by decide +kernel) (by decide) rfl (kz := 13) rfl hO1 hb85 ?_
        obtain ⟨hO86, h⟩ := h
        obtain ⟨b87, hb88, h⟩ := h
        refine r_getR x_170_142 rfl (ci := 8) (k := 2) (ns := 1) (by decide +kernel) (by decide) rfl (kz := 2) rfl hO86 hb88 ?_
        refine r_iload x_170_145 rfl ?_
        obtain ⟨n89, hA90, h⟩ := h
        obtain ⟨h91, h⟩ := h
        refine r_iald x_170_147 hA90 hv6 h91.1 h91.2 ?_
        obtain ⟨hO92, h⟩ := h
        refine r_invV x_170_148 (z := 84) (ns := 1) (by decide +kernel) (as := [.ref b82, g_n (g_i M77 b87 v6)]) (r := []) rfl rfl rfl hO92 rfl rfl ?_
        refine r_callV h fun M93 hx94 hok95 h => ?_
        replace h := h hx94 hok95
        replace hO1 := hO1.up hx94
        replace hO4 := hO4.up hx94
        replace hO20 := hO20.up hx94
        replace hO45 := hO45.up hx94
        replace hO51 := hO51.up hx94
        replace hO57 := hO57.up hx94
        replace hO76 := hO76.up hx94
        replace hO86 := hO86.up hx94
        replace hO92 := hO92.up hx94
        replace hA24 := hA24.up hx94
        replace hA49 := hA49.up hx94
        replace hA90 := hA90.up hx94
        obtain ⟨h96, h⟩ := h
        refine r_iinc x_170_151 (by decide +kernel) rfl rfl (lv1 := [(0, .ref a0), (1, g_n v1), (2, g_n v2), (3, g_n v3), (4, g_n v4), (5, g_n (v5 + 1)), (6, g_n v6)]) rfl ?_
        refine r_aload_n x_170_154 rfl ?_
        obtain ⟨b97, hb98, h⟩ := h
        refine r_getR x_170_155 rfl (ci := 9) (k := 0) (ns := 0) (by decide +kernel) (by decide) rfl (kz := 0) rfl hO1 hb98 ?_
        refine r_iload_n x_170_158 rfl ?_
        obtain ⟨hO99, h⟩ := h
        refine r_putI x_170_159 (ci := 7) (k := 2) (ns := 1) (by decide +kernel) (by decide) (g_f0 (by decide +kernel)) rfl hv3 trivial (kz := 2) rfl hO99 ?_
        obtain ⟨M100, hM101⟩ : ∃ Mz, Mz = g_wi M93 b97 2 v3 := ⟨_, rfl⟩
        rw [← hM101]
        refine g_Run.ok fun hok102 => ?_
        replace h := h M100 hM101 hok102
        have hx103 := g_extW hM101
        replace hO1 := hO1.up hx103
        replace hO4 := hO4.up hx103
        replace hO20 := hO20.up hx103
        replace hO45 := hO45.up hx103
        replace hO51 := hO51.up hx103
        replace hO57 := hO57.up hx103
        replace hO76 := hO76.up hx103
        replace hO86 := hO86.up hx103
        replace hO92 := hO92.up hx103
        replace hO99 := hO99.up hx103
        replace hA24 := hA24.up hx103
        replace hA49 := hA49.up hx103
        replace hA90 := hA90.up hx103
        obtain ⟨h104, h⟩ := h
        refine r_iinc x_170_162 (by decide +kernel) rfl rfl (lv1 := [(0, .ref a0), (1, g_n v1), (2, g_n v2), (3, g_n v3), (4, g_n v4), (5, g_n (v5 + 1)), (6, g_n (v6 + 1))]) rfl ?_
        refine r_goto x_170_165 (t := 54) (by decide +kernel) ?_
        exact h
theorem m_X9_someSame {d : Nat} {M : g_M} {Q : Int → g_M → Prop} {a0 : Nat} {v1 : Int} (hv1 : g_InR v1) {v2 : Int} (hv2 : g_InR v2) (h : g_ok M → g_Run d 171 2 [(0, .ref a0), (1, g_n v1), (2, g_n v2), (3, g_n v1)] [] M (g_qI Q)) : g_Call (d + 1) 171 [.ref a0, g_n v1, g_n v2] M (g_qI Q) := by
  refine g_Call.ok fun hok0 => ?_
  replace h := h hok0
  refine r_body rfl (lv := [(0, .ref a0), (1, g_n v1), (2, g_n v2)]) rfl ?_
  refine g_Run.ok fun hok => ?_
  refine r_iload_n x_171_0 rfl ?_
  refine r_istore_n x_171_1 (by decide +kernel) rfl (lv1 := [(0, .ref a0), (1, g_n v1), (2, g_n v2), (3, g_n v1)]) rfl ?_
  exact h
theorem s_X9_someSame_2 {d : Nat} {M : g_M} {Q : Int → g_M → Prop} {a0 : Nat} {v1 : Int} (hv1 : g_InR v1) {v2 : Int} (hv2 : g_InR v2) {v3 : Int} (hv3 : g_InR v3) (h : g_ok M → ((v3 < v2 → g_Run d 171 10 [(0, .ref a0), (1, g_n v1), (2, g_n v2), (3, g_n v3), (4, g_n v2)] [] M (g_qI Q)) ∧ (¬ v3 < v2 → Q 0 M))) : g_Run d 171 2 [(0, .ref a0), (1, g_n v1), (2, g_n v2), (3, g_n v3)] [] M (g_qI Q) := by
  refine g_Run.ok fun hok => ?_
  replace h := h hok
  refine r_iload_n x_171_2 rfl ?_
  refine r_iload_n x_171_3 rfl ?_
  refine r_ic_ge x_171_4 (t := 68) (by decide +kernel) hv3 hv2 (fun hc => ?_) (fun hc => ?_)
  · replace h := h.2 hc
    refine r_iconst x_171_68 ?_
    exact r_retZ x_171_69 rfl (Or.inl rfl) h
  · replace h := h.1 hc
    refine r_iload_n x_171_7 rfl ?_
    refine r_istore x_171_8 (by decide +kernel) rfl (lv1 := [(0, .ref a0), (1, g_n v1), (2, g_n v2), (3, g_n v3), (4, g_n v2)]) rfl ?_
    exact h
theorem s_X9_someSame_10 {d : Nat} {M : g_M} {Q : Int → g_M → Prop} {a0 : Nat} {v1 : Int} (hv1 : g_InR v1) {v2 : Int} (hv2 : g_InR v2) {v3 : Int} (hv3 : g_InR v3) {v4 : Int} (hv4 : g_InR v4) (h : g_ok M → g_O M a0 9 ∧ ∃ b2, g_r M a0 0 = some b2 ∧ g_O M b2 7 ∧ ((v4 < g_i M b2 2 → ∃ b6, g_r M a0 1 = some b6 ∧ ∃ b8, g_r M a0 0 = some b8 ∧ g_O M b8 7 ∧ g_Call d 105 [.ref b8, g_n v3] M (g_qI fun r14 M11 => g_ext M M11 → g_ok M11 → g_InR r14 → ∃ b16, g_r M11 a0 1 = some b16 ∧ ∃ b18, g_r M11 a0 0 = some b18 ∧ g_O M11 b18 7 ∧ g_Call d 105 [.ref b18, g_n v4] M11 (g_qI fun r24 M21 => g_ext M11 M21 → g_ok M21 → g_InR r24 → g_Call d 121 [.ref b6, g_n r14, .ref b16, g_n r24, g_n 0] M21 (g_qI fun r29 M26 => g_ext M21 M26 → g_ok M26 → g_InR r29 → ((r29 = 0 → Q 1 M26) ∧ (¬ r29 = 0 → g_InR (v4 + 1) ∧ g_Run d 171 10 [(0, .ref a0), (1, g_n v1), (2, g_n v2), (3, g_n v3), (4, g_n (v4 + 1))] [] M26 (g_qI Q))))))) ∧ (¬ v4 < g_i M b2 2 → g_InR (v3 + 1) ∧ g_Run d 171 2 [(0, .ref a0), (1, g_n v1), (2, g_n v2), (3, g_n (v3 + 1))] [] M (g_qI Q)))) : g_Run d 171 10 [(0, .ref a0), (1, g_n v1), (2, g_n v2), (3, g_n v3), (4, g_n v4)] [] M (g_qI Q) := by
  refine g_Run.ok fun hok => ?_
  replace h := h hok
  refine r_iload x_171_10 rfl ?_
  refine r_aload_n x_171_12 rfl ?_
  obtain ⟨hO1, h⟩ := h
  obtain ⟨b2, hb3, h⟩ := h
  refine r_getR x_171_13 rfl (ci := 9) (k := 0) (ns := 0) (by decide +kernel) (by decide) rfl (kz := 0) rfl hO1 hb3 ?_
  obtain ⟨hO4, h⟩ := h
  refine r_getI x_171_16 rfl (ci := 7) (k := 2) (ns := 1) (by decide +kernel) (by decide) rfl (kz := 2) rfl hO4 ?_
  refine r_ic_ge x_171_19 (t := 62) (by decide +kernel) hv4 (hok.1 _ _) (fun hc => ?_) (fun hc => ?_)
  · replace h := h.2 hc
    obtain ⟨h5, h⟩ := h
    refine r_iinc x_171_62 (by decide +kernel) rfl rfl (lv1 := [(0, .ref a0), (1, g_n v1), (2, g_n v2), (3, g_n (v3 + 1)), (4, g_n v4)]) rfl ?_
    refine r_goto x_171_65 (t := 2) (by decide +kernel) ?_
    refine g_drop [0, 1, 2, 3] (lv1 := [(0, .ref a0), (1, g_n v1), (2, g_n v2), (3, g_n (v3 + 1))]) rfl ?_
    exact h
  · replace h := h.1 hc
    refine r_aload_n x_171_22 rfl ?_
    obtain ⟨b6, hb7, h⟩ := h
    refine r_getR x_171_23 rfl (ci := 9) (k := 1) (ns := 0) (by decide +kernel) (by decide) rfl (kz := 1) rfl hO1 hb7 ?_
    refine r_aload_n x_171_26 rfl ?_
    obtain ⟨b8, hb9, h⟩ := h
    refine r_getR x_171_27 rfl (ci := 9) (k := 0) (ns := 0) (by decide +kernel) (by decide) rfl (kz := 0) rfl hO1 hb9 ?_
    refine r_iload_n x_171_30 rfl ?_
    obtain ⟨hO10, h⟩ := h
    refine r_invV x_171_31 (z := 105) (ns := 1) (by decide +kernel) (as := [g_n v3]) (r := [.ref b6]) rfl rfl rfl hO10 rfl rfl ?_
    refine r_callI h fun r14 M11 hx12 hok13 hr15 h => ?_
    replace h := h hx12 hok13 hr15
    replace hO1 := hO1.up hx12
    replace hO4 := hO4.up hx12
    replace hO10 := hO10.up hx12
    refine r_aload_n x_171_34 rfl ?_
    obtain ⟨b16, hb17, h⟩ := h
    refine r_getR x_171_35 rfl (ci := 9) (k := 1) (ns := 0) (by decide +kernel) (by decide) rfl (kz := 1) rfl hO1 hb17 ?_
    refine r_aload_n x_171_38 rfl ?_
    obtain ⟨b18, hb19, h⟩ := h
    refine r_getR x_171_39 rfl (ci := 9) (k := 0) (ns := 0) (by decide +kernel) (by decide) rfl (kz := 0) rfl hO1 hb19 ?_
    refine r_iload x_171_42 rfl ?_
    obtain ⟨hO20, h⟩ := h
    refine r_invV x_171_44 (z := 105) (ns := 1) (by decide +kernel) (as := [g_n v4]) (r := [.ref b16, g_n r14, .ref b6]) rfl rfl rfl hO20 rfl rfl ?_
    refine r_callI h fun r24 M21 hx22 hok23 hr25 h => ?_
    replace h := h hx22 hok23 hr25
    replace hO1 := hO1.up hx22
    replace hO4 := hO4.up hx22
    replace hO10 := hO10.up hx22
    replace hO20 := hO20.up hx22
    refine r_iconst x_171_47 ?_
    refine r_invS x_171_48 (z := 121) (ns := 1) (by decide +kernel) (as := [.ref b6, g_n r14, .ref b16, g_n r24, g_n 0]) (r := []) rfl rfl rfl ?_
    refine r_callI h fun r29 M26 hx27 hok28 hr30 h => ?_
    replace h := h hx27 hok28 hr30
    replace hO1 := hO1.up hx27
    replace hO4 := hO4.up hx27
    replace hO10 := hO10.up hx27
    replace hO20 := hO20.up hx27
    refine r_if_ne x_171_51 (t := 56) (by decide +kernel) hr30 (fun hc => ?_) (fun hc => ?_)
    · replace h := h.2 hc
      obtain ⟨h31, h⟩ := h
      refine r_iinc x_171_56 (by decide +kernel) rfl rfl (lv1 := [(0, .ref a0), (1, g_n v1), (2, g_n v2), (3, g_n v3), (4, g_n (v4 + 1))]) rfl ?_
      refine r_goto x_171_59 (t := 10) (by decide +kernel) ?_
      exact h
    · replace h := h.1 hc
      refine r_iconst x_171_54 ?_
      exact r_retZ x_171_55 rfl (Or.inr rfl) h
