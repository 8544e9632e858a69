theorem x_65_0 : decode (q_code 65) 0 = .ok (.aload_n 0, 1) := by decide +kernel
theorem x_65_1 : decode (q_code 65) 1 = .ok (.getfield 21, 3) := by decide +kernel
theorem x_65_4 : decode (q_code 65) 4 = .ok (.iload_n 1, 1) := by decide +kernel
theorem x_65_5 : decode (q_code 65) 5 = .ok (.invokestatic 48, 3) := by decide +kernel
theorem x_65_8 : decode (q_code 65) 8 = .ok (.istore_n 3, 1) := by decide +kernel
theorem x_65_9 : decode (q_code 65) 9 = .ok (.aload_n 0, 1) := by decide +kernel
theorem x_65_10 : decode (q_code 65) 10 = .ok (.getfield 21, 3) := by decide +kernel
theorem x_65_13 : decode (q_code 65) 13 = .ok (.iload_n 2, 1) := by decide +kernel
theorem x_65_14 : decode (q_code 65) 14 = .ok (.invokestatic 48, 3) := by decide +kernel
theorem x_65_17 : decode (q_code 65) 17 = .ok (.istore 4, 2) := by decide +kernel
theorem x_65_19 : decode (q_code 65) 19 = .ok (.aload_n 0, 1) := by decide +kernel
theorem x_65_20 : decode (q_code 65) 20 = .ok (.aload_n 0, 1) := by decide +kernel
theorem x_65_21 : decode (q_code 65) 21 = .ok (.getfield 27, 3) := by decide +kernel
theorem x_65_24 : decode (q_code 65) 24 = .ok (.iload_n 3, 1) := by decide +kernel
theorem x_65_25 : decode (q_code 65) 25 = .ok (.invokevirtual 51, 3) := by decide +kernel
theorem x_65_28 : decode (q_code 65) 28 = .ok (.aload_n 0, 1) := by decide +kernel
theorem x_65_29 : decode (q_code 65) 29 = .ok (.getfield 37, 3) := by decide +kernel
theorem x_65_32 : decode (q_code 65) 32 = .ok (.aload_n 0, 1) := by decide +kernel
theorem x_65_33 : decode (q_code 65) 33 = .ok (.getfield 21, 3) := by decide +kernel
theorem x_65_36 : decode (q_code 65) 36 = .ok (.iload 4, 2) := by decide +kernel
theorem x_65_38 : decode (q_code 65) 38 = .ok (.iconst 1, 1) := by decide +kernel
theorem x_65_39 : decode (q_code 65) 39 = .ok (.invokestatic 55, 3) := by decide +kernel
theorem x_65_42 : decode (q_code 65) 42 = .ok (.ifCond .eq 7, 3) := by decide +kernel
theorem x_65_45 : decode (q_code 65) 45 = .ok (.iconst (-1), 1) := by decide +kernel
theorem x_65_46 : decode (q_code 65) 46 = .ok (.goto 4, 3) := by decide +kernel
theorem x_65_49 : decode (q_code 65) 49 = .ok (.iconst 1, 1) := by decide +kernel
theorem x_65_50 : decode (q_code 65) 50 = .ok (.iconst 1, 1) := by decide +kernel
theorem x_65_51 : decode (q_code 65) 51 = .ok (.invokevirtual 59, 3) := by decide +kernel
theorem x_65_54 : decode (q_code 65) 54 = .ok (.aload_n 0, 1) := by decide +kernel
theorem x_65_55 : decode (q_code 65) 55 = .ok (.getfield 21, 3) := by decide +kernel
theorem x_65_58 : decode (q_code 65) 58 = .ok (.iload_n 3, 1) := by decide +kernel
theorem x_65_59 : decode (q_code 65) 59 = .ok (.invokestatic 63, 3) := by decide +kernel
theorem x_65_62 : decode (q_code 65) 62 = .ok (.istore_n 3, 1) := by decide +kernel
theorem x_65_63 : decode (q_code 65) 63 = .ok (.aload_n 0, 1) := by decide +kernel
theorem x_65_64 : decode (q_code 65) 64 = .ok (.aload_n 0, 1) := by decide +kernel
theorem x_65_65 : decode (q_code 65) 65 = .ok (.getfield 21, 3) := by decide +kernel
theorem x_65_68 : decode (q_code 65) 68 = .ok (.iload_n 3, 1) := by decide +kernel
theorem x_65_69 : decode (q_code 65) 69 = .ok (.invokestatic 66, 3) := by decide +kernel
theorem x_65_72 : decode (q_code 65) 72 = .ok (.iconst 2, 1) := by decide +kernel
theorem x_65_73 : decode (q_code 65) 73 = .ok (.if_icmp .ne 7, 3) := by decide +kernel
theorem x_65_76 : decode (q_code 65) 76 = .ok (.iconst 1, 1) := by decide +kernel
theorem x_65_77 : decode (q_code 65) 77 = .ok (.goto 4, 3) := by decide +kernel
theorem x_65_80 : decode (q_code 65) 80 = .ok (.iconst 0, 1) := by decide +kernel
theorem x_65_81 : decode (q_code 65) 81 = .ok (.putfield 69, 3) := by decide +kernel
theorem x_65_84 : decode (q_code 65) 84 = .ok (.aload_n 0, 1) := by decide +kernel
theorem x_65_85 : decode (q_code 65) 85 = .ok (.getfield 69, 3) := by decide +kernel
theorem x_65_88 : decode (q_code 65) 88 = .ok (.ifCond .eq 44, 3) := by decide +kernel
theorem x_65_91 : decode (q_code 65) 91 = .ok (.aload_n 0, 1) := by decide +kernel
theorem x_65_92 : decode (q_code 65) 92 = .ok (.aload_n 0, 1) := by decide +kernel
theorem x_65_93 : decode (q_code 65) 93 = .ok (.getfield 31, 3) := by decide +kernel
theorem x_65_96 : decode (q_code 65) 96 = .ok (.iload_n 3, 1) := by decide +kernel
theorem x_65_97 : decode (q_code 65) 97 = .ok (.invokevirtual 51, 3) := by decide +kernel
theorem x_65_100 : decode (q_code 65) 100 = .ok (.aload_n 0, 1) := by decide +kernel
theorem x_65_101 : decode (q_code 65) 101 = .ok (.getfield 37, 3) := by decide +kernel
theorem x_65_104 : decode (q_code 65) 104 = .ok (.aload_n 0, 1) := by decide +kernel
theorem x_65_105 : decode (q_code 65) 105 = .ok (.getfield 21, 3) := by decide +kernel
theorem x_65_108 : decode (q_code 65) 108 = .ok (.aload_n 0, 1) := by decide +kernel
theorem x_65_109 : decode (q_code 65) 109 = .ok (.getfield 21, 3) := by decide +kernel
theorem x_65_112 : decode (q_code 65) 112 = .ok (.iload 4, 2) := by decide +kernel
theorem x_65_114 : decode (q_code 65) 114 = .ok (.invokestatic 63, 3) := by decide +kernel
theorem x_65_117 : decode (q_code 65) 117 = .ok (.iconst 1, 1) := by decide +kernel
theorem x_65_118 : decode (q_code 65) 118 = .ok (.invokestatic 55, 3) := by decide +kernel
theorem x_65_121 : decode (q_code 65) 121 = .ok (.ifCond .eq 7, 3) := by decide +kernel
theorem x_65_124 : decode (q_code 65) 124 = .ok (.iconst (-1), 1) := by decide +kernel
theorem x_65_125 : decode (q_code 65) 125 = .ok (.goto 4, 3) := by decide +kernel
theorem x_65_128 : decode (q_code 65) 128 = .ok (.iconst 1, 1) := by decide +kernel
theorem x_65_129 : decode (q_code 65) 129 = .ok (.putfield 73, 3) := by decide +kernel
theorem x_65_132 : decode (q_code 65) 132 = .ok (.aload_n 0, 1) := by decide +kernel
theorem x_65_133 : decode (q_code 65) 133 = .ok (.iconst 0, 1) := by decide +kernel
theorem x_65_134 : decode (q_code 65) 134 = .ok (.putfield 77, 3) := by decide +kernel
theorem x_65_137 : decode (q_code 65) 137 = .ok (.aload_n 0, 1) := by decide +kernel
theorem x_65_138 : decode (q_code 65) 138 = .ok (.iconst 0, 1) := by decide +kernel
theorem x_65_139 : decode (q_code 65) 139 = .ok (.putfield 80, 3) := by decide +kernel
theorem x_65_142 : decode (q_code 65) 142 = .ok (.aload_n 0, 1) := by decide +kernel
theorem x_65_143 : decode (q_code 65) 143 = .ok (.iconst 1, 1) := by decide +kernel
theorem x_65_144 : decode (q_code 65) 144 = .ok (.putfield 83, 3) := by decide +kernel
theorem x_65_147 : decode (q_code 65) 147 = .ok (.return_, 1) := by decide +kernel
theorem x_66_0 : decode (q_code 66) 0 = .ok (.aload_n 0, 1) := by decide +kernel
theorem x_66_1 : decode (q_code 66) 1 = .ok (.getfield 21, 3) := by decide +kernel
theorem x_66_4 : decode (q_code 66) 4 = .ok (.iload_n 2, 1) := by decide +kernel
theorem x_66_5 : decode (q_code 66) 5 = .ok (.invokestatic 86, 3) := by decide +kernel
theorem x_66_8 : decode (q_code 66) 8 = .ok (.istore_n 3, 1) := by decide +kernel
theorem x_66_9 : decode (q_code 66) 9 = .ok (.aload_n 0, 1) := by decide +kernel
theorem x_66_10 : decode (q_code 66) 10 = .ok (.getfield 21, 3) := by decide +kernel
theorem x_66_13 : decode (q_code 66) 13 = .ok (.iload_n 3, 1) := by decide +kernel
theorem x_66_14 : decode (q_code 66) 14 = .ok (.invokestatic 89, 3) := by decide +kernel
theorem x_66_17 : decode (q_code 66) 17 = .ok (.iconst 1, 1) := by decide +kernel
theorem x_66_18 : decode (q_code 66) 18 = .ok (.isub, 1) := by decide +kernel
theorem x_66_19 : decode (q_code 66) 19 = .ok (.istore 4, 2) := by decide +kernel
theorem x_66_21 : decode (q_code 66) 21 = .ok (.iconst 0, 1) := by decide +kernel
theorem x_66_22 : decode (q_code 66) 22 = .ok (.iload 4, 2) := by decide +kernel
theorem x_66_24 : decode (q_code 66) 24 = .ok (.sipush 2000, 3) := by decide +kernel
theorem x_66_27 : decode (q_code 66) 27 = .ok (.invokestatic 92, 3) := by decide +kernel
theorem x_66_30 : decode (q_code 66) 30 = .ok (.invokestatic 98, 3) := by decide +kernel
theorem x_66_33 : decode (q_code 66) 33 = .ok (.newarray .byte, 2) := by decide +kernel
theorem x_66_35 : decode (q_code 66) 35 = .ok (.astore 5, 2) := by decide +kernel
theorem x_66_37 : decode (q_code 66) 37 = .ok (.aload_n 0, 1) := by decide +kernel
theorem x_66_38 : decode (q_code 66) 38 = .ok (.getfield 21, 3) := by decide +kernel
theorem x_66_41 : decode (q_code 66) 41 = .ok (.iload_n 3, 1) := by decide +kernel
theorem x_66_42 : decode (q_code 66) 42 = .ok (.iconst 4, 1) := by decide +kernel
theorem x_66_43 : decode (q_code 66) 43 = .ok (.iadd, 1) := by decide +kernel
theorem x_66_44 : decode (q_code 66) 44 = .ok (.aload 5, 2) := by decide +kernel
theorem x_66_46 : decode (q_code 66) 46 = .ok (.iconst 0, 1) := by decide +kernel
theorem x_66_47 : decode (q_code 66) 47 = .ok (.aload 5, 2) := by decide +kernel
theorem x_66_49 : decode (q_code 66) 49 = .ok (.arraylength, 1) := by decide +kernel
theorem x_66_50 : decode (q_code 66) 50 = .ok (.invokestatic 101, 3) := by decide +kernel
theorem x_66_53 : decode (q_code 66) 53 = .ok (.aload_n 1, 1) := by decide +kernel
theorem x_66_54 : decode (q_code 66) 54 = .ok (.aload 5, 2) := by decide +kernel
theorem x_66_56 : decode (q_code 66) 56 = .ok (.iconst 0, 1) := by decide +kernel
theorem x_66_57 : decode (q_code 66) 57 = .ok (.aload 5, 2) := by decide +kernel
theorem x_66_59 : decode (q_code 66) 59 = .ok (.arraylength, 1) := by decide +kernel
theorem x_66_60 : decode (q_code 66) 60 = .ok (.invokevirtual 107, 3) := by decide +kernel
theorem x_66_63 : decode (q_code 66) 63 = .ok (.pop, 1) := by decide +kernel
theorem x_66_64 : decode (q_code 66) 64 = .ok (.return_, 1) := by decide +kernel
theorem x_67_0 : decode (q_code 67) 0 = .ok (.iconst 0, 1) := by decide +kernel
theorem x_67_1 : decode (q_code 67) 1 = .ok (.istore_n 3, 1) := by decide +kernel
theorem x_67_2 : decode (q_code 67) 2 = .ok (.iconst 0, 1) := by decide +kernel
theorem x_67_3 : decode (q_code 67) 3 = .ok (.istore 4, 2) := by decide +kernel
theorem x_67_5 : decode (q_code 67) 5 = .ok (.iload 4, 2) := by decide +kernel
theorem x_67_7 : decode (q_code 67) 7 = .ok (.iload_n 2, 1) := by decide +kernel
theorem x_67_8 : decode (q_code 67) 8 = .ok (.if_icmp .ge 41, 3) := by decide +kernel
theorem x_67_11 : decode (q_code 67) 11 = .ok (.iload 4, 2) := by decide +kernel
theorem x_67_13 : decode (q_code 67) 13 = .ok (.aload_n 1, 1) := by decide +kernel
theorem x_67_14 : decode (q_code 67) 14 = .ok (.arraylength, 1) := by decide +kernel
theorem x_67_15 : decode (q_code 67) 15 = .ok (.if_icmp .ge 34, 3) := by decide +kernel
theorem x_67_18 : decode (q_code 67) 18 = .ok (.aload_n 0, 1) := by decide +kernel
theorem x_67_19 : decode (q_code 67) 19 = .ok (.getfield 83, 3) := by decide +kernel
theorem x_67_22 : decode (q_code 67) 22 = .ok (.ifCond .eq 27, 3) := by decide +kernel
theorem x_67_25 : decode (q_code 67) 25 = .ok (.iload_n 3, 1) := by decide +kernel
theorem x_67_26 : decode (q_code 67) 26 = .ok (.sipush 1000, 3) := by decide +kernel
theorem x_67_29 : decode (q_code 67) 29 = .ok (.if_icmp .gt 20, 3) := by decide +kernel
theorem x_67_32 : decode (q_code 67) 32 = .ok (.iload_n 3, 1) := by decide +kernel
theorem x_67_33 : decode (q_code 67) 33 = .ok (.aload_n 0, 1) := by decide +kernel
theorem x_67_34 : decode (q_code 67) 34 = .ok (.aload_n 1, 1) := by decide +kernel
theorem x_67_35 : decode (q_code 67) 35 = .ok (.iload 4, 2) := by decide +kernel
theorem x_67_37 : decode (q_code 67) 37 = .ok (.iaload, 1) := by decide +kernel
theorem x_67_38 : decode (q_code 67) 38 = .ok (.invokevirtual 110, 3) := by decide +kernel
theorem x_67_41 : decode (q_code 67) 41 = .ok (.iadd, 1) := by decide +kernel
theorem x_67_42 : decode (q_code 67) 42 = .ok (.istore_n 3, 1) := by decide +kernel
theorem x_67_43 : decode (q_code 67) 43 = .ok (.iinc 4 1, 3) := by decide +kernel
theorem x_67_46 : decode (q_code 67) 46 = .ok (.goto (-41), 3) := by decide +kernel
theorem x_67_49 : decode (q_code 67) 49 = .ok (.iload_n 3, 1) := by decide +kernel
theorem x_67_50 : decode (q_code 67) 50 = .ok (.sipush 1000, 3) := by decide +kernel
theorem x_67_53 : decode (q_code 67) 53 = .ok (.if_icmp .gt 7, 3) := by decide +kernel
theorem x_67_56 : decode (q_code 67) 56 = .ok (.iconst 1, 1) := by decide +kernel
theorem x_67_57 : decode (q_code 67) 57 = .ok (.goto 4, 3) := by decide +kernel
theorem x_67_60 : decode (q_code 67) 60 = .ok (.iconst 0, 1) := by decide +kernel
theorem x_67_61 : decode (q_code 67) 61 = .ok (.ireturn, 1) := by decide +kernel
theorem x_68_0 : decode (q_code 68) 0 = .ok (.aload_n 0, 1) := by decide +kernel
theorem x_68_1 : decode (q_code 68) 1 = .ok (.getfield 83, 3) := by decide +kernel
theorem x_68_4 : decode (q_code 68) 4 = .ok (.ifCond .eq 22, 3) := by decide +kernel
theorem x_68_7 : decode (q_code 68) 7 = .ok (.aload_n 0, 1) := by decide +kernel
theorem x_68_8 : decode (q_code 68) 8 = .ok (.getfield 37, 3) := by decide +kernel
theorem x_68_11 : decode (q_code 68) 11 = .ok (.getfield 114, 3) := by decide +kernel
theorem x_68_14 : decode (q_code 68) 14 = .ok (.aload_n 0, 1) := by decide +kernel
theorem x_68_15 : decode (q_code 68) 15 = .ok (.iload_n 1, 1) := by decide +kernel
theorem x_68_16 : decode (q_code 68) 16 = .ok (.invokevirtual 110, 3) := by decide +kernel
theorem x_68_19 : decode (q_code 68) 19 = .ok (.iadd, 1) := by decide +kernel
theorem x_68_20 : decode (q_code 68) 20 = .ok (.sipush 1000, 3) := by decide +kernel
theorem x_68_23 : decode (q_code 68) 23 = .ok (.if_icmp .gt 7, 3) := by decide +kernel
theorem x_68_26 : decode (q_code 68) 26 = .ok (.iconst 1, 1) := by decide +kernel
theorem x_68_27 : decode (q_code 68) 27 = .ok (.goto 4, 3) := by decide +kernel
theorem x_68_30 : decode (q_code 68) 30 = .ok (.iconst 0, 1) := by decide +kernel
theorem x_68_31 : decode (q_code 68) 31 = .ok (.ireturn, 1) := by decide +kernel
theorem x_69_0 : decode (q_code 69) 0 = .ok (.aload_n 0, 1) := by decide +kernel
theorem x_69_1 : decode (q_code 69) 1 = .ok (.iconst 0, 1) := by decide +kernel
theorem x_69_2 : decode (q_code 69) 2 = .ok (.putfield 117, 3) := by decide +kernel
theorem x_69_5 : decode (q_code 69) 5 = .ok (.aload_n 0, 1) := by decide +kernel
theorem x_69_6 : decode (q_code 69) 6 = .ok (.aload_n 0, 1) := by decide +kernel
theorem x_69_7 : decode (q_code 69) 7 = .ok (.aload_n 0, 1) := by decide +kernel
theorem x_69_8 : decode (q_code 69) 8 = .ok (.getfield 27, 3) := by decide +kernel
theorem x_69_11 : decode (q_code 69) 11 = .ok (.iload_n 1, 1) := by decide +kernel
theorem x_69_12 : decode (q_code 69) 12 = .ok (.aload_n 0, 1) := by decide +kernel
theorem x_69_13 : decode (q_code 69) 13 = .ok (.getfield 41, 3) := by decide +kernel
theorem x_69_16 : decode (q_code 69) 16 = .ok (.aload_n 0, 1) := by decide +kernel
theorem x_69_17 : decode (q_code 69) 17 = .ok (.getfield 37, 3) := by decide +kernel
theorem x_69_20 : decode (q_code 69) 20 = .ok (.getfield 120, 3) := by decide +kernel
theorem x_69_23 : decode (q_code 69) 23 = .ok (.invokevirtual 123, 3) := by decide +kernel
theorem x_69_26 : decode (q_code 69) 26 = .ok (.putfield 127, 3) := by decide +kernel
theorem x_69_29 : decode (q_code 69) 29 = .ok (.aload_n 0, 1) := by decide +kernel
theorem x_69_30 : decode (q_code 69) 30 = .ok (.iconst 1, 1) := by decide +kernel
theorem x_69_31 : decode (q_code 69) 31 = .ok (.putfield 130, 3) := by decide +kernel
theorem x_69_34 : decode (q_code 69) 34 = .ok (.aload_n 0, 1) := by decide +kernel
theorem x_69_35 : decode (q_code 69) 35 = .ok (.getfield 45, 3) := by decide +kernel
theorem x_69_38 : decode (q_code 69) 38 = .ok (.iconst 0, 1) := by decide +kernel
theorem x_69_39 : decode (q_code 69) 39 = .ok (.iconst 0, 1) := by decide +kernel
theorem x_69_40 : decode (q_code 69) 40 = .ok (.iastore, 1) := by decide +kernel
theorem x_69_41 : decode (q_code 69) 41 = .ok (.aload_n 0, 1) := by decide +kernel
theorem x_69_42 : decode (q_code 69) 42 = .ok (.getfield 69, 3) := by decide +kernel
theorem x_69_45 : decode (q_code 69) 45 = .ok (.ifCond .eq 27, 3) := by decide +kernel
theorem x_69_48 : decode (q_code 69) 48 = .ok (.aload_n 0, 1) := by decide +kernel
theorem x_69_49 : decode (q_code 69) 49 = .ok (.aload_n 0, 1) := by decide +kernel
theorem x_69_50 : decode (q_code 69) 50 = .ok (.aload_n 0, 1) := by decide +kernel
theorem x_69_51 : decode (q_code 69) 51 = .ok (.getfield 31, 3) := by decide +kernel
theorem x_69_54 : decode (q_code 69) 54 = .ok (.iload_n 1, 1) := by decide +kernel
theorem x_69_55 : decode (q_code 69) 55 = .ok (.aload_n 0, 1) := by decide +kernel
theorem x_69_56 : decode (q_code 69) 56 = .ok (.getfield 45, 3) := by decide +kernel
theorem x_69_59 : decode (q_code 69) 59 = .ok (.aload_n 0, 1) := by decide +kernel
theorem x_69_60 : decode (q_code 69) 60 = .ok (.getfield 37, 3) := by decide +kernel
theorem x_69_63 : decode (q_code 69) 63 = .ok (.getfield 73, 3) := by decide +kernel
theorem x_69_66 : decode (q_code 69) 66 = .ok (.invokevirtual 123, 3) := by decide +kernel
theorem x_69_69 : decode (q_code 69) 69 = .ok (.putfield 130, 3) := by decide +kernel
theorem x_69_72 : decode (q_code 69) 72 = .ok (.aload_n 0, 1) := by decide +kernel
theorem x_69_73 : decode (q_code 69) 73 = .ok (.getfield 117, 3) := by decide +kernel
theorem x_69_76 : decode (q_code 69) 76 = .ok (.ifCond .eq 9, 3) := by decide +kernel
theorem x_69_79 : decode (q_code 69) 79 = .ok (.sipush 1001, 3) := by decide +kernel
theorem x_69_82 : decode (q_code 69) 82 = .ok (.goto 12, 3) := by decide +kernel
theorem x_69_85 : decode (q_code 69) 85 = .ok (.aload_n 0, 1) := by decide +kernel
theorem x_69_86 : decode (q_code 69) 86 = .ok (.getfield 127, 3) := by decide +kernel
theorem x_69_89 : decode (q_code 69) 89 = .ok (.aload_n 0, 1) := by decide +kernel
theorem x_69_90 : decode (q_code 69) 90 = .ok (.getfield 130, 3) := by decide +kernel
theorem x_69_93 : decode (q_code 69) 93 = .ok (.imul, 1) := by decide +kernel
theorem x_69_94 : decode (q_code 69) 94 = .ok (.ireturn, 1) := by decide +kernel
theorem x_70_0 : decode (q_code 70) 0 = .ok (.aload_n 0, 1) := by decide +kernel
theorem x_70_1 : decode (q_code 70) 1 = .ok (.getfield 9, 3) := by decide +kernel
theorem x_70_4 : decode (q_code 70) 4 = .ok (.getfield 133, 3) := by decide +kernel
theorem x_70_7 : decode (q_code 70) 7 = .ok (.istore 5, 2) := by decide +kernel
theorem x_70_9 : decode (q_code 70) 9 = .ok (.iconst 0, 1) := by decide +kernel
theorem x_70_10 : decode (q_code 70) 10 = .ok (.istore 6, 2) := by decide +kernel
theorem x_70_12 : decode (q_code 70) 12 = .ok (.aload_n 1, 1) := by decide +kernel
theorem x_70_13 : decode (q_code 70) 13 = .ok (.aload_n 0, 1) := by decide +kernel
theorem x_70_14 : decode (q_code 70) 14 = .ok (.getfield 9, 3) := by decide +kernel
theorem x_70_17 : decode (q_code 70) 17 = .ok (.iload_n 2, 1) := by decide +kernel
theorem x_70_18 : decode (q_code 70) 18 = .ok (.iconst 0, 1) := by decide +kernel
theorem x_70_19 : decode (q_code 70) 19 = .ok (.iconst 0, 1) := by decide +kernel
theorem x_70_20 : decode (q_code 70) 20 = .ok (.invokevirtual 136, 3) := by decide +kernel
theorem x_70_23 : decode (q_code 70) 23 = .ok (.aload_n 0, 1) := by decide +kernel
theorem x_70_24 : decode (q_code 70) 24 = .ok (.getfield 9, 3) := by decide +kernel
theorem x_70_27 : decode (q_code 70) 27 = .ok (.getfield 133, 3) := by decide +kernel
theorem x_70_30 : decode (q_code 70) 30 = .ok (.iload 5, 2) := by decide +kernel
theorem x_70_32 : decode (q_code 70) 32 = .ok (.if_icmp .ne 15, 3) := by decide +kernel
theorem x_70_35 : decode (q_code 70) 35 = .ok (.aload_n 0, 1) := by decide +kernel
theorem x_70_36 : decode (q_code 70) 36 = .ok (.aload_n 3, 1) := by decide +kernel
theorem x_70_37 : decode (q_code 70) 37 = .ok (.iload 6, 2) := by decide +kernel
theorem x_70_39 : decode (q_code 70) 39 = .ok (.iconst 0, 1) := by decide +kernel
theorem x_70_40 : decode (q_code 70) 40 = .ok (.iload 4, 2) := by decide +kernel
theorem x_70_42 : decode (q_code 70) 42 = .ok (.invokevirtual 140, 3) := by decide +kernel
theorem x_70_45 : decode (q_code 70) 45 = .ok (.istore 6, 2) := by decide +kernel
theorem x_70_47 : decode (q_code 70) 47 = .ok (.iload 5, 2) := by decide +kernel
theorem x_70_49 : decode (q_code 70) 49 = .ok (.istore 7, 2) := by decide +kernel
theorem x_70_51 : decode (q_code 70) 51 = .ok (.iload 7, 2) := by decide +kernel
theorem x_70_53 : decode (q_code 70) 53 = .ok (.aload_n 0, 1) := by decide +kernel
theorem x_70_54 : decode (q_code 70) 54 = .ok (.getfield 9, 3) := by decide +kernel
theorem x_70_57 : decode (q_code 70) 57 = .ok (.getfield 133, 3) := by decide +kernel
theorem x_70_60 : decode (q_code 70) 60 = .ok (.if_icmp .ge 160, 3) := by decide +kernel
theorem x_70_63 : decode (q_code 70) 63 = .ok (.aload_n 0, 1) := by decide +kernel
theorem x_70_64 : decode (q_code 70) 64 = .ok (.getfield 9, 3) := by decide +kernel
theorem x_70_67 : decode (q_code 70) 67 = .ok (.iload 7, 2) := by decide +kernel
theorem x_70_69 : decode (q_code 70) 69 = .ok (.invokevirtual 144, 3) := by decide +kernel
theorem x_70_72 : decode (q_code 70) 72 = .ok (.istore 8, 2) := by decide +kernel
theorem x_70_74 : decode (q_code 70) 74 = .ok (.aload_n 0, 1) := by decide +kernel
theorem x_70_75 : decode (q_code 70) 75 = .ok (.getfield 21, 3) := by decide +kernel
theorem x_70_78 : decode (q_code 70) 78 = .ok (.iload 8, 2) := by decide +kernel
theorem x_70_80 : decode (q_code 70) 80 = .ok (.invokestatic 66, 3) := by decide +kernel
theorem x_70_83 : decode (q_code 70) 83 = .ok (.iconst 4, 1) := by decide +kernel
theorem x_70_84 : decode (q_code 70) 84 = .ok (.if_icmp .ne 15, 3) := by decide +kernel
theorem x_70_87 : decode (q_code 70) 87 = .ok (.aload_n 0, 1) := by decide +kernel
theorem x_70_88 : decode (q_code 70) 88 = .ok (.getfield 21, 3) := by decide +kernel
theorem x_70_91 : decode (q_code 70) 91 = .ok (.iload 8, 2) := by decide +kernel
theorem x_70_93 : decode (q_code 70) 93 = .ok (.invokestatic 48, 3) := by decide +kernel
theorem x_70_96 : decode (q_code 70) 96 = .ok (.goto 5, 3) := by decide +kernel
theorem x_70_99 : decode (q_code 70) 99 = .ok (.iload 8, 2) := by decide +kernel
theorem x_70_101 : decode (q_code 70) 101 = .ok (.istore 9, 2) := by decide +kernel
theorem x_70_103 : decode (q_code 70) 103 = .ok (.iload 8, 2) := by decide +kernel
theorem x_70_105 : decode (q_code 70) 105 = .ok (.ifCond .lt 15, 3) := by decide +kernel
theorem x_70_108 : decode (q_code 70) 108 = .ok (.aload_n 0, 1) := by decide +kernel
theorem x_70_109 : decode (q_code 70) 109 = .ok (.getfield 21, 3) := by decide +kernel
theorem x_70_112 : decode (q_code 70) 112 = .ok (.iload 9, 2) := by decide +kernel
theorem x_70_114 : decode (q_code 70) 114 = .ok (.invokestatic 66, 3) := by decide +kernel
theorem x_70_117 : decode (q_code 70) 117 = .ok (.ifCond .ne 18, 3) := by decide +kernel
theorem x_70_120 : decode (q_code 70) 120 = .ok (.aload_n 0, 1) := by decide +kernel
theorem x_70_121 : decode (q_code 70) 121 = .ok (.aload_n 3, 1) := by decide +kernel
theorem x_70_122 : decode (q_code 70) 122 = .ok (.iload 6, 2) := by decide +kernel
theorem x_70_124 : decode (q_code 70) 124 = .ok (.iconst 0, 1) := by decide +kernel
theorem x_70_125 : decode (q_code 70) 125 = .ok (.iload 4, 2) := by decide +kernel
theorem x_70_127 : decode (q_code 70) 127 = .ok (.invokevirtual 140, 3) := by decide +kernel
theorem x_70_130 : decode (q_code 70) 130 = .ok (.istore 6, 2) := by decide +kernel
theorem x_70_132 : decode (q_code 70) 132 = .ok (.goto 23, 3) := by decide +kernel
theorem x_70_135 : decode (q_code 70) 135 = .ok (.iload 9, 2) := by decide +kernel
theorem x_70_137 : decode (q_code 70) 137 = .ok (.iload 8, 2) := by decide +kernel
theorem x_70_139 : decode (q_code 70) 139 = .ok (.if_icmp .ne 16, 3) := by decide +kernel
theorem x_70_142 : decode (q_code 70) 142 = .ok (.aload_n 0, 1) := by decide +kernel
theorem x_70_143 : decode (q_code 70) 143 = .ok (.aload_n 3, 1) := by decide +kernel
theorem x_70_144 : decode (q_code 70) 144 = .ok (.iload 6, 2) := by decide +kernel
theorem x_70_146 : decode (q_code 70) 146 = .ok (.iload 8, 2) := by decide +kernel
theorem x_70_148 : decode (q_code 70) 148 = .ok (.iload 4, 2) := by decide +kernel
theorem x_70_150 : decode (q_code 70) 150 = .ok (.invokevirtual 140, 3) := by decide +kernel
theorem x_70_153 : decode (q_code 70) 153 = .ok (.istore 6, 2) := by decide +kernel
theorem x_70_155 : decode (q_code 70) 155 = .ok (.iconst 0, 1) := by decide +kernel
theorem x_70_156 : decode (q_code 70) 156 = .ok (.istore 10, 2) := by decide +kernel
theorem x_70_158 : decode (q_code 70) 158 = .ok (.iload 10, 2) := by decide +kernel
theorem x_70_160 : decode (q_code 70) 160 = .ok (.ldc 147, 2) := by decide +kernel
theorem x_70_162 : decode (q_code 70) 162 = .ok (.if_icmp .ge 52, 3) := by decide +kernel
theorem x_70_165 : decode (q_code 70) 165 = .ok (.iload 9, 2) := by decide +kernel
theorem x_70_167 : decode (q_code 70) 167 = .ok (.iload 8, 2) := by decide +kernel
theorem x_70_169 : decode (q_code 70) 169 = .ok (.if_icmp .eq 45, 3) := by decide +kernel
theorem x_70_172 : decode (q_code 70) 172 = .ok (.aload_n 0, 1) := by decide +kernel
theorem x_70_173 : decode (q_code 70) 173 = .ok (.getfield 21, 3) := by decide +kernel
theorem x_70_176 : decode (q_code 70) 176 = .ok (.iload 9, 2) := by decide +kernel
theorem x_70_178 : decode (q_code 70) 178 = .ok (.invokestatic 66, 3) := by decide +kernel
theorem x_70_181 : decode (q_code 70) 181 = .ok (.ifCond .eq 33, 3) := by decide +kernel
theorem x_70_184 : decode (q_code 70) 184 = .ok (.aload_n 0, 1) := by decide +kernel
theorem x_70_185 : decode (q_code 70) 185 = .ok (.aload_n 3, 1) := by decide +kernel
theorem x_70_186 : decode (q_code 70) 186 = .ok (.iload 6, 2) := by decide +kernel
theorem x_70_188 : decode (q_code 70) 188 = .ok (.iload 9, 2) := by decide +kernel
theorem x_70_190 : decode (q_code 70) 190 = .ok (.iload 4, 2) := by decide +kernel
theorem x_70_192 : decode (q_code 70) 192 = .ok (.invokevirtual 140, 3) := by decide +kernel
theorem x_70_195 : decode (q_code 70) 195 = .ok (.istore 6, 2) := by decide +kernel
theorem x_70_197 : decode (q_code 70) 197 = .ok (.aload_n 0, 1) := by decide +kernel
theorem x_70_198 : decode (q_code 70) 198 = .ok (.getfield 21, 3) := by decide +kernel
theorem x_70_201 : decode (q_code 70) 201 = .ok (.iload 9, 2) := by decide +kernel
theorem x_70_203 : decode (q_code 70) 203 = .ok (.invokestatic 63, 3) := by decide +kernel
theorem x_70_206 : decode (q_code 70) 206 = .ok (.istore 9, 2) := by decide +kernel
theorem x_70_208 : decode (q_code 70) 208 = .ok (.iinc 10 1, 3) := by decide +kernel
theorem x_70_211 : decode (q_code 70) 211 = .ok (.goto (-53), 3) := by decide +kernel
theorem x_70_214 : decode (q_code 70) 214 = .ok (.iinc 7 1, 3) := by decide +kernel
theorem x_70_217 : decode (q_code 70) 217 = .ok (.goto (-166), 3) := by decide +kernel
theorem x_70_220 : decode (q_code 70) 220 = .ok (.aload_n 0, 1) := by decide +kernel
theorem x_70_221 : decode (q_code 70) 221 = .ok (.getfield 9, 3) := by decide +kernel
theorem x_70_224 : decode (q_code 70) 224 = .ok (.iload 5, 2) := by decide +kernel
theorem x_70_226 : decode (q_code 70) 226 = .ok (.putfield 133, 3) := by decide +kernel
theorem x_70_229 : decode (q_code 70) 229 = .ok (.iload 6, 2) := by decide +kernel
theorem x_70_231 : decode (q_code 70) 231 = .ok (.ireturn, 1) := by decide +kernel
theorem x_71_0 : decode (q_code 71) 0 = .ok (.aload_n 0, 1) := by decide +kernel
theorem x_71_1 : decode (q_code 71) 1 = .ok (.aload_n 0, 1) := by decide +kernel
theorem x_71_2 : decode (q_code 71) 2 = .ok (.getfield 117, 3) := by decide +kernel
theorem x_71_5 : decode (q_code 71) 5 = .ok (.ifCond .ne 31, 3) := by decide +kernel
theorem x_71_8 : decode (q_code 71) 8 = .ok (.aload_n 0, 1) := by decide +kernel
theorem x_71_9 : decode (q_code 71) 9 = .ok (.getfield 21, 3) := by decide +kernel
theorem x_71_12 : decode (q_code 71) 12 = .ok (.iload_n 3, 1) := by decide +kernel
theorem x_71_13 : decode (q_code 71) 13 = .ok (.invokestatic 63, 3) := by decide +kernel
theorem x_71_16 : decode (q_code 71) 16 = .ok (.aload_n 0, 1) := by decide +kernel
theorem x_71_17 : decode (q_code 71) 17 = .ok (.getfield 21, 3) := by decide +kernel
theorem x_71_20 : decode (q_code 71) 20 = .ok (.iload_n 3, 1) := by decide +kernel
theorem x_71_21 : decode (q_code 71) 21 = .ok (.invokestatic 86, 3) := by decide +kernel
theorem x_71_24 : decode (q_code 71) 24 = .ok (.isub, 1) := by decide +kernel
theorem x_71_25 : decode (q_code 71) 25 = .ok (.bipush 64, 2) := by decide +kernel
theorem x_71_27 : decode (q_code 71) 27 = .ok (.if_icmp .gt 9, 3) := by decide +kernel
theorem x_71_30 : decode (q_code 71) 30 = .ok (.iload_n 2, 1) := by decide +kernel
theorem x_71_31 : decode (q_code 71) 31 = .ok (.aload_n 1, 1) := by decide +kernel
theorem x_71_32 : decode (q_code 71) 32 = .ok (.arraylength, 1) := by decide +kernel
theorem x_71_33 : decode (q_code 71) 33 = .ok (.if_icmp .lt 7, 3) := by decide +kernel
theorem x_71_36 : decode (q_code 71) 36 = .ok (.iconst 1, 1) := by decide +kernel
theorem x_71_37 : decode (q_code 71) 37 = .ok (.goto 4, 3) := by decide +kernel
theorem x_71_40 : decode (q_code 71) 40 = .ok (.iconst 0, 1) := by decide +kernel
theorem x_71_41 : decode (q_code 71) 41 = .ok (.putfield 117, 3) := by decide +kernel
theorem x_71_44 : decode (q_code 71) 44 = .ok (.iload_n 2, 1) := by decide +kernel
theorem x_71_45 : decode (q_code 71) 45 = .ok (.aload_n 1, 1) := by decide +kernel
theorem x_71_46 : decode (q_code 71) 46 = .ok (.arraylength, 1) := by decide +kernel
theorem x_71_47 : decode (q_code 71) 47 = .ok (.iconst 1, 1) := by decide +kernel
theorem x_71_48 : decode (q_code 71) 48 = .ok (.isub, 1) := by decide +kernel
theorem x_71_49 : decode (q_code 71) 49 = .ok (.invokestatic 92, 3) := by decide +kernel
theorem x_71_52 : decode (q_code 71) 52 = .ok (.istore 5, 2) := by decide +kernel
theorem x_71_54 : decode (q_code 71) 54 = .ok (.iload 5, 2) := by decide +kernel
theorem x_71_56 : decode (q_code 71) 56 = .ok (.ifCond .le 48, 3) := by decide +kernel
theorem x_71_59 : decode (q_code 71) 59 = .ok (.aload_n 0, 1) := by decide +kernel
theorem x_71_60 : decode (q_code 71) 60 = .ok (.getfield 21, 3) := by decide +kernel
theorem x_71_63 : decode (q_code 71) 63 = .ok (.aload_n 1, 1) := by decide +kernel
theorem x_71_64 : decode (q_code 71) 64 = .ok (.iload 5, 2) := by decide +kernel
theorem x_71_66 : decode (q_code 71) 66 = .ok (.iconst 1, 1) := by decide +kernel
theorem x_71_67 : decode (q_code 71) 67 = .ok (.isub, 1) := by decide +kernel
theorem x_71_68 : decode (q_code 71) 68 = .ok (.iaload, 1) := by decide +kernel
theorem x_71_69 : decode (q_code 71) 69 = .ok (.aload_n 0, 1) := by decide +kernel
theorem x_71_70 : decode (q_code 71) 70 = .ok (.getfield 21, 3) := by decide +kernel
theorem x_71_73 : decode (q_code 71) 73 = .ok (.iload_n 3, 1) := by decide +kernel
theorem x_71_74 : decode (q_code 71) 74 = .ok (.iconst 0, 1) := by decide +kernel
theorem x_71_75 : decode (q_code 71) 75 = .ok (.invokestatic 148, 3) := by decide +kernel
theorem x_71_78 : decode (q_code 71) 78 = .ok (.iload 4, 2) := by decide +kernel
theorem x_71_80 : decode (q_code 71) 80 = .ok (.imul, 1) := by decide +kernel
theorem x_71_81 : decode (q_code 71) 81 = .ok (.istore 6, 2) := by decide +kernel
theorem x_71_83 : decode (q_code 71) 83 = .ok (.iload 6, 2) := by decide +kernel
theorem x_71_85 : decode (q_code 71) 85 = .ok (.ifCond .ne 5, 3) := by decide +kernel
theorem x_71_88 : decode (q_code 71) 88 = .ok (.iload_n 2, 1) := by decide +kernel
theorem x_71_89 : decode (q_code 71) 89 = .ok (.ireturn, 1) := by decide +kernel
theorem x_71_90 : decode (q_code 71) 90 = .ok (.iload 6, 2) := by decide +kernel
theorem x_71_92 : decode (q_code 71) 92 = .ok (.ifCond .ge 6, 3) := by decide +kernel
theorem x_71_95 : decode (q_code 71) 95 = .ok (.goto 9, 3) := by decide +kernel
theorem x_71_98 : decode (q_code 71) 98 = .ok (.iinc 5 (-1), 3) := by decide +kernel
theorem x_71_101 : decode (q_code 71) 101 = .ok (.goto (-47), 3) := by decide +kernel
theorem x_71_104 : decode (q_code 71) 104 = .ok (.iload_n 2, 1) := by decide +kernel
theorem x_71_105 : decode (q_code 71) 105 = .ok (.aload_n 1, 1) := by decide +kernel
theorem x_71_106 : decode (q_code 71) 106 = .ok (.arraylength, 1) := by decide +kernel
theorem x_71_107 : decode (q_code 71) 107 = .ok (.if_icmp .lt 5, 3) := by decide +kernel
theorem x_71_110 : decode (q_code 71) 110 = .ok (.iload_n 2, 1) := by decide +kernel
theorem x_71_111 : decode (q_code 71) 111 = .ok (.ireturn, 1) := by decide +kernel
theorem x_71_112 : decode (q_code 71) 112 = .ok (.aload_n 1, 1) := by decide +kernel
theorem x_71_113 : decode (q_code 71) 113 = .ok (.iload 5, 2) := by decide +kernel
theorem x_71_115 : decode (q_code 71) 115 = .ok (.aload_n 1, 1) := by decide +kernel
theorem x_71_116 : decode (q_code 71) 116 = .ok (.iload 5, 2) := by decide +kernel
theorem x_71_118 : decode (q_code 71) 118 = .ok (.iconst 1, 1) := by decide +kernel
theorem x_71_119 : decode (q_code 71) 119 = .ok (.iadd, 1) := by decide +kernel
theorem x_71_120 : decode (q_code 71) 120 = .ok (.iload_n 2, 1) := by decide +kernel
theorem x_71_121 : decode (q_code 71) 121 = .ok (.iload 5, 2) := by decide +kernel
theorem x_71_123 : decode (q_code 71) 123 = .ok (.isub, 1) := by decide +kernel
theorem x_71_124 : decode (q_code 71) 124 = .ok (.invokestatic 101, 3) := by decide +kernel
theorem x_71_127 : decode (q_code 71) 127 = .ok (.aload_n 1, 1) := by decide +kernel
theorem x_71_128 : decode (q_code 71) 128 = .ok (.iload 5, 2) := by decide +kernel
theorem x_71_130 : decode (q_code 71) 130 = .ok (.iload_n 3, 1) := by decide +kernel
theorem x_71_131 : decode (q_code 71) 131 = .ok (.iastore, 1) := by decide +kernel
theorem x_71_132 : decode (q_code 71) 132 = .ok (.iload_n 2, 1) := by decide +kernel
theorem x_71_133 : decode (q_code 71) 133 = .ok (.iconst 1, 1) := by decide +kernel
theorem x_71_134 : decode (q_code 71) 134 = .ok (.iadd, 1) := by decide +kernel
theorem x_71_135 : decode (q_code 71) 135 = .ok (.ireturn, 1) := by decide +kernel
theorem x_72_0 : decode (q_code 72) 0 = .ok (.iconst 0, 1) := by decide +kernel
theorem x_72_1 : decode (q_code 72) 1 = .ok (.istore_n 3, 1) := by decide +kernel
theorem x_72_2 : decode (q_code 72) 2 = .ok (.iload_n 3, 1) := by decide +kernel
theorem x_72_3 : decode (q_code 72) 3 = .ok (.aload_n 1, 1) := by decide +kernel
theorem x_72_4 : decode (q_code 72) 4 = .ok (.getfield 152, 3) := by decide +kernel
theorem x_72_7 : decode (q_code 72) 7 = .ok (.if_icmp .ge 157, 3) := by decide +kernel
theorem x_72_10 : decode (q_code 72) 10 = .ok (.iload_n 3, 1) := by decide +kernel
theorem x_72_11 : decode (q_code 72) 11 = .ok (.aload_n 2, 1) := by decide +kernel
theorem x_72_12 : decode (q_code 72) 12 = .ok (.arraylength, 1) := by decide +kernel
theorem x_72_13 : decode (q_code 72) 13 = .ok (.if_icmp .ge 151, 3) := by decide +kernel
theorem x_72_16 : decode (q_code 72) 16 = .ok (.aload_n 0, 1) := by decide +kernel
theorem x_72_17 : decode (q_code 72) 17 = .ok (.getfield 83, 3) := by decide +kernel
theorem x_72_20 : decode (q_code 72) 20 = .ok (.ifCond .eq 144, 3) := by decide +kernel
theorem x_72_23 : decode (q_code 72) 23 = .ok (.aload_n 2, 1) := by decide +kernel
theorem x_72_24 : decode (q_code 72) 24 = .ok (.iload_n 3, 1) := by decide +kernel
theorem x_72_25 : decode (q_code 72) 25 = .ok (.baload, 1) := by decide +kernel
theorem x_72_26 : decode (q_code 72) 26 = .ok (.ifCond .ne 6, 3) := by decide +kernel
theorem x_72_29 : decode (q_code 72) 29 = .ok (.goto 129, 3) := by decide +kernel
theorem x_72_32 : decode (q_code 72) 32 = .ok (.aload_n 0, 1) := by decide +kernel
theorem x_72_33 : decode (q_code 72) 33 = .ok (.aload_n 1, 1) := by decide +kernel
theorem x_72_34 : decode (q_code 72) 34 = .ok (.getfield 157, 3) := by decide +kernel
theorem x_72_37 : decode (q_code 72) 37 = .ok (.iload_n 3, 1) := by decide +kernel
theorem x_72_38 : decode (q_code 72) 38 = .ok (.iaload, 1) := by decide +kernel
theorem x_72_39 : decode (q_code 72) 39 = .ok (.invokevirtual 110, 3) := by decide +kernel
theorem x_72_42 : decode (q_code 72) 42 = .ok (.pop, 1) := by decide +kernel
theorem x_72_43 : decode (q_code 72) 43 = .ok (.aload_n 0, 1) := by decide +kernel
theorem x_72_44 : decode (q_code 72) 44 = .ok (.aload_n 0, 1) := by decide +kernel
theorem x_72_45 : decode (q_code 72) 45 = .ok (.getfield 77, 3) := by decide +kernel
theorem x_72_48 : decode (q_code 72) 48 = .ok (.ifCond .ne 11, 3) := by decide +kernel
theorem x_72_51 : decode (q_code 72) 51 = .ok (.aload_n 0, 1) := by decide +kernel
theorem x_72_52 : decode (q_code 72) 52 = .ok (.getfield 127, 3) := by decide +kernel
theorem x_72_55 : decode (q_code 72) 55 = .ok (.iconst 1, 1) := by decide +kernel
theorem x_72_56 : decode (q_code 72) 56 = .ok (.if_icmp .le 7, 3) := by decide +kernel
theorem x_72_59 : decode (q_code 72) 59 = .ok (.iconst 1, 1) := by decide +kernel
theorem x_72_60 : decode (q_code 72) 60 = .ok (.goto 4, 3) := by decide +kernel
theorem x_72_63 : decode (q_code 72) 63 = .ok (.iconst 0, 1) := by decide +kernel
theorem x_72_64 : decode (q_code 72) 64 = .ok (.putfield 77, 3) := by decide +kernel
theorem x_72_67 : decode (q_code 72) 67 = .ok (.aload_n 0, 1) := by decide +kernel
theorem x_72_68 : decode (q_code 72) 68 = .ok (.aload_n 0, 1) := by decide +kernel
theorem x_72_69 : decode (q_code 72) 69 = .ok (.getfield 80, 3) := by decide +kernel
theorem x_72_72 : decode (q_code 72) 72 = .ok (.ifCond .ne 11, 3) := by decide +kernel
theorem x_72_75 : decode (q_code 72) 75 = .ok (.aload_n 0, 1) := by decide +kernel
theorem x_72_76 : decode (q_code 72) 76 = .ok (.getfield 130, 3) := by decide +kernel
theorem x_72_79 : decode (q_code 72) 79 = .ok (.iconst 1, 1) := by decide +kernel
theorem x_72_80 : decode (q_code 72) 80 = .ok (.if_icmp .le 7, 3) := by decide +kernel
theorem x_72_83 : decode (q_code 72) 83 = .ok (.iconst 1, 1) := by decide +kernel
theorem x_72_84 : decode (q_code 72) 84 = .ok (.goto 4, 3) := by decide +kernel
theorem x_72_87 : decode (q_code 72) 87 = .ok (.iconst 0, 1) := by decide +kernel
theorem x_72_88 : decode (q_code 72) 88 = .ok (.putfield 80, 3) := by decide +kernel
theorem x_72_91 : decode (q_code 72) 91 = .ok (.iconst 0, 1) := by decide +kernel
theorem x_72_92 : decode (q_code 72) 92 = .ok (.istore 4, 2) := by decide +kernel
theorem x_72_94 : decode (q_code 72) 94 = .ok (.iload 4, 2) := by decide +kernel
theorem x_72_96 : decode (q_code 72) 96 = .ok (.aload_n 0, 1) := by decide +kernel
theorem x_72_97 : decode (q_code 72) 97 = .ok (.getfield 127, 3) := by decide +kernel
theorem x_72_100 : decode (q_code 72) 100 = .ok (.if_icmp .ge 58, 3) := by decide +kernel
theorem x_72_103 : decode (q_code 72) 103 = .ok (.iconst 0, 1) := by decide +kernel
theorem x_72_104 : decode (q_code 72) 104 = .ok (.istore 5, 2) := by decide +kernel
theorem x_72_106 : decode (q_code 72) 106 = .ok (.iload 5, 2) := by decide +kernel
theorem x_72_108 : decode (q_code 72) 108 = .ok (.aload_n 0, 1) := by decide +kernel
theorem x_72_109 : decode (q_code 72) 109 = .ok (.getfield 130, 3) := by decide +kernel
theorem x_72_112 : decode (q_code 72) 112 = .ok (.if_icmp .ge 40, 3) := by decide +kernel
theorem x_72_115 : decode (q_code 72) 115 = .ok (.aload_n 0, 1) := by decide +kernel
theorem x_72_116 : decode (q_code 72) 116 = .ok (.getfield 37, 3) := by decide +kernel
theorem x_72_119 : decode (q_code 72) 119 = .ok (.aload_n 0, 1) := by decide +kernel
theorem x_72_120 : decode (q_code 72) 120 = .ok (.getfield 21, 3) := by decide +kernel
theorem x_72_123 : decode (q_code 72) 123 = .ok (.aload_n 0, 1) := by decide +kernel
theorem x_72_124 : decode (q_code 72) 124 = .ok (.getfield 41, 3) := by decide +kernel
theorem x_72_127 : decode (q_code 72) 127 = .ok (.iload 4, 2) := by decide +kernel
theorem x_72_129 : decode (q_code 72) 129 = .ok (.iaload, 1) := by decide +kernel
theorem x_72_130 : decode (q_code 72) 130 = .ok (.aload_n 0, 1) := by decide +kernel
theorem x_72_131 : decode (q_code 72) 131 = .ok (.getfield 45, 3) := by decide +kernel
theorem x_72_134 : decode (q_code 72) 134 = .ok (.iload 5, 2) := by decide +kernel
theorem x_72_136 : decode (q_code 72) 136 = .ok (.iaload, 1) := by decide +kernel
theorem x_72_137 : decode (q_code 72) 137 = .ok (.aload_n 1, 1) := by decide +kernel
theorem x_72_138 : decode (q_code 72) 138 = .ok (.getfield 160, 3) := by decide +kernel
theorem x_72_141 : decode (q_code 72) 141 = .ok (.iload_n 3, 1) := by decide +kernel
theorem x_72_142 : decode (q_code 72) 142 = .ok (.iaload, 1) := by decide +kernel
theorem x_72_143 : decode (q_code 72) 143 = .ok (.invokevirtual 163, 3) := by decide +kernel
theorem x_72_146 : decode (q_code 72) 146 = .ok (.iinc 5 1, 3) := by decide +kernel
theorem x_72_149 : decode (q_code 72) 149 = .ok (.goto (-43), 3) := by decide +kernel
theorem x_72_152 : decode (q_code 72) 152 = .ok (.iinc 4 1, 3) := by decide +kernel
theorem x_72_155 : decode (q_code 72) 155 = .ok (.goto (-61), 3) := by decide +kernel
theorem x_72_158 : decode (q_code 72) 158 = .ok (.iinc 3 1, 3) := by decide +kernel
theorem x_72_161 : decode (q_code 72) 161 = .ok (.goto (-159), 3) := by decide +kernel
theorem x_72_164 : decode (q_code 72) 164 = .ok (.return_, 1) := by decide +kernel
theorem x_73_0 : decode (q_code 73) 0 = .ok (.iconst 0, 1) := by decide +kernel
theorem x_73_1 : decode (q_code 73) 1 = .ok (.istore_n 3, 1) := by decide +kernel
theorem x_73_2 : decode (q_code 73) 2 = .ok (.iload_n 3, 1) := by decide +kernel
theorem x_73_3 : decode (q_code 73) 3 = .ok (.aload_n 1, 1) := by decide +kernel
theorem x_73_4 : decode (q_code 73) 4 = .ok (.getfield 152, 3) := by decide +kernel
theorem x_73_7 : decode (q_code 73) 7 = .ok (.if_icmp .ge 109, 3) := by decide +kernel
theorem x_73_10 : decode (q_code 73) 10 = .ok (.iload_n 3, 1) := by decide +kernel
theorem x_73_11 : decode (q_code 73) 11 = .ok (.aload_n 2, 1) := by decide +kernel
theorem x_73_12 : decode (q_code 73) 12 = .ok (.arraylength, 1) := by decide +kernel
theorem x_73_13 : decode (q_code 73) 13 = .ok (.if_icmp .ge 103, 3) := by decide +kernel
theorem x_73_16 : decode (q_code 73) 16 = .ok (.aload_n 0, 1) := by decide +kernel
theorem x_73_17 : decode (q_code 73) 17 = .ok (.getfield 83, 3) := by decide +kernel
theorem x_73_20 : decode (q_code 73) 20 = .ok (.ifCond .eq 96, 3) := by decide +kernel
theorem x_73_23 : decode (q_code 73) 23 = .ok (.aload_n 2, 1) := by decide +kernel
theorem x_73_24 : decode (q_code 73) 24 = .ok (.iload_n 3, 1) := by decide +kernel
theorem x_73_25 : decode (q_code 73) 25 = .ok (.baload, 1) := by decide +kernel
theorem x_73_26 : decode (q_code 73) 26 = .ok (.ifCond .ne 6, 3) := by decide +kernel
theorem x_73_29 : decode (q_code 73) 29 = .ok (.goto 81, 3) := by decide +kernel
theorem x_73_32 : decode (q_code 73) 32 = .ok (.aload_n 0, 1) := by decide +kernel
theorem x_73_33 : decode (q_code 73) 33 = .ok (.aload_n 1, 1) := by decide +kernel
theorem x_73_34 : decode (q_code 73) 34 = .ok (.getfield 157, 3) := by decide +kernel
theorem x_73_37 : decode (q_code 73) 37 = .ok (.iload_n 3, 1) := by decide +kernel
theorem x_73_38 : decode (q_code 73) 38 = .ok (.iaload, 1) := by decide +kernel
theorem x_73_39 : decode (q_code 73) 39 = .ok (.invokevirtual 110, 3) := by decide +kernel
theorem x_73_42 : decode (q_code 73) 42 = .ok (.pop, 1) := by decide +kernel
theorem x_73_43 : decode (q_code 73) 43 = .ok (.iconst 0, 1) := by decide +kernel
theorem x_73_44 : decode (q_code 73) 44 = .ok (.istore 4, 2) := by decide +kernel
theorem x_73_46 : decode (q_code 73) 46 = .ok (.iload 4, 2) := by decide +kernel
theorem x_73_48 : decode (q_code 73) 48 = .ok (.aload_n 0, 1) := by decide +kernel
theorem x_73_49 : decode (q_code 73) 49 = .ok (.getfield 127, 3) := by decide +kernel
theorem x_73_52 : decode (q_code 73) 52 = .ok (.if_icmp .ge 58, 3) := by decide +kernel
theorem x_73_55 : decode (q_code 73) 55 = .ok (.iconst 0, 1) := by decide +kernel
theorem x_73_56 : decode (q_code 73) 56 = .ok (.istore 5, 2) := by decide +kernel
theorem x_73_58 : decode (q_code 73) 58 = .ok (.iload 5, 2) := by decide +kernel
theorem x_73_60 : decode (q_code 73) 60 = .ok (.aload_n 0, 1) := by decide +kernel
theorem x_73_61 : decode (q_code 73) 61 = .ok (.getfield 130, 3) := by decide +kernel
theorem x_73_64 : decode (q_code 73) 64 = .ok (.if_icmp .ge 40, 3) := by decide +kernel
theorem x_73_67 : decode (q_code 73) 67 = .ok (.aload_n 0, 1) := by decide +kernel
theorem x_73_68 : decode (q_code 73) 68 = .ok (.getfield 37, 3) := by decide +kernel
theorem x_73_71 : decode (q_code 73) 71 = .ok (.aload_n 0, 1) := by decide +kernel
theorem x_73_72 : decode (q_code 73) 72 = .ok (.getfield 21, 3) := by decide +kernel
theorem x_73_75 : decode (q_code 73) 75 = .ok (.aload_n 0, 1) := by decide +kernel
theorem x_73_76 : decode (q_code 73) 76 = .ok (.getfield 41, 3) := by decide +kernel
theorem x_73_79 : decode (q_code 73) 79 = .ok (.iload 4, 2) := by decide +kernel
theorem x_73_81 : decode (q_code 73) 81 = .ok (.iaload, 1) := by decide +kernel
theorem x_73_82 : decode (q_code 73) 82 = .ok (.aload_n 0, 1) := by decide +kernel
theorem x_73_83 : decode (q_code 73) 83 = .ok (.getfield 45, 3) := by decide +kernel
theorem x_73_86 : decode (q_code 73) 86 = .ok (.iload 5, 2) := by decide +kernel
theorem x_73_88 : decode (q_code 73) 88 = .ok (.iaload, 1) := by decide +kernel
theorem x_73_89 : decode (q_code 73) 89 = .ok (.aload_n 1, 1) := by decide +kernel
theorem x_73_90 : decode (q_code 73) 90 = .ok (.getfield 160, 3) := by decide +kernel
theorem x_73_93 : decode (q_code 73) 93 = .ok (.iload_n 3, 1) := by decide +kernel
theorem x_73_94 : decode (q_code 73) 94 = .ok (.iaload, 1) := by decide +kernel
theorem x_73_95 : decode (q_code 73) 95 = .ok (.invokevirtual 167, 3) := by decide +kernel
theorem x_73_98 : decode (q_code 73) 98 = .ok (.iinc 5 1, 3) := by decide +kernel
theorem x_73_101 : decode (q_code 73) 101 = .ok (.goto (-43), 3) := by decide +kernel
theorem x_73_104 : decode (q_code 73) 104 = .ok (.iinc 4 1, 3) := by decide +kernel
theorem x_73_107 : decode (q_code 73) 107 = .ok (.goto (-61), 3) := by decide +kernel
theorem x_73_110 : decode (q_code 73) 110 = .ok (.iinc 3 1, 3) := by decide +kernel
theorem x_73_113 : decode (q_code 73) 113 = .ok (.goto (-111), 3) := by decide +kernel
theorem x_73_116 : decode (q_code 73) 116 = .ok (.return_, 1) := by decide +kernel
theorem m_X3_prepare {d : Nat} {M : g_M} {Q : g_M → Prop} {a0 : Nat} {v1 : Int} (hv1 : g_InR v1) {v2 : Int} (hv2 : g_InR v2) (h : g_ok M → g_O M a0 3 ∧ ∃ b2, g_r M a0 1 = some b2 ∧ g_Call d 112 [.ref b2, g_n v1] M (g_qI fun r7 M4 => g_ext M M4 → g_ok M4 → g_InR r7 → ∃ b9, g_r M4 a0 1 = some b9 ∧ g_Call d 112 [.ref b9, g_n v2] M4 (g_qI fun r14 M11 => g_ext M4 M11 → g_ok M11 → g_InR r14 → ∃ b16, g_r M11 a0 2 = some b16 ∧ g_Call d 66 [.ref a0, .ref b16, g_n r7] M11 (g_qV fun M18 => g_ext M11 M18 → g_ok M18 → ∃ b21, g_r M18 a0 4 = some b21 ∧ ∃ b23, g_r M18 a0 1 = some b23 ∧ g_Call d 119 [.ref b23, g_n r14, g_n 1] M18 (g_qI fun r28 M25 => g_ext M18 M25 → g_ok M25 → g_InR r28 → ((r28 = 0 → g_Run d 65 50 [(0, .ref a0), (1, g_n v1), (2, g_n v2), (3, g_n r7), (4, g_n r14)] [g_n 1, .ref b21] M25 (g_qV Q)) ∧ (¬ r28 = 0 → g_Run d 65 50 [(0, .ref a0), (1, g_n v1), (2, g_n v2), (3, g_n r7), (4, g_n r14)] [g_n ((-1)), .ref b21] M25 (g_qV Q)))))))) : g_Call (d + 1) 65 [.ref a0, g_n v1, g_n v2] M (g_qV Q) := by
  refine g_Call.ok fun hok0 => ?_
  replace h := h hok0
  refine r_body rfl (lv := [(0, .ref a0), (1, g_n v1), (2, g_n v2)]) rfl ?_
  refine g_Run.ok fun hok => ?_
  refine r_aload_n x_65_0 rfl ?_
  obtain ⟨hO1, h⟩ := h
  obtain ⟨b2, hb3, h⟩ := h
  refine r_getR x_65_1 rfl (ci := 3) (k := 1) (ns := 0) (by decide +kernel) (by decide) rfl (kz := 1) rfl hO1 hb3 ?_
  refine r_iload_n x_65_4 rfl ?_
  refine r_invS x_65_5 (z := 112) (ns := 1) (by decide +kernel) (as := [.ref b2, g_n v1]) (r := []) rfl rfl rfl ?_
  refine r_callI h fun r7 M4 hx5 hok6 hr8 h => ?_
  replace h := h hx5 hok6 hr8
  replace hO1 := hO1.up hx5
  refine r_istore_n x_65_8 (by decide +kernel) rfl (lv1 := [(0, .ref a0), (1, g_n v1), (2, g_n v2), (3, g_n r7)]) rfl ?_
  refine r_aload_n x_65_9 rfl ?_
  obtain ⟨b9, hb10, h⟩ := h
  refine r_getR x_65_10 rfl (ci := 3) (k := 1) (ns := 0) (by decide +kernel) (by decide) rfl (kz := 1) rfl hO1 hb10 ?_
  refine r_iload_n x_65_13 rfl ?_
  refine r_invS x_65_14 (z := 112) (ns := 1) (by decide +kernel) (as := [.ref b9, g_n v2]) (r := []) rfl rfl rfl ?_
  refine r_callI h fun r14 M11 hx12 hok13 hr15 h => ?_
  replace h := h hx12 hok13 hr15
  replace hO1 := hO1.up hx12
  refine r_istore x_65_17 (by decide +kernel) rfl (lv1 := [(0, .ref a0), (1, g_n v1), (2, g_n v2), (3, g_n r7), (4, g_n r14)]) rfl ?_
  refine r_aload_n x_65_19 rfl ?_
  refine r_aload_n x_65_20 rfl ?_
  obtain ⟨b16, hb17, h⟩ := h
  refine r_getR x_65_21 rfl (ci := 3) (k := 2) (ns := 0) (by decide +kernel) (by decide) rfl (kz := 2) rfl hO1 hb17 ?_
  refine r_iload_n x_65_24 rfl ?_
  refine r_invV x_65_25 (z := 66) (ns := 0) (by decide +kernel) (as := [.ref b16, g_n r7]) (r := []) rfl rfl rfl hO1 rfl rfl ?_
  refine r_callV h fun M18 hx19 hok20 h => ?_
  replace h := h hx19 hok20
  replace hO1 := hO1.up hx19
  refine r_aload_n x_65_28 rfl ?_
  obtain ⟨b21, hb22, h⟩ := h
  refine r_getR x_65_29 rfl (ci := 3) (k := 4) (ns := 0) (by decide +kernel) (by decide) rfl (kz := 4) rfl hO1 hb22 ?_
  refine r_aload_n x_65_32 rfl ?_
  obtain ⟨b23, hb24, h⟩ := h
  refine r_getR x_65_33 rfl (ci := 3) (k := 1) (ns := 0) (by decide +kernel) (by decide) rfl (kz := 1) rfl hO1 hb24 ?_
  refine r_iload x_65_36 rfl ?_
  refine r_iconst x_65_38 ?_
  refine r_invS x_65_39 (z := 119) (ns := 1) (by decide +kernel) (as := [.ref b23, g_n r14, g_n 1]) (r := [.ref b21]) rfl rfl rfl ?_
  refine r_callI h fun r28 M25 hx26 hok27 hr29 h => ?_
  replace h := h hx26 hok27 hr29
  replace hO1 := hO1.up hx26
  refine r_if_eq x_65_42 (t := 49) (by decide +kernel) hr29 (fun hc => ?_) (fun hc => ?_)
  · replace h := h.1 hc
    refine r_iconst x_65_49 ?_
    exact h
  · replace h := h.2 hc
    refine r_iconst x_65_45 ?_
    refine r_goto x_65_46 (t := 50) (by decide +kernel) ?_
    exact h
theorem s_X3_prepare_50 {d : Nat} {M : g_M} {Q : g_M → Prop} {a0 : Nat} {v1 : Int} (hv1 : g_InR v1) {v2 : Int} (hv2 : g_InR v2) {v3 : Int} (hv3 : g_InR v3) {v4 : Int} (hv4 : g_InR v4) {w0 : Int} (hw0 : g_InR w0) {c1 : Nat} (h : g_ok M → g_O M c1 10 ∧ g_Call d 173 [.ref c1, g_n w0, g_n 1] M (g_qV fun M2 => g_ext M M2 → g_ok M2 → g_O M2 a0 3 ∧ ∃ b6, g_r M2 a0 1 = some b6 ∧ g_Call d 111 [.ref b6, g_n v3] M2 (g_qI fun r11 M8 => g_ext M2 M8 → g_ok M8 → g_InR r11 → ∃ b13, g_r M8 a0 1 = some b13 ∧ g_Call d 108 [.ref b13, g_n r11] M8 (g_qI fun r18 M15 => g_ext M8 M15 → g_ok M15 → g_InR r18 → ((r18 = 2 → g_Run d 65 81 [(0, .ref a0), (1, g_n v1), (2, g_n v2), (3, g_n r11), (4, g_n v4)] [g_n 1, .ref a0] M15 (g_qV Q)) ∧ (¬ r18 = 2 → g_Run d 65 81 [(0, .ref a0), (1, g_n v1), (2, g_n v2), (3, g_n r11), (4, g_n v4)] [g_n 0, .ref a0] M15 (g_qV Q))))))) : g_Run d 65 50 [(0, .ref a0), (1, g_n v1), (2, g_n v2), (3, g_n v3), (4, g_n v4)] [g_n w0, .ref c1] M (g_qV Q) := by
  refine g_Run.ok fun hok => ?_
  replace h := h hok
  refine r_iconst x_65_50 ?_
  obtain ⟨hO1, h⟩ := h
  refine r_invV x_65_51 (z := 173) (ns := 1) (by decide +kernel) (as := [g_n w0, g_n 1]) (r := []) rfl rfl rfl hO1 rfl rfl ?_
  refine r_callV h fun M2 hx3 hok4 h => ?_
  replace h := h hx3 hok4
  replace hO1 := hO1.up hx3
  refine r_aload_n x_65_54 rfl ?_
  obtain ⟨hO5, h⟩ := h
  obtain ⟨b6, hb7, h⟩ := h
  refine r_getR x_65_55 rfl (ci := 3) (k := 1) (ns := 0) (by decide +kernel) (by decide) rfl (kz := 1) rfl hO5 hb7 ?_
  refine r_iload_n x_65_58 rfl ?_
  refine r_invS x_65_59 (z := 111) (ns := 1) (by decide +kernel) (as := [.ref b6, g_n v3]) (r := []) rfl rfl rfl ?_
  refine r_callI h fun r11 M8 hx9 hok10 hr12 h => ?_
  replace h := h hx9 hok10 hr12
  replace hO1 := hO1.up hx9
  replace hO5 := hO5.up hx9
  refine r_istore_n x_65_62 (by decide +kernel) rfl (lv1 := [(0, .ref a0), (1, g_n v1), (2, g_n v2), (3, g_n r11), (4, g_n v4)]) rfl ?_
  refine r_aload_n x_65_63 rfl ?_
  refine r_aload_n x_65_64 rfl ?_
  obtain ⟨b13, hb14, h⟩ := h
  refine r_getR x_65_65 rfl (ci := 3) (k := 1) (ns := 0) (by decide +kernel) (by decide) rfl (kz := 1) rfl hO5 hb14 ?_
  refine r_iload_n x_65_68 rfl ?_
  refine r_invS x_65_69 (z := 108) (ns := 1) (by decide +kernel) (as := [.ref b13, g_n r11]) (r := [.ref a0]) rfl rfl rfl ?_
  refine r_callI h fun r18 M15 hx16 hok17 hr19 h => ?_
  replace h := h hx16 hok17 hr19
  replace hO1 := hO1.up hx16
  replace hO5 := hO5.up hx16
  refine r_iconst x_65_72 ?_
  refine r_ic_ne x_65_73 (t := 80) (by decide +kernel) hr19 (g_Rk rfl) (fun hc => ?_) (fun hc => ?_)
  · replace h := h.2 hc
    refine r_iconst x_65_80 ?_
    exact h
  · replace h := h.1 hc
    refine r_iconst x_65_76 ?_
    refine r_goto x_65_77 (t := 81) (by decide +kernel) ?_
    exact h
theorem s_X3_prepare_81 {d : Nat} {M : g_M} {Q : g_M → Prop} {a0 : Nat} {v1 : Int} (hv1 : g_InR v1) {v2 : Int} (hv2 : g_InR v2) {v3 : Int} (hv3 : g_InR v3) {v4 : Int} (hv4 : g_InR v4) {w0 : Int} (hw0 : g_InR w0) {c1 : Nat} (h : g_ok M → g_O M c1 3 ∧ (w0 = 0 ∨ w0 = 1) ∧ (∀ M3, M3 = g_wi M c1 10 w0 → g_ok M3 → g_O M3 a0 3 ∧ ((g_i M3 a0 10 = 0 → g_Run d 65 132 [(0, .ref a0), (1, g_n v1), (2, g_n v2), (3, g_n v3), (4, g_n v4)] [] M3 (g_qV Q)) ∧ (¬ g_i M3 a0 10 = 0 → ∃ b8, g_r M3 a0 3 = some b8 ∧ g_Call d 66 [.ref a0, .ref b8, g_n v3] M3 (g_qV fun M10 => g_ext M3 M10 → g_ok M10 → ∃ b13, g_r M10 a0 4 = some b13 ∧ ∃ b15, g_r M10 a0 1 = some b15 ∧ ∃ b17, g_r M10 a0 1 = some b17 ∧ g_Call d 111 [.ref b17, g_n v4] M10 (g_qI fun r22 M19 => g_ext M10 M19 → g_ok M19 → g_InR r22 → g_Call d 119 [.ref b15, g_n r22, g_n 1] M19 (g_qI fun r27 M24 => g_ext M19 M24 → g_ok M24 → g_InR r27 → ((r27 = 0 → g_O M24 b13 10 ∧ (∀ M30, M30 = g_wi M24 b13 13 1 → g_ok M30 → g_Run d 65 132 [(0, .ref a0), (1, g_n v1), (2, g_n v2), (3, g_n v3), (4, g_n v4)] [] M30 (g_qV Q))) ∧ (¬ r27 = 0 → g_O M24 b13 10 ∧ (∀ M35, M35 = g_wi M24 b13 13 ((-1)) → g_ok M35 → g_Run d 65 132 [(0, .ref a0), (1, g_n v1), (2, g_n v2), (3, g_n v3), (4, g_n v4)] [] M35 (g_qV Q))))))))))) : g_Run d 65 81 [(0, .ref a0), (1, g_n v1), (2, g_n v2), (3, g_n v3), (4, g_n v4)] [g_n w0, .ref c1] M (g_qV Q) := by
  refine g_Run.ok fun hok => ?_
  replace h := h hok
  obtain ⟨hO1, h⟩ := h
  obtain ⟨h2, h⟩ := h
  refine r_putI x_65_81 (ci := 3) (k := 10) (ns := 0) (by decide +kernel) (by decide) (g_fZ h2 (by decide +kernel)) rfl hw0 (g_zx h2 rfl).2 (kz := 10) rfl hO1 ?_
  obtain ⟨M3, hM4⟩ : ∃ Mz, Mz = g_wi M c1 10 w0 := ⟨_, rfl⟩
  rw [← hM4]
  refine g_Run.ok fun hok5 => ?_
  replace h := h M3 hM4 hok5
  have hx6 := g_extW hM4
  replace hO1 := hO1.up hx6
  refine r_aload_n x_65_84 rfl ?_
  obtain ⟨hO7, h⟩ := h
  refine r_getI x_65_85 rfl (ci := 3) (k := 10) (ns := 0) (by decide +kernel) (by decide) rfl (kz := 10) rfl hO7 ?_
  refine r_if_eq x_65_88 (t := 132) (by decide +kernel) (hok5.1 _ _) (fun hc => ?_) (fun hc => ?_)
  · replace h := h.1 hc
    exact h
  · replace h := h.2 hc
    refine r_aload_n x_65_91 rfl ?_
    refine r_aload_n x_65_92 rfl ?_
    obtain ⟨b8, hb9, h⟩ := h
    refine r_getR x_65_93 rfl (ci := 3) (k := 3) (ns := 0) (by decide +kernel) (by decide) rfl (kz := 3) rfl hO7 hb9 ?_
    refine r_iload_n x_65_96 rfl ?_
    refine r_invV x_65_97 (z := 66) (ns := 0) (by decide +kernel) (as := [.ref b8, g_n v3]) (r := []) rfl rfl rfl hO7 rfl rfl ?_
    refine r_callV h fun M10 hx11 hok12 h => ?_
    replace h := h hx11 hok12
    replace hO1 := hO1.up hx11
    replace hO7 := hO7.up hx11
    refine r_aload_n x_65_100 rfl ?_
    obtain ⟨b13, hb14, h⟩ := h
    refine r_getR x_65_101 rfl (ci := 3) (k := 4) (ns := 0) (by decide +kernel) (by decide) rfl (kz := 4) rfl hO7 hb14 ?_
    refine r_aload_n x_65_104 rfl ?_
    obtain ⟨b15, hb16, h⟩ := h
    refine r_getR x_65_105 rfl (ci := 3) (k := 1) (ns := 0) (by decide +kernel) (by decide) rfl (kz := 1) rfl hO7 hb16 ?_
    refine r_aload_n x_65_108 rfl ?_
    obtain ⟨b17, hb18, h⟩ := h
    refine r_getR x_65_109 rfl (ci := 3) (k := 1) (ns := 0) (by decide +kernel) (by decide) rfl (kz := 1) rfl hO7 hb18 ?_
    refine r_iload x_65_112 rfl ?_
    refine r_invS x_65_114 (z := 111) (ns := 1) (by decide +kernel) (as := [.ref b17, g_n v4]) (r := [.ref b15, .ref b13]) rfl rfl rfl ?_
    refine r_callI h fun r22 M19 hx20 hok21 hr23 h => ?_
    replace h := h hx20 hok21 hr23
    replace hO1 := hO1.up hx20
    replace hO7 := hO7.up hx20
    refine r_iconst x_65_117 ?_
    refine r_invS x_65_118 (z := 119) (ns := 1) (by decide +kernel) (as := [.ref b15, g_n r22, g_n 1]) (r := [.ref b13]) rfl rfl rfl ?_
    refine r_callI h fun r27 M24 hx25 hok26 hr28 h => ?_
    replace h := h hx25 hok26 hr28
    replace hO1 := hO1.up hx25
    replace hO7 := hO7.up hx25
    refine r_if_eq x_65_121 (t := 128) (by decide +kernel) hr28 (fun hc => ?_) (fun hc => ?_)
    · replace h := h.1 hc
      refine r_iconst x_65_128 ?_
      obtain ⟨hO29, h⟩ := h
      refine r_putI x_65_129 (ci := 10) (k := 13) (ns := 1) (by decide +kernel) (by decide) (g_f0 (by decide +kernel)) rfl (g_Rk rfl) trivial (kz := 13) rfl hO29 ?_
      obtain ⟨M30, hM31⟩ : ∃ Mz, Mz = g_wi M24 b13 13 1 := ⟨_, rfl⟩
      rw [← hM31]
      refine g_Run.ok fun hok32 => ?_
      replace h := h M30 hM31 hok32
      have hx33 := g_extW hM31
      replace hO1 := hO1.up hx33
      replace hO7 := hO7.up hx33
      replace hO29 := hO29.up hx33
      exact h
    · replace h := h.2 hc
      refine r_iconst x_65_124 ?_
      refine r_goto x_65_125 (t := 129) (by decide +kernel) ?_
      obtain ⟨hO34, h⟩ := h
      refine r_putI x_65_129 (ci := 10) (k := 13) (ns := 1) (by decide +kernel) (by decide) (g_f0 (by decide +kernel)) rfl (g_Rk rfl) trivial (kz := 13) rfl hO34 ?_
      obtain ⟨M35, hM36⟩ : ∃ Mz, Mz = g_wi M24 b13 13 ((-1)) := ⟨_, rfl⟩
      rw [← hM36]
      refine g_Run.ok fun hok37 => ?_
      replace h := h M35 hM36 hok37
      have hx38 := g_extW hM36
      replace hO1 := hO1.up hx38
      replace hO7 := hO7.up hx38
      replace hO34 := hO34.up hx38
      exact h
theorem s_X3_prepare_132 {d : Nat} {M : g_M} {Q : g_M → Prop} {a0 : Nat} {v1 : Int} (hv1 : g_InR v1) {v2 : Int} (hv2 : g_InR v2) {v3 : Int} (hv3 : g_InR v3) {v4 : Int} (hv4 : g_InR v4) (h : g_ok M → g_O M a0 3 ∧ (∀ M2, M2 = g_wi M a0 11 0 → g_ok M2 → (∀ M6, M6 = g_wi M2 a0 12 0 → g_ok M6 → (∀ M10, M10 = g_wi M6 a0 9 1 → g_ok M10 → Q M10)))) : g_Run d 65 132 [(0, .ref a0), (1, g_n v1), (2, g_n v2), (3, g_n v3), (4, g_n v4)] [] M (g_qV Q) := by
  refine g_Run.ok fun hok => ?_
  replace h := h hok
  refine r_aload_n x_65_132 rfl ?_
  refine r_iconst x_65_133 ?_
  obtain ⟨hO1, h⟩ := h
  refine r_putI x_65_134 (ci := 3) (k := 11) (ns := 0) (by decide +kernel) (by decide) (g_fZ (Or.inl rfl) (by decide +kernel)) rfl (g_Rk rfl) (g_zx (Or.inl rfl) rfl).2 (kz := 11) rfl hO1 ?_
  obtain ⟨M2, hM3⟩ : ∃ Mz, Mz = g_wi M a0 11 0 := ⟨_, rfl⟩
  rw [← hM3]
  refine g_Run.ok fun hok4 => ?_
  replace h := h M2 hM3 hok4
  have hx5 := g_extW hM3
  replace hO1 := hO1.up hx5
  refine r_aload_n x_65_137 rfl ?_
  refine r_iconst x_65_138 ?_
  refine r_putI x_65_139 (ci := 3) (k := 12) (ns := 0) (by decide +kernel) (by decide) (g_fZ (Or.inl rfl) (by decide +kernel)) rfl (g_Rk rfl) (g_zx (Or.inl rfl) rfl).2 (kz := 12) rfl hO1 ?_
  obtain ⟨M6, hM7⟩ : ∃ Mz, Mz = g_wi M2 a0 12 0 := ⟨_, rfl⟩
  rw [← hM7]
  refine g_Run.ok fun hok8 => ?_
  replace h := h M6 hM7 hok8
  have hx9 := g_extW hM7
  replace hO1 := hO1.up hx9
  refine r_aload_n x_65_142 rfl ?_
  refine r_iconst x_65_143 ?_
  refine r_putI x_65_144 (ci := 3) (k := 9) (ns := 0) (by decide +kernel) (by decide) (g_fZ (Or.inr rfl) (by decide +kernel)) rfl (g_Rk rfl) (g_zx (Or.inr rfl) rfl).2 (kz := 9) rfl hO1 ?_
  obtain ⟨M10, hM11⟩ : ∃ Mz, Mz = g_wi M6 a0 9 1 := ⟨_, rfl⟩
  rw [← hM11]
  refine g_Run.ok fun hok12 => ?_
  replace h := h M10 hM11 hok12
  have hx13 := g_extW hM11
  replace hO1 := hO1.up hx13
  exact r_retV x_65_147 rfl h
theorem m_X3_takePath {d : Nat} {M : g_M} {Q : g_M → Prop} {a0 : Nat} {a1 : Nat} {v2 : Int} (hv2 : g_InR v2) (h : g_ok M → g_O M a0 3 ∧ ∃ b2, g_r M a0 1 = some b2 ∧ g_Call d 110 [.ref b2, g_n v2] M (g_qI fun r7 M4 => g_ext M M4 → g_ok M4 → g_InR r7 → ∃ b9, g_r M4 a0 1 = some b9 ∧ g_Call d 109 [.ref b9, g_n r7] M4 (g_qI fun r14 M11 => g_ext M4 M11 → g_ok M11 → g_InR r14 → g_InR (r14 - 1) ∧ ((0 : Int) ≤ max 0 (min (r14 - 1) 2000) ∧ (max 0 (min (r14 - 1) 2000) : Int) ≤ 134217728) ∧ (∀ M18, M18 = g_nw M11 0 (max 0 (min (r14 - 1) 2000)).toNat → g_ok M18 → ∃ b22, g_r M18 a0 1 = some b22 ∧ g_InR (r7 + 4) ∧ ∃ n25, g_A M18 (2 * (M11).1.length) 0 n25 ∧ g_InR n25 ∧ ∃ n28, g_A M18 b22 0 n28 ∧ ((0 : Int) ≤ r7 + 4 ∧ (0 : Int) ≤ 0 ∧ (0 : Int) ≤ n25 ∧ ((r7 + 4) : Int) + n25 ≤ n28 ∧ (0 : Int) + n25 ≤ n25) ∧ (∀ M31, M31 = g_cp M18 b22 (2 * (M11).1.length) (r7 + 4) 0 n25 → g_ok M31 → g_InR n25 ∧ g_O M31 a1 5 ∧ g_Call d 90 [.ref a1, .ref (2 * (M11).1.length), g_n 0, g_n n25] M31 (g_qI fun r40 M37 => g_ext M31 M37 → g_ok M37 → g_InR r40 → Q M37)))))) : g_Call (d + 1) 66 [.ref a0, .ref a1, g_n v2] M (g_qV Q) := by
  refine g_Call.ok fun hok0 => ?_
  replace h := h hok0
  refine r_body rfl (lv := [(0, .ref a0), (1, .ref a1), (2, g_n v2)]) rfl ?_
  refine g_Run.ok fun hok => ?_
  refine r_aload_n x_66_0 rfl ?_
  obtain ⟨hO1, h⟩ := h
  obtain ⟨b2, hb3, h⟩ := h
  refine r_getR x_66_1 rfl (ci := 3) (k := 1) (ns := 0) (by decide +kernel) (by decide) rfl (kz := 1) rfl hO1 hb3 ?_
  refine r_iload_n x_66_4 rfl ?_
  refine r_invS x_66_5 (z := 110) (ns := 1) (by decide +kernel) (as := [.ref b2, g_n v2]) (r := []) rfl rfl rfl ?_
  refine r_callI h fun r7 M4 hx5 hok6 hr8 h => ?_
  replace h := h hx5 hok6 hr8
  replace hO1 := hO1.up hx5
  refine r_istore_n x_66_8 (by decide +kernel) rfl (lv1 := [(0, .ref a0), (1, .ref a1), (2, g_n v2), (3, g_n r7)]) rfl ?_
  refine r_aload_n x_66_9 rfl ?_
  obtain ⟨b9, hb10, h⟩ := h
  refine r_getR x_66_10 rfl (ci := 3) (k := 1) (ns := 0) (by decide +kernel) (by decide) rfl (kz := 1) rfl hO1 hb10 ?_
  refine r_iload_n x_66_13 rfl ?_
  refine r_invS x_66_14 (z := 109) (ns := 1) (by decide +kernel) (as := [.ref b9, g_n r7]) (r := []) rfl rfl rfl ?_
  refine r_callI h fun r14 M11 hx12 hok13 hr15 h => ?_
  replace h := h hx12 hok13 hr15
  replace hO1 := hO1.up hx12
  refine r_iconst x_66_17 ?_
  refine r_isub x_66_18 ?_
  obtain ⟨h16, h⟩ := h
  refine r_istore x_66_19 (by decide +kernel) rfl (lv1 := [(0, .ref a0), (1, .ref a1), (2, g_n v2), (3, g_n r7), (4, g_n (r14 - 1))]) rfl ?_
  refine r_iconst x_66_21 ?_
  refine r_iload x_66_22 rfl ?_
  refine r_sipush x_66_24 (x := 2000) rfl ?_
  refine r_min x_66_27 rfl rfl rfl rfl h16 (g_Rk rfl) ?_
  refine r_max x_66_30 rfl rfl rfl rfl (g_Rk rfl) (g_min_R h16 (g_Rk rfl)) ?_
  obtain ⟨h17, h⟩ := h
  refine r_newa x_66_33 (t := 0) rfl (by decide) (g_max_R (g_Rk rfl) (g_min_R h16 (g_Rk rfl))) h17.1 h17.2 ?_
  obtain ⟨M18, hM19⟩ : ∃ Mz, Mz = g_nw M11 0 (max 0 (min (r14 - 1) 2000)).toNat := ⟨_, rfl⟩
  rw [← hM19]
  refine g_Run.ok fun hok20 => ?_
  replace h := h M18 hM19 hok20
  have hx21 := g_extN hM19
  replace hO1 := hO1.up hx21
  refine r_astore x_66_35 (o := (some (2 * (M11).1.length))) (by decide +kernel) rfl (lv1 := [(0, .ref a0), (1, .ref a1), (2, g_n v2), (3, g_n r7), (4, g_n (r14 - 1)), (5, .ref (2 * (M11).1.length))]) rfl ?_
  refine r_aload_n x_66_37 rfl ?_
  obtain ⟨b22, hb23, h⟩ := h
  refine r_getR x_66_38 rfl (ci := 3) (k := 1) (ns := 0) (by decide +kernel) (by decide) rfl (kz := 1) rfl hO1 hb23 ?_
  refine r_iload_n x_66_41 rfl ?_
  refine r_iconst x_66_42 ?_
  refine r_iadd x_66_43 ?_
  obtain ⟨h24, h⟩ := h
  refine r_aload x_66_44 rfl ?_
  refine r_iconst x_66_46 ?_
  refine r_aload x_66_47 rfl ?_
  obtain ⟨n25, hA26, h⟩ := h
  refine r_alen x_66_49 hA26 ?_
  obtain ⟨h27, h⟩ := h
  obtain ⟨n28, hA29, h⟩ := h
  obtain ⟨h30, h⟩ := h
  refine r_copy x_66_50 rfl rfl rfl rfl rfl rfl (by decide) hA29 hA26 h24 (g_Rk rfl) h27 h30.1 h30.2.1 h30.2.2.1 h30.2.2.2.1 h30.2.2.2.2 ?_
  obtain ⟨M31, hM32⟩ : ∃ Mz, Mz = g_cp M18 b22 (2 * (M11).1.length) (r7 + 4) 0 n25 := ⟨_, rfl⟩
  rw [← hM32]
  refine g_Run.ok fun hok33 => ?_
  replace h := h M31 hM32 hok33
  have hx34 := g_extC hM32
  replace hO1 := hO1.up hx34
  replace hA26 := hA26.up hx34
  replace hA29 := hA29.up hx34
  refine r_aload_n x_66_53 rfl ?_
  refine r_aload x_66_54 rfl ?_
  refine r_iconst x_66_56 ?_
  refine r_aload x_66_57 rfl ?_
  refine r_alen x_66_59 hA26 ?_
  obtain ⟨h35, h⟩ := h
  obtain ⟨hO36, h⟩ := h
  refine r_invV x_66_60 (z := 90) (ns := 1) (by decide +kernel) (as := [.ref (2 * (M11).1.length), g_n 0, g_n n25]) (r := []) rfl rfl rfl hO36 rfl rfl ?_
  refine r_callI h fun r40 M37 hx38 hok39 hr41 h => ?_
  replace h := h hx38 hok39 hr41
  replace hO1 := hO1.up hx38
  replace hO36 := hO36.up hx38
  replace hA26 := hA26.up hx38
  replace hA29 := hA29.up hx38
  refine r_pop x_66_63 rfl ?_
  exact r_retV x_66_64 rfl h
theorem m_X3_fitsAll {d : Nat} {M : g_M} {Q : Int → g_M → Prop} {a0 : Nat} {a1 : Nat} {v2 : Int} (hv2 : g_InR v2) (h : g_ok M → g_Run d 67 5 [(0, .ref a0), (1, .ref a1), (2, g_n v2), (3, g_n 0), (4, g_n 0)] [] M (g_qI Q)) : g_Call (d + 1) 67 [.ref a0, .ref a1, g_n v2] M (g_qI Q) := by
  refine g_Call.ok fun hok0 => ?_
  replace h := h hok0
  refine r_body rfl (lv := [(0, .ref a0), (1, .ref a1), (2, g_n v2)]) rfl ?_
  refine g_Run.ok fun hok => ?_
  refine r_iconst x_67_0 ?_
  refine r_istore_n x_67_1 (by decide +kernel) rfl (lv1 := [(0, .ref a0), (1, .ref a1), (2, g_n v2), (3, g_n 0)]) rfl ?_
  refine r_iconst x_67_2 ?_
  refine r_istore x_67_3 (by decide +kernel) rfl (lv1 := [(0, .ref a0), (1, .ref a1), (2, g_n v2), (3, g_n 0), (4, g_n 0)]) rfl ?_
  exact h
theorem s_X3_fitsAll_5 {d : Nat} {M : g_M} {Q : Int → g_M → Prop} {a0 : Nat} {a1 : Nat} {v2 : Int} (hv2 : g_InR v2) {v3 : Int} (hv3 : g_InR v3) {v4 : Int} (hv4 : g_InR v4) (h : g_ok M → ((v4 < v2 → ∃ n1, g_A M a1 1 n1 ∧ g_InR n1 ∧ ((v4 < n1 → g_O M a0 3 ∧ ((g_i M a0 9 = 0 → ((1000 < v3 → Q 0 M) ∧ (¬ 1000 < v3 → Q 1 M))) ∧ (¬ g_i M a0 9 = 0 → ((1000 < v3 → ((1000 < v3 → Q 0 M) ∧ (¬ 1000 < v3 → Q 1 M))) ∧ (¬ 1000 < v3 → ((0 : Int) ≤ v4 ∧ (v4 : Int) < n1) ∧ g_Call d 69 [.ref a0, g_n (g_i M a1 v4)] M (g_qI fun r9 M6 => g_ext M M6 → g_ok M6 → g_InR r9 → g_InR (v3 + r9) ∧ g_InR (v4 + 1) ∧ g_Run d 67 5 [(0, .ref a0), (1, .ref a1), (2, g_n v2), (3, g_n (v3 + r9)), (4, g_n (v4 + 1))] [] M6 (g_qI Q))))))) ∧ (¬ v4 < n1 → ((1000 < v3 → Q 0 M) ∧ (¬ 1000 < v3 → Q 1 M))))) ∧ (¬ v4 < v2 → ((1000 < v3 → Q 0 M) ∧ (¬ 1000 < v3 → Q 1 M))))) : g_Run d 67 5 [(0, .ref a0), (1, .ref a1), (2, g_n v2), (3, g_n v3), (4, g_n v4)] [] M (g_qI Q) := by
  refine g_Run.ok fun hok => ?_
  replace h := h hok
  refine r_iload x_67_5 rfl ?_
  refine r_iload_n x_67_7 rfl ?_
  refine r_ic_ge x_67_8 (t := 49) (by decide +kernel) hv4 hv2 (fun hc => ?_) (fun hc => ?_)
  · replace h := h.2 hc
    refine r_iload_n x_67_49 rfl ?_
    refine r_sipush x_67_50 (x := 1000) rfl ?_
    refine r_ic_gt x_67_53 (t := 60) (by decide +kernel) hv3 (g_Rk rfl) (fun hc => ?_) (fun hc => ?_)
    · replace h := h.1 hc
      refine r_iconst x_67_60 ?_
      exact r_retZ x_67_61 rfl (Or.inl rfl) h
    · replace h := h.2 hc
      refine r_iconst x_67_56 ?_
      refine r_goto x_67_57 (t := 61) (by decide +kernel) ?_
      exact r_retZ x_67_61 rfl (Or.inr rfl) h
  · replace h := h.1 hc
    refine r_iload x_67_11 rfl ?_
    refine r_aload_n x_67_13 rfl ?_
    obtain ⟨n1, hA2, h⟩ := h
    refine r_alen x_67_14 hA2 ?_
    obtain ⟨h3, h⟩ := h
    refine r_ic_ge x_67_15 (t := 49) (by decide +kernel) hv4 h3 (fun hc => ?_) (fun hc => ?_)
    · replace h := h.2 hc
      refine r_iload_n x_67_49 rfl ?_
      refine r_sipush x_67_50 (x := 1000) rfl ?_
      refine r_ic_gt x_67_53 (t := 60) (by decide +kernel) hv3 (g_Rk rfl) (fun hc => ?_) (fun hc => ?_)
      · replace h := h.1 hc
        refine r_iconst x_67_60 ?_
        exact r_retZ x_67_61 rfl (Or.inl rfl) h
      · replace h := h.2 hc
        refine r_iconst x_67_56 ?_
        refine r_goto x_67_57 (t := 61) (by decide +kernel) ?_
        exact r_retZ x_67_61 rfl (Or.inr rfl) h
    · replace h := h.1 hc
      refine r_aload_n x_67_18 rfl ?_
      obtain ⟨hO4, h⟩ := h
      refine r_getI x_67_19 rfl (ci := 3) (k := 9) (ns := 0) (by decide +kernel) (by decide) rfl (kz := 9) rfl hO4 ?_
      refine r_if_eq x_67_22 (t := 49) (by decide +kernel) (hok.1 _ _) (fun hc => ?_) (fun hc => ?_)
      · replace h := h.1 hc
        refine r_iload_n x_67_49 rfl ?_
        refine r_sipush x_67_50 (x := 1000) rfl ?_
        refine r_ic_gt x_67_53 (t := 60) (by decide +kernel) hv3 (g_Rk rfl) (fun hc => ?_) (fun hc => ?_)
        · replace h := h.1 hc
          refine r_iconst x_67_60 ?_
          exact r_retZ x_67_61 rfl (Or.inl rfl) h
        · replace h := h.2 hc
          refine r_iconst x_67_56 ?_
          refine r_goto x_67_57 (t := 61) (by decide +kernel) ?_
          exact r_retZ x_67_61 rfl (Or.inr rfl) h
      · replace h := h.2 hc
        refine r_iload_n x_67_25 rfl ?_
        refine r_sipush x_67_26 (x := 1000) rfl ?_
        refine r_ic_gt x_67_29 (t := 49) (by decide +kernel) hv3 (g_Rk rfl) (fun hc => ?_) (fun hc => ?_)
        · replace h := h.1 hc
          refine r_iload_n x_67_49 rfl ?_
          refine r_sipush x_67_50 (x := 1000) rfl ?_
          refine r_ic_gt x_67_53 (t := 60) (by decide +kernel) hv3 (g_Rk rfl) (fun hc => ?_) (fun hc => ?_)
          · replace h := h.1 hc
            refine r_iconst x_67_60 ?_
            exact r_retZ x_67_61 rfl (Or.inl rfl) h
          · replace h := h.2 hc
            refine r_iconst x_67_56 ?_
            refine r_goto x_67_57 (t := 61) (by decide +kernel) ?_
            exact r_retZ x_67_61 rfl (Or.inr rfl) h
        · replace h := h.2 hc
          refine r_iload_n x_67_32 rfl ?_
          refine r_aload_n x_67_33 rfl ?_
          refine r_aload_n x_67_34 rfl ?_
          refine r_iload x_67_35 rfl ?_
          obtain ⟨h5, h⟩ := h
          refine r_iald x_67_37 hA2 hv4 h5.1 h5.2 ?_
          refine r_invV x_67_38 (z := 69) (ns := 0) (by decide +kernel) (as := [g_n (g_i M a1 v4)]) (r := [g_n v3]) rfl rfl rfl hO4 rfl rfl ?_
          refine r_callI h fun r9 M6 hx7 hok8 hr10 h => ?_
          replace h := h hx7 hok8 hr10
          replace hO4 := hO4.up hx7
          replace hA2 := hA2.up hx7
          refine r_iadd x_67_41 ?_
          obtain ⟨h11, h⟩ := h
          refine r_istore_n x_67_42 (by decide +kernel) rfl (lv1 := [(0, .ref a0), (1, .ref a1), (2, g_n v2), (3, g_n (v3 + r9)), (4, g_n v4)]) rfl ?_
          obtain ⟨h12, h⟩ := h
          refine r_iinc x_67_43 (by decide +kernel) rfl rfl (lv1 := [(0, .ref a0), (1, .ref a1), (2, g_n v2), (3, g_n (v3 + r9)), (4, g_n (v4 + 1))]) rfl ?_
          refine r_goto x_67_46 (t := 5) (by decide +kernel) ?_
          exact h
theorem m_X3_fitsAnother {d : Nat} {M : g_M} {Q : Int → g_M → Prop} {a0 : Nat} {v1 : Int} (hv1 : g_InR v1) (h : g_ok M → g_O M a0 3 ∧ ((g_i M a0 9 = 0 → Q 1 M) ∧ (¬ g_i M a0 9 = 0 → ∃ b2, g_r M a0 4 = some b2 ∧ g_O M b2 10 ∧ g_Call d 69 [.ref a0, g_n v1] M (g_qI fun r8 M5 => g_ext M M5 → g_ok M5 → g_InR r8 → g_InR ((g_i M b2 15) + r8) ∧ ((1000 < (g_i M b2 15) + r8 → Q 0 M5) ∧ (¬ 1000 < (g_i M b2 15) + r8 → Q 1 M5)))))) : g_Call (d + 1) 68 [.ref a0, g_n v1] M (g_qI Q) := by
  refine g_Call.ok fun hok0 => ?_
  replace h := h hok0
  refine r_body rfl (lv := [(0, .ref a0), (1, g_n v1)]) rfl ?_
  refine g_Run.ok fun hok => ?_
  refine r_aload_n x_68_0 rfl ?_
  obtain ⟨hO1, h⟩ := h
  refine r_getI x_68_1 rfl (ci := 3) (k := 9) (ns := 0) (by decide +kernel) (by decide) rfl (kz := 9) rfl hO1 ?_
  refine r_if_eq x_68_4 (t := 26) (by decide +kernel) (hok.1 _ _) (fun hc => ?_) (fun hc => ?_)
  · replace h := h.1 hc
    refine r_iconst x_68_26 ?_
    refine r_goto x_68_27 (t := 31) (by decide +kernel) ?_
    exact r_retZ x_68_31 rfl (Or.inr rfl) h
  · replace h := h.2 hc
    refine r_aload_n x_68_7 rfl ?_
    obtain ⟨b2, hb3, h⟩ := h
    refine r_getR x_68_8 rfl (ci := 3) (k := 4) (ns := 0) (by decide +kernel) (by decide) rfl (kz := 4) rfl hO1 hb3 ?_
    obtain ⟨hO4, h⟩ := h
    refine r_getI x_68_11 rfl (ci := 10) (k := 15) (ns := 1) (by decide +kernel) (by decide) rfl (kz := 15) rfl hO4 ?_
    refine r_aload_n x_68_14 rfl ?_
    refine r_iload_n x_68_15 rfl ?_
    refine r_invV x_68_16 (z := 69) (ns := 0) (by decide +kernel) (as := [g_n v1]) (r := [g_n (g_i M b2 15)]) rfl rfl rfl hO1 rfl rfl ?_
    refine r_callI h fun r8 M5 hx6 hok7 hr9 h => ?_
    replace h := h hx6 hok7 hr9
    replace hO1 := hO1.up hx6
    replace hO4 := hO4.up hx6
    refine r_iadd x_68_19 ?_
    obtain ⟨h10, h⟩ := h
    refine r_sipush x_68_20 (x := 1000) rfl ?_
    refine r_ic_gt x_68_23 (t := 30) (by decide +kernel) h10 (g_Rk rfl) (fun hc => ?_) (fun hc => ?_)
    · replace h := h.1 hc
      refine r_iconst x_68_30 ?_
      exact r_retZ x_68_31 rfl (Or.inl rfl) h
    · replace h := h.2 hc
      refine r_iconst x_68_26 ?_
      refine r_goto x_68_27 (t := 31) (by decide +kernel) ?_
      exact r_retZ x_68_31 rfl (Or.inr rfl) h
theorem m_X3_entriesOf {d : Nat} {M : g_M} {Q : Int → g_M → Prop} {a0 : Nat} {v1 : Int} (hv1 : g_InR v1) (h : g_ok M → g_O M a0 3 ∧ (∀ M2, M2 = g_wi M a0 13 0 → g_ok M2 → ∃ b6, g_r M2 a0 2 = some b6 ∧ ∃ b8, g_r M2 a0 5 = some b8 ∧ ∃ b10, g_r M2 a0 4 = some b10 ∧ g_O M2 b10 10 ∧ g_Call d 70 [.ref a0, .ref b6, g_n v1, .ref b8, g_n (g_i M2 b10 12)] M2 (g_qI fun r16 M13 => g_ext M2 M13 → g_ok M13 → g_InR r16 → (∀ M18, M18 = g_wi M13 a0 7 r16 → g_ok M18 → (∀ M22, M22 = g_wi M18 a0 8 1 → g_ok M22 → ∃ b26, g_r M22 a0 6 = some b26 ∧ ∃ n28, g_A M22 b26 1 n28 ∧ ((0 : Int) ≤ 0 ∧ (0 : Int) < n28) ∧ (∀ M31, M31 = g_wi M22 b26 0 0 → g_ok M31 → ((g_i M31 a0 10 = 0 → g_Run d 69 72 [(0, .ref a0), (1, g_n v1)] [] M31 (g_qI Q)) ∧ (¬ g_i M31 a0 10 = 0 → ∃ b35, g_r M31 a0 3 = some b35 ∧ ∃ b37, g_r M31 a0 6 = some b37 ∧ ∃ b39, g_r M31 a0 4 = some b39 ∧ g_O M31 b39 10 ∧ g_Call d 70 [.ref a0, .ref b35, g_n v1, .ref b37, g_n (g_i M31 b39 13)] M31 (g_qI fun r45 M42 => g_ext M31 M42 → g_ok M42 → g_InR r45 → (∀ M47, M47 = g_wi M42 a0 8 r45 → g_ok M47 → g_Run d 69 72 [(0, .ref a0), (1, g_n v1)] [] M47 (g_qI Q))))))))))) : g_Call (d + 1) 69 [.ref a0, g_n v1] M (g_qI Q) := by
  refine g_Call.ok fun hok0 => ?_
  replace h := h hok0
  refine r_body rfl (lv := [(0, .ref a0), (1, g_n v1)]) rfl ?_
  refine g_Run.ok fun hok => ?_
  refine r_aload_n x_69_0 rfl ?_
  refine r_iconst x_69_1 ?_
  obtain ⟨hO1, h⟩ := h
  refine r_putI x_69_2 (ci := 3) (k := 13) (ns := 0) (by decide +kernel) (by decide) (g_fZ (Or.inl rfl) (by decide +kernel)) rfl (g_Rk rfl) (g_zx (Or.inl rfl) rfl).2 (kz := 13) rfl hO1 ?_
  obtain ⟨M2, hM3⟩ : ∃ Mz, Mz = g_wi M a0 13 0 := ⟨_, rfl⟩
  rw [← hM3]
  refine g_Run.ok fun hok4 => ?_
  replace h := h M2 hM3 hok4
  have hx5 := g_extW hM3
  replace hO1 := hO1.up hx5
  refine r_aload_n x_69_5 rfl ?_
  refine r_aload_n x_69_6 rfl ?_
  refine r_aload_n x_69_7 rfl ?_
  obtain ⟨b6, hb7, h⟩ := h
  refine r_getR x_69_8 rfl (ci := 3) (k := 2) (ns := 0) (by decide +kernel) (by decide) rfl (kz := 2) rfl hO1 hb7 ?_
  refine r_iload_n x_69_11 rfl ?_
  refine r_aload_n x_69_12 rfl ?_
  obtain ⟨b8, hb9, h⟩ := h
  refine r_getR x_69_13 rfl (ci := 3) (k := 5) (ns := 0) (by decide +kernel) (by decide) rfl (kz := 5) rfl hO1 hb9 ?_
  refine r_aload_n x_69_16 rfl ?_
  obtain ⟨b10, hb11, h⟩ := h
  refine r_getR x_69_17 rfl (ci := 3) (k := 4) (ns := 0) (by decide +kernel) (by decide) rfl (kz := 4) rfl hO1 hb11 ?_
  obtain ⟨hO12, h⟩ := h
  refine r_getI x_69_20 rfl (ci := 10) (k := 12) (ns := 1) (by decide +kernel) (by decide) rfl (kz := 12) rfl hO12 ?_
  refine r_invV x_69_23 (z := 70) (ns := 0) (by decide +kernel) (as := [.ref b6, g_n v1, .ref b8, g_n (g_i M2 b10 12)]) (r := [.ref a0]) rfl rfl rfl hO1 rfl rfl ?_
  refine r_callI h fun r16 M13 hx14 hok15 hr17 h => ?_
  replace h := h hx14 hok15 hr17
  replace hO1 := hO1.up hx14
  replace hO12 := hO12.up hx14
  refine r_putI x_69_26 (ci := 3) (k := 7) (ns := 0) (by decide +kernel) (by decide) (g_f0 (by decide +kernel)) rfl hr17 trivial (kz := 7) rfl hO1 ?_
  obtain ⟨M18, hM19⟩ : ∃ Mz, Mz = g_wi M13 a0 7 r16 := ⟨_, rfl⟩
  rw [← hM19]
  refine g_Run.ok fun hok20 => ?_
  replace h := h M18 hM19 hok20
  have hx21 := g_extW hM19
  replace hO1 := hO1.up hx21
  replace hO12 := hO12.up hx21
  refine r_aload_n x_69_29 rfl ?_
  refine r_iconst x_69_30 ?_
  refine r_putI x_69_31 (ci := 3) (k := 8) (ns := 0) (by decide +kernel) (by decide) (g_f0 (by decide +kernel)) rfl (g_Rk rfl) trivial (kz := 8) rfl hO1 ?_
  obtain ⟨M22, hM23⟩ : ∃ Mz, Mz = g_wi M18 a0 8 1 := ⟨_, rfl⟩
  rw [← hM23]
  refine g_Run.ok fun hok24 => ?_
  replace h := h M22 hM23 hok24
  have hx25 := g_extW hM23
  replace hO1 := hO1.up hx25
  replace hO12 := hO12.up hx25
  refine r_aload_n x_69_34 rfl ?_
  obtain ⟨b26, hb27, h⟩ := h
  refine r_getR x_69_35 rfl (ci := 3) (k := 6) (ns := 0) (by decide +kernel) (by decide) rfl (kz := 6) rfl hO1 hb27 ?_
  refine r_iconst x_69_38 ?_
  refine r_iconst x_69_39 ?_
  obtain ⟨n28, hA29, h⟩ := h
  obtain ⟨h30, h⟩ := h
  refine r_iast x_69_40 hA29 (g_Rk rfl) h30.1 h30.2 (g_Rk rfl) ?_
  obtain ⟨M31, hM32⟩ : ∃ Mz, Mz = g_wi M22 b26 0 0 := ⟨_, rfl⟩
  rw [← hM32]
  refine g_Run.ok fun hok33 => ?_
  replace h := h M31 hM32 hok33
  have hx34 := g_extW hM32
  replace hO1 := hO1.up hx34
  replace hO12 := hO12.up hx34
  replace hA29 := hA29.up hx34
  refine r_aload_n x_69_41 rfl ?_
  refine r_getI x_69_42 rfl (ci := 3) (k := 10) (ns := 0) (by decide +kernel) (by decide) rfl (kz := 10) rfl hO1 ?_
  refine r_if_eq x_69_45 (t := 72) (by decide +kernel) (hok33.1 _ _) (fun hc => ?_) (fun hc => ?_)
  · replace h := h.1 hc
    exact h
  · replace h := h.2 hc
    refine r_aload_n x_69_48 rfl ?_
    refine r_aload_n x_69_49 rfl ?_
    refine r_aload_n x_69_50 rfl ?_
    obtain ⟨b35, hb36, h⟩ := h
    refine r_getR x_69_51 rfl (ci := 3) (k := 3) (ns := 0) (by decide +kernel) (by decide) rfl (kz := 3) rfl hO1 hb36 ?_
    refine r_iload_n x_69_54 rfl ?_
    refine r_aload_n x_69_55 rfl ?_
    obtain ⟨b37, hb38, h⟩ := h
    refine r_getR x_69_56 rfl (ci := 3) (k := 6) (ns := 0) (by decide +kernel) (by decide) rfl (kz := 6) rfl hO1 hb38 ?_
    refine r_aload_n x_69_59 rfl ?_
    obtain ⟨b39, hb40, h⟩ := h
    refine r_getR x_69_60 rfl (ci := 3) (k := 4) (ns := 0) (by decide +kernel) (by decide) rfl (kz := 4) rfl hO1 hb40 ?_
    obtain ⟨hO41, h⟩ := h
    refine r_getI x_69_63 rfl (ci := 10) (k := 13) (ns := 1) (by decide +kernel) (by decide) rfl (kz := 13) rfl hO41 ?_
    refine r_invV x_69_66 (z := 70) (ns := 0) (by decide +kernel) (as := [.ref b35, g_n v1, .ref b37, g_n (g_i M31 b39 13)]) (r := [.ref a0]) rfl rfl rfl hO1 rfl rfl ?_
    refine r_callI h fun r45 M42 hx43 hok44 hr46 h => ?_
    replace h := h hx43 hok44 hr46
    replace hO1 := hO1.up hx43
    replace hO12 := hO12.up hx43
    replace hO41 := hO41.up hx43
    replace hA29 := hA29.up hx43
    refine r_putI x_69_69 (ci := 3) (k := 8) (ns := 0) (by decide +kernel) (by decide) (g_f0 (by decide +kernel)) rfl hr46 trivial (kz := 8) rfl hO1 ?_
    obtain ⟨M47, hM48⟩ : ∃ Mz, Mz = g_wi M42 a0 8 r45 := ⟨_, rfl⟩
    rw [← hM48]
    refine g_Run.ok fun hok49 => ?_
    replace h := h M47 hM48 hok49
    have hx50 := g_extW hM48
    replace hO1 := hO1.up hx50
    replace hO12 := hO12.up hx50
    replace hO41 := hO41.up hx50
    replace hA29 := hA29.up hx50
    exact h
theorem s_X3_entriesOf_72 {d : Nat} {M : g_M} {Q : Int → g_M → Prop} {a0 : Nat} {v1 : Int} (hv1 : g_InR v1) (h : g_ok M → g_O M a0 3 ∧ ((g_i M a0 13 = 0 → g_InR ((g_i M a0 7) * (g_i M a0 8)) ∧ Q ((g_i M a0 7) * (g_i M a0 8)) M) ∧ (¬ g_i M a0 13 = 0 → Q 1001 M))) : g_Run d 69 72 [(0, .ref a0), (1, g_n v1)] [] M (g_qI Q) := by
  refine g_Run.ok fun hok => ?_
  replace h := h hok
  refine r_aload_n x_69_72 rfl ?_
  obtain ⟨hO1, h⟩ := h
  refine r_getI x_69_73 rfl (ci := 3) (k := 13) (ns := 0) (by decide +kernel) (by decide) rfl (kz := 13) rfl hO1 ?_
  refine r_if_eq x_69_76 (t := 85) (by decide +kernel) (hok.1 _ _) (fun hc => ?_) (fun hc => ?_)
  · replace h := h.1 hc
    refine r_aload_n x_69_85 rfl ?_
    refine r_getI x_69_86 rfl (ci := 3) (k := 7) (ns := 0) (by decide +kernel) (by decide) rfl (kz := 7) rfl hO1 ?_
    refine r_aload_n x_69_89 rfl ?_
    refine r_getI x_69_90 rfl (ci := 3) (k := 8) (ns := 0) (by decide +kernel) (by decide) rfl (kz := 8) rfl hO1 ?_
    refine r_imul x_69_93 ?_
    obtain ⟨h2, h⟩ := h
    exact r_retI x_69_94 rfl h2 h
  · replace h := h.2 hc
    refine r_sipush x_69_79 (x := 1001) rfl ?_
    refine r_goto x_69_82 (t := 94) (by decide +kernel) ?_
    exact r_retI x_69_94 rfl (g_Rk rfl) h
theorem m_X3_keysOf {d : Nat} {M : g_M} {Q : Int → g_M → Prop} {a0 : Nat} {a1 : Nat} {v2 : Int} (hv2 : g_InR v2) {a3 : Nat} {v4 : Int} (hv4 : g_InR v4) (h : g_ok M → g_O M a0 3 ∧ ∃ b2, g_r M a0 0 = some b2 ∧ g_O M b2 7 ∧ ∃ b5, g_r M a0 0 = some b5 ∧ g_O M a1 5 ∧ g_Call d 94 [.ref a1, .ref b5, g_n v2, g_n 0, g_n 0] M (g_qV fun M8 => g_ext M M8 → g_ok M8 → ∃ b11, g_r M8 a0 0 = some b11 ∧ g_O M8 b11 7 ∧ ((g_i M8 b11 2 = g_i M b2 2 → g_Call d 71 [.ref a0, .ref a3, g_n 0, g_n 0, g_n v4] M8 (g_qI fun r17 M14 => g_ext M8 M14 → g_ok M14 → g_InR r17 → g_Run d 70 51 [(0, .ref a0), (1, .ref a1), (2, g_n v2), (3, .ref a3), (4, g_n v4), (5, g_n (g_i M b2 2)), (6, g_n r17), (7, g_n (g_i M b2 2))] [] M14 (g_qI Q))) ∧ (¬ g_i M8 b11 2 = g_i M b2 2 → g_Run d 70 51 [(0, .ref a0), (1, .ref a1), (2, g_n v2), (3, .ref a3), (4, g_n v4), (5, g_n (g_i M b2 2)), (6, g_n 0), (7, g_n (g_i M b2 2))] [] M8 (g_qI Q))))) : g_Call (d + 1) 70 [.ref a0, .ref a1, g_n v2, .ref a3, g_n v4] M (g_qI Q) := by
  refine g_Call.ok fun hok0 => ?_
  replace h := h hok0
  refine r_body rfl (lv := [(0, .ref a0), (1, .ref a1), (2, g_n v2), (3, .ref a3), (4, g_n v4)]) rfl ?_
  refine g_Run.ok fun hok => ?_
  refine r_aload_n x_70_0 rfl ?_
  obtain ⟨hO1, h⟩ := h
  obtain ⟨b2, hb3, h⟩ := h
  refine r_getR x_70_1 rfl (ci := 3) (k := 0) (ns := 0) (by decide +kernel) (by decide) rfl (kz := 0) rfl hO1 hb3 ?_
  obtain ⟨hO4, h⟩ := h
  refine r_getI x_70_4 rfl (ci := 7) (k := 2) (ns := 1) (by decide +kernel) (by decide) rfl (kz := 2) rfl hO4 ?_
  refine r_istore x_70_7 (by decide +kernel) rfl (lv1 := [(0, .ref a0), (1, .ref a1), (2, g_n v2), (3, .ref a3), (4, g_n v4), (5, g_n (g_i M b2 2))]) rfl ?_
  refine r_iconst x_70_9 ?_
  refine r_istore x_70_10 (by decide +kernel) rfl (lv1 := [(0, .ref a0), (1, .ref a1), (2, g_n v2), (3, .ref a3), (4, g_n v4), (5, g_n (g_i M b2 2)), (6, g_n 0)]) rfl ?_
  refine r_aload_n x_70_12 rfl ?_
  refine r_aload_n x_70_13 rfl ?_
  obtain ⟨b5, hb6, h⟩ := h
  refine r_getR x_70_14 rfl (ci := 3) (k := 0) (ns := 0) (by decide +kernel) (by decide) rfl (kz := 0) rfl hO1 hb6 ?_
  refine r_iload_n x_70_17 rfl ?_
  refine r_iconst x_70_18 ?_
  refine r_iconst x_70_19 ?_
  obtain ⟨hO7, h⟩ := h
  refine r_invV x_70_20 (z := 94) (ns := 1) (by decide +kernel) (as := [.ref b5, g_n v2, g_n 0, g_n 0]) (r := []) rfl rfl rfl hO7 rfl rfl ?_
  refine r_callV h fun M8 hx9 hok10 h => ?_
  replace h := h hx9 hok10
  replace hO1 := hO1.up hx9
  replace hO4 := hO4.up hx9
  replace hO7 := hO7.up hx9
  refine r_aload_n x_70_23 rfl ?_
  obtain ⟨b11, hb12, h⟩ := h
  refine r_getR x_70_24 rfl (ci := 3) (k := 0) (ns := 0) (by decide +kernel) (by decide) rfl (kz := 0) rfl hO1 hb12 ?_
  obtain ⟨hO13, h⟩ := h
  refine r_getI x_70_27 rfl (ci := 7) (k := 2) (ns := 1) (by decide +kernel) (by decide) rfl (kz := 2) rfl hO13 ?_
  refine r_iload x_70_30 rfl ?_
  refine r_ic_ne x_70_32 (t := 47) (by decide +kernel) (hok10.1 _ _) (hok.1 _ _) (fun hc => ?_) (fun hc => ?_)
  · replace h := h.2 hc
    refine r_iload x_70_47 rfl ?_
    refine r_istore x_70_49 (by decide +kernel) rfl (lv1 := [(0, .ref a0), (1, .ref a1), (2, g_n v2), (3, .ref a3), (4, g_n v4), (5, g_n (g_i M b2 2)), (6, g_n 0), (7, g_n (g_i M b2 2))]) rfl ?_
    exact h
  · replace h := h.1 hc
    refine r_aload_n x_70_35 rfl ?_
    refine r_aload_n x_70_36 rfl ?_
    refine r_iload x_70_37 rfl ?_
    refine r_iconst x_70_39 ?_
    refine r_iload x_70_40 rfl ?_
    refine r_invV x_70_42 (z := 71) (ns := 0) (by decide +kernel) (as := [.ref a3, g_n 0, g_n 0, g_n v4]) (r := []) rfl rfl rfl hO1 rfl rfl ?_
    refine r_callI h fun r17 M14 hx15 hok16 hr18 h => ?_
    replace h := h hx15 hok16 hr18
    replace hO1 := hO1.up hx15
    replace hO4 := hO4.up hx15
    replace hO7 := hO7.up hx15
    replace hO13 := hO13.up hx15
    refine r_istore x_70_45 (by decide +kernel) rfl (lv1 := [(0, .ref a0), (1, .ref a1), (2, g_n v2), (3, .ref a3), (4, g_n v4), (5, g_n (g_i M b2 2)), (6, g_n r17)]) rfl ?_
    refine r_iload x_70_47 rfl ?_
    refine r_istore x_70_49 (by decide +kernel) rfl (lv1 := [(0, .ref a0), (1, .ref a1), (2, g_n v2), (3, .ref a3), (4, g_n v4), (5, g_n (g_i M b2 2)), (6, g_n r17), (7, g_n (g_i M b2 2))]) rfl ?_
    exact h
theorem s_X3_keysOf_51 {d : Nat} {M : g_M} {Q : Int → g_M → Prop} {a0 : Nat} {a1 : Nat} {v2 : Int} (hv2 : g_InR v2) {a3 : Nat} {v4 : Int} (hv4 : g_InR v4) {v5 : Int} (hv5 : g_InR v5) {v6 : Int} (hv6 : g_InR v6) {v7 : Int} (hv7 : g_InR v7) (h : g_ok M → g_O M a0 3 ∧ ∃ b2, g_r M a0 0 = some b2 ∧ g_O M b2 7 ∧ ((v7 < g_i M b2 2 → ∃ b12, g_r M a0 0 = some b12 ∧ g_O M b12 7 ∧ g_Call d 105 [.ref b12, g_n v7] M (g_qI fun r18 M15 => g_ext M M15 → g_ok M15 → g_InR r18 → ∃ b20, g_r M15 a0 1 = some b20 ∧ g_Call d 108 [.ref b20, g_n r18] M15 (g_qI fun r25 M22 => g_ext M15 M22 → g_ok M22 → g_InR r25 → ((r25 = 4 → ∃ b27, g_r M22 a0 1 = some b27 ∧ g_Call d 112 [.ref b27, g_n r18] M22 (g_qI fun r32 M29 => g_ext M22 M29 → g_ok M29 → g_InR r32 → g_Run d 70 101 [(0, .ref a0), (1, .ref a1), (2, g_n v2), (3, .ref a3), (4, g_n v4), (5, g_n v5), (6, g_n v6), (7, g_n v7), (8, g_n r18)] [g_n r32] M29 (g_qI Q))) ∧ (¬ r25 = 4 → g_Run d 70 101 [(0, .ref a0), (1, .ref a1), (2, g_n v2), (3, .ref a3), (4, g_n v4), (5, g_n v5), (6, g_n v6), (7, g_n v7), (8, g_n r18)] [g_n r18] M22 (g_qI Q)))))) ∧ (¬ v7 < g_i M b2 2 → ∃ b5, g_r M a0 0 = some b5 ∧ g_O M b5 7 ∧ (∀ M8, M8 = g_wi M b5 2 v5 → g_ok M8 → Q v6 M8)))) : g_Run d 70 51 [(0, .ref a0), (1, .ref a1), (2, g_n v2), (3, .ref a3), (4, g_n v4), (5, g_n v5), (6, g_n v6), (7, g_n v7)] [] M (g_qI Q) := by
  refine g_Run.ok fun hok => ?_
  replace h := h hok
  refine r_iload x_70_51 rfl ?_
  refine r_aload_n x_70_53 rfl ?_
  obtain ⟨hO1, h⟩ := h
  obtain ⟨b2, hb3, h⟩ := h
  refine r_getR x_70_54 rfl (ci := 3) (k := 0) (ns := 0) (by decide +kernel) (by decide) rfl (kz := 0) rfl hO1 hb3 ?_
  obtain ⟨hO4, h⟩ := h
  refine r_getI x_70_57 rfl (ci := 7) (k := 2) (ns := 1) (by decide +kernel) (by decide) rfl (kz := 2) rfl hO4 ?_
  refine r_ic_ge x_70_60 (t := 220) (by decide +kernel) hv7 (hok.1 _ _) (fun hc => ?_) (fun hc => ?_)
  · replace h := h.2 hc
    refine r_aload_n x_70_220 rfl ?_
    obtain ⟨b5, hb6, h⟩ := h
    refine r_getR x_70_221 rfl (ci := 3) (k := 0) (ns := 0) (by decide +kernel) (by decide) rfl (kz := 0) rfl hO1 hb6 ?_
    refine r_iload x_70_224 rfl ?_
    obtain ⟨hO7, h⟩ := h
    refine r_putI x_70_226 (ci := 7) (k := 2) (ns := 1) (by decide +kernel) (by decide) (g_f0 (by decide +kernel)) rfl hv5 trivial (kz := 2) rfl hO7 ?_
    obtain ⟨M8, hM9⟩ : ∃ Mz, Mz = g_wi M b5 2 v5 := ⟨_, rfl⟩
    rw [← hM9]
    refine g_Run.ok fun hok10 => ?_
    replace h := h M8 hM9 hok10
    have hx11 := g_extW hM9
    replace hO1 := hO1.up hx11
    replace hO4 := hO4.up hx11
    replace hO7 := hO7.up hx11
    refine r_iload x_70_229 rfl ?_
    exact r_retI x_70_231 rfl hv6 h
  · replace h := h.1 hc
    refine r_aload_n x_70_63 rfl ?_
    obtain ⟨b12, hb13, h⟩ := h
    refine r_getR x_70_64 rfl (ci := 3) (k := 0) (ns := 0) (by decide +kernel) (by decide) rfl (kz := 0) rfl hO1 hb13 ?_
    refine r_iload x_70_67 rfl ?_
    obtain ⟨hO14, h⟩ := h
    refine r_invV x_70_69 (z := 105) (ns := 1) (by decide +kernel) (as := [g_n v7]) (r := []) rfl rfl rfl hO14 rfl rfl ?_
    refine r_callI h fun r18 M15 hx16 hok17 hr19 h => ?_
    replace h := h hx16 hok17 hr19
    replace hO1 := hO1.up hx16
    replace hO4 := hO4.up hx16
    replace hO14 := hO14.up hx16
    refine r_istore x_70_72 (by decide +kernel) rfl (lv1 := [(0, .ref a0), (1, .ref a1), (2, g_n v2), (3, .ref a3), (4, g_n v4), (5, g_n v5), (6, g_n v6), (7, g_n v7), (8, g_n r18)]) rfl ?_
    refine r_aload_n x_70_74 rfl ?_
    obtain ⟨b20, hb21, h⟩ := h
    refine r_getR x_70_75 rfl (ci := 3) (k := 1) (ns := 0) (by decide +kernel) (by decide) rfl (kz := 1) rfl hO1 hb21 ?_
    refine r_iload x_70_78 rfl ?_
    refine r_invS x_70_80 (z := 108) (ns := 1) (by decide +kernel) (as := [.ref b20, g_n r18]) (r := []) rfl rfl rfl ?_
    refine r_callI h fun r25 M22 hx23 hok24 hr26 h => ?_
    replace h := h hx23 hok24 hr26
    replace hO1 := hO1.up hx23
    replace hO4 := hO4.up hx23
    replace hO14 := hO14.up hx23
    refine r_iconst x_70_83 ?_
    refine r_ic_ne x_70_84 (t := 99) (by decide +kernel) hr26 (g_Rk rfl) (fun hc => ?_) (fun hc => ?_)
    · replace h := h.2 hc
      refine r_iload x_70_99 rfl ?_
      exact h
    · replace h := h.1 hc
      refine r_aload_n x_70_87 rfl ?_
      obtain ⟨b27, hb28, h⟩ := h
      refine r_getR x_70_88 rfl (ci := 3) (k := 1) (ns := 0) (by decide +kernel) (by decide) rfl (kz := 1) rfl hO1 hb28 ?_
      refine r_iload x_70_91 rfl ?_
      refine r_invS x_70_93 (z := 112) (ns := 1) (by decide +kernel) (as := [.ref b27, g_n r18]) (r := []) rfl rfl rfl ?_
      refine r_callI h fun r32 M29 hx30 hok31 hr33 h => ?_
      replace h := h hx30 hok31 hr33
      replace hO1 := hO1.up hx30
      replace hO4 := hO4.up hx30
      replace hO14 := hO14.up hx30
      refine r_goto x_70_96 (t := 101) (by decide +kernel) ?_
      exact h
theorem s_X3_keysOf_101 {d : Nat} {M : g_M} {Q : Int → g_M → Prop} {a0 : Nat} {a1 : Nat} {v2 : Int} (hv2 : g_InR v2) {a3 : Nat} {v4 : Int} (hv4 : g_InR v4) {v5 : Int} (hv5 : g_InR v5) {v6 : Int} (hv6 : g_InR v6) {v7 : Int} (hv7 : g_InR v7) {v8 : Int} (hv8 : g_InR v8) {w0 : Int} (hw0 : g_InR w0) (h : g_ok M → ((v8 < 0 → g_Run d 70 120 [(0, .ref a0), (1, .ref a1), (2, g_n v2), (3, .ref a3), (4, g_n v4), (5, g_n v5), (6, g_n v6), (7, g_n v7), (8, g_n v8), (9, g_n w0)] [] M (g_qI Q)) ∧ (¬ v8 < 0 → g_O M a0 3 ∧ ∃ b2, g_r M a0 1 = some b2 ∧ g_Call d 108 [.ref b2, g_n w0] M (g_qI fun r7 M4 => g_ext M M4 → g_ok M4 → g_InR r7 → ((r7 = 0 → g_Run d 70 120 [(0, .ref a0), (1, .ref a1), (2, g_n v2), (3, .ref a3), (4, g_n v4), (5, g_n v5), (6, g_n v6), (7, g_n v7), (8, g_n v8), (9, g_n w0)] [] M4 (g_qI Q)) ∧ (¬ r7 = 0 → ((w0 = v8 → g_Call d 71 [.ref a0, .ref a3, g_n v6, g_n v8, g_n v4] M4 (g_qI fun r12 M9 => g_ext M4 M9 → g_ok M9 → g_InR r12 → g_Run d 70 158 [(0, .ref a0), (1, .ref a1), (2, g_n v2), (3, .ref a3), (4, g_n v4), (5, g_n v5), (6, g_n r12), (7, g_n v7), (8, g_n v8), (9, g_n w0), (10, g_n 0)] [] M9 (g_qI Q))) ∧ (¬ w0 = v8 → g_Run d 70 158 [(0, .ref a0), (1, .ref a1), (2, g_n v2), (3, .ref a3), (4, g_n v4), (5, g_n v5), (6, g_n v6), (7, g_n v7), (8, g_n v8), (9, g_n w0), (10, g_n 0)] [] M4 (g_qI Q))))))))) : g_Run d 70 101 [(0, .ref a0), (1, .ref a1), (2, g_n v2), (3, .ref a3), (4, g_n v4), (5, g_n v5), (6, g_n v6), (7, g_n v7), (8, g_n v8)] [g_n w0] M (g_qI Q) := by
  refine g_Run.ok fun hok => ?_
  replace h := h hok
  refine r_istore x_70_101 (by decide +kernel) rfl (lv1 := [(0, .ref a0), (1, .ref a1), (2, g_n v2), (3, .ref a3), (4, g_n v4), (5, g_n v5), (6, g_n v6), (7, g_n v7), (8, g_n v8), (9, g_n w0)]) rfl ?_
  refine r_iload x_70_103 rfl ?_
  refine r_if_lt x_70_105 (t := 120) (by decide +kernel) hv8 (fun hc => ?_) (fun hc => ?_)
  · replace h := h.1 hc
    exact h
  · replace h := h.2 hc
    refine r_aload_n x_70_108 rfl ?_
    obtain ⟨hO1, h⟩ := h
    obtain ⟨b2, hb3, h⟩ := h
    refine r_getR x_70_109 rfl (ci := 3) (k := 1) (ns := 0) (by decide +kernel) (by decide) rfl (kz := 1) rfl hO1 hb3 ?_
    refine r_iload x_70_112 rfl ?_
    refine r_invS x_70_114 (z := 108) (ns := 1) (by decide +kernel) (as := [.ref b2, g_n w0]) (r := []) rfl rfl rfl ?_
    refine r_callI h fun r7 M4 hx5 hok6 hr8 h => ?_
    replace h := h hx5 hok6 hr8
    replace hO1 := hO1.up hx5
    refine r_if_ne x_70_117 (t := 135) (by decide +kernel) hr8 (fun hc => ?_) (fun hc => ?_)
    · replace h := h.2 hc
      refine r_iload x_70_135 rfl ?_
      refine r_iload x_70_137 rfl ?_
      refine r_ic_ne x_70_139 (t := 155) (by decide +kernel) hw0 hv8 (fun hc => ?_) (fun hc => ?_)
      · replace h := h.2 hc
        refine r_iconst x_70_155 ?_
        refine r_istore x_70_156 (by decide +kernel) rfl (lv1 := [(0, .ref a0), (1, .ref a1), (2, g_n v2), (3, .ref a3), (4, g_n v4), (5, g_n v5), (6, g_n v6), (7, g_n v7), (8, g_n v8), (9, g_n w0), (10, g_n 0)]) rfl ?_
        exact h
      · replace h := h.1 hc
        refine r_aload_n x_70_142 rfl ?_
        refine r_aload_n x_70_143 rfl ?_
        refine r_iload x_70_144 rfl ?_
        refine r_iload x_70_146 rfl ?_
        refine r_iload x_70_148 rfl ?_
        refine r_invV x_70_150 (z := 71) (ns := 0) (by decide +kernel) (as := [.ref a3, g_n v6, g_n v8, g_n v4]) (r := []) rfl rfl rfl hO1 rfl rfl ?_
        refine r_callI h fun r12 M9 hx10 hok11 hr13 h => ?_
        replace h := h hx10 hok11 hr13
        replace hO1 := hO1.up hx10
        refine r_istore x_70_153 (by decide +kernel) rfl (lv1 := [(0, .ref a0), (1, .ref a1), (2, g_n v2), (3, .ref a3), (4, g_n v4), (5, g_n v5), (6, g_n r12), (7, g_n v7), (8, g_n v8), (9, g_n w0)]) rfl ?_
        refine r_iconst x_70_155 ?_
        refine r_istore x_70_156 (by decide +kernel) rfl (lv1 := [(0, .ref a0), (1, .ref a1), (2, g_n v2), (3, .ref a3), (4, g_n v4), (5, g_n v5), (6, g_n r12), (7, g_n v7), (8, g_n v8), (9, g_n w0), (10, g_n 0)]) rfl ?_
        exact h
    · replace h := h.1 hc
      exact h
theorem s_X3_keysOf_120 {d : Nat} {M : g_M} {Q : Int → g_M → Prop} {a0 : Nat} {a1 : Nat} {v2 : Int} (hv2 : g_InR v2) {a3 : Nat} {v4 : Int} (hv4 : g_InR v4) {v5 : Int} (hv5 : g_InR v5) {v6 : Int} (hv6 : g_InR v6) {v7 : Int} (hv7 : g_InR v7) {v8 : Int} (hv8 : g_InR v8) {v9 : Int} (hv9 : g_InR v9) (h : g_ok M → g_O M a0 3 ∧ g_Call d 71 [.ref a0, .ref a3, g_n v6, g_n 0, g_n v4] M (g_qI fun r5 M2 => g_ext M M2 → g_ok M2 → g_InR r5 → g_Run d 70 158 [(0, .ref a0), (1, .ref a1), (2, g_n v2), (3, .ref a3), (4, g_n v4), (5, g_n v5), (6, g_n r5), (7, g_n v7), (8, g_n v8), (9, g_n v9), (10, g_n 0)] [] M2 (g_qI Q))) : g_Run d 70 120 [(0, .ref a0), (1, .ref a1), (2, g_n v2), (3, .ref a3), (4, g_n v4), (5, g_n v5), (6, g_n v6), (7, g_n v7), (8, g_n v8), (9, g_n v9)] [] M (g_qI Q) := by
  refine g_Run.ok fun hok => ?_
  replace h := h hok
  refine r_aload_n x_70_120 rfl ?_
  refine r_aload_n x_70_121 rfl ?_
  refine r_iload x_70_122 rfl ?_
  refine r_iconst x_70_124 ?_
  refine r_iload x_70_125 rfl ?_
  obtain ⟨hO1, h⟩ := h
  refine r_invV x_70_127 (z := 71) (ns := 0) (by decide +kernel) (as := [.ref a3, g_n v6, g_n 0, g_n v4]) (r := []) rfl rfl rfl hO1 rfl rfl ?_
  refine r_callI h fun r5 M2 hx3 hok4 hr6 h => ?_
  replace h := h hx3 hok4 hr6
  replace hO1 := hO1.up hx3
  refine r_istore x_70_130 (by decide +kernel) rfl (lv1 := [(0, .ref a0), (1, .ref a1), (2, g_n v2), (3, .ref a3), (4, g_n v4), (5, g_n v5), (6, g_n r5), (7, g_n v7), (8, g_n v8), (9, g_n v9)]) rfl ?_
  refine r_goto x_70_132 (t := 155) (by decide +kernel) ?_
  refine r_iconst x_70_155 ?_
  refine r_istore x_70_156 (by decide +kernel) rfl (lv1 := [(0, .ref a0), (1, .ref a1), (2, g_n v2), (3, .ref a3), (4, g_n v4), (5, g_n v5), (6, g_n r5), (7, g_n v7), (8, g_n v8), (9, g_n v9), (10, g_n 0)]) rfl ?_
  exact h
theorem s_X3_keysOf_158 {d : Nat} {M : g_M} {Q : Int → g_M → Prop} {a0 : Nat} {a1 : Nat} {v2 : Int} (hv2 : g_InR v2) {a3 : Nat} {v4 : Int} (hv4 : g_InR v4) {v5 : Int} (hv5 : g_InR v5) {v6 : Int} (hv6 : g_InR v6) {v7 : Int} (hv7 : g_InR v7) {v8 : Int} (hv8 : g_InR v8) {v9 : Int} (hv9 : g_InR v9) {v10 : Int} (hv10 : g_InR v10) (h : g_ok M → ((v10 < 100000 → ((v9 = v8 → g_InR (v7 + 1) ∧ g_Run d 70 51 [(0, .ref a0), (1, .ref a1), (2, g_n v2), (3, .ref a3), (4, g_n v4), (5, g_n v5), (6, g_n v6), (7, g_n (v7 + 1))] [] M (g_qI Q)) ∧ (¬ v9 = v8 → g_O M a0 3 ∧ ∃ b4, g_r M a0 1 = some b4 ∧ g_Call d 108 [.ref b4, g_n v9] M (g_qI fun r9 M6 => g_ext M M6 → g_ok M6 → g_InR r9 → ((r9 = 0 → g_InR (v7 + 1) ∧ g_Run d 70 51 [(0, .ref a0), (1, .ref a1), (2, g_n v2), (3, .ref a3), (4, g_n v4), (5, g_n v5), (6, g_n v6), (7, g_n (v7 + 1))] [] M6 (g_qI Q)) ∧ (¬ r9 = 0 → g_Call d 71 [.ref a0, .ref a3, g_n v6, g_n v9, g_n v4] M6 (g_qI fun r15 M12 => g_ext M6 M12 → g_ok M12 → g_InR r15 → ∃ b17, g_r M12 a0 1 = some b17 ∧ g_Call d 111 [.ref b17, g_n v9] M12 (g_qI fun r22 M19 => g_ext M12 M19 → g_ok M19 → g_InR r22 → g_InR (v10 + 1) ∧ g_Run d 70 158 [(0, .ref a0), (1, .ref a1), (2, g_n v2), (3, .ref a3), (4, g_n v4), (5, g_n v5), (6, g_n r15), (7, g_n v7), (8, g_n v8), (9, g_n r22), (10, g_n (v10 + 1))] [] M19 (g_qI Q))))))))) ∧ (¬ v10 < 100000 → g_InR (v7 + 1) ∧ g_Run d 70 51 [(0, .ref a0), (1, .ref a1), (2, g_n v2), (3, .ref a3), (4, g_n v4), (5, g_n v5), (6, g_n v6), (7, g_n (v7 + 1))] [] M (g_qI Q)))) : g_Run d 70 158 [(0, .ref a0), (1, .ref a1), (2, g_n v2), (3, .ref a3), (4, g_n v4), (5, g_n v5), (6, g_n v6), (7, g_n v7), (8, g_n v8), (9, g_n v9), (10, g_n v10)] [] M (g_qI Q) := by
  refine g_Run.ok fun hok => ?_
  replace h := h hok
  refine r_iload x_70_158 rfl ?_
  refine r_ldc x_70_160 (v := g_n 100000) rfl ?_
  refine r_ic_ge x_70_162 (t := 214) (by decide +kernel) hv10 (g_Rk rfl) (fun hc => ?_) (fun hc => ?_)
  · replace h := h.2 hc
    obtain ⟨h1, h⟩ := h
    refine r_iinc x_70_214 (by decide +kernel) rfl rfl (lv1 := [(0, .ref a0), (1, .ref a1), (2, g_n v2), (3, .ref a3), (4, g_n v4), (5, g_n v5), (6, g_n v6), (7, g_n (v7 + 1)), (8, g_n v8), (9, g_n v9), (10, g_n v10)]) rfl ?_
    refine r_goto x_70_217 (t := 51) (by decide +kernel) ?_
    refine g_drop [0, 1, 2, 3, 4, 5, 6, 7] (lv1 := [(0, .ref a0), (1, .ref a1), (2, g_n v2), (3, .ref a3), (4, g_n v4), (5, g_n v5), (6, g_n v6), (7, g_n (v7 + 1))]) rfl ?_
    exact h
  · replace h := h.1 hc
    refine r_iload x_70_165 rfl ?_
    refine r_iload x_70_167 rfl ?_
    refine r_ic_eq x_70_169 (t := 214) (by decide +kernel) hv9 hv8 (fun hc => ?_) (fun hc => ?_)
    · replace h := h.1 hc
      obtain ⟨h2, h⟩ := h
      refine r_iinc x_70_214 (by decide +kernel) rfl rfl (lv1 := [(0, .ref a0), (1, .ref a1), (2, g_n v2), (3, .ref a3), (4, g_n v4), (5, g_n v5), (6, g_n v6), (7, g_n (v7 + 1)), (8, g_n v8), (9, g_n v9), (10, g_n v10)]) rfl ?_
      refine r_goto x_70_217 (t := 51) (by decide +kernel) ?_
      refine g_drop [0, 1, 2, 3, 4, 5, 6, 7] (lv1 := [(0, .ref a0), (1, .ref a1), (2, g_n v2), (3, .ref a3), (4, g_n v4), (5, g_n v5), (6, g_n v6), (7, g_n (v7 + 1))]) rfl ?_
      exact h
    · replace h := h.2 hc
      refine r_aload_n x_70_172 rfl ?_
      obtain ⟨hO3, h⟩ := h
      obtain ⟨b4, hb5, h⟩ := h
      refine r_getR x_70_173 rfl (ci := 3) (k := 1) (ns := 0) (by decide +kernel) (by decide) rfl (kz := 1) rfl hO3 hb5 ?_
      refine r_iload x_70_176 rfl ?_
      refine r_invS x_70_178 (z := 108) (ns := 1) (by decide +kernel) (as := [.ref b4, g_n v9]) (r := []) rfl rfl rfl ?_
      refine r_callI h fun r9 M6 hx7 hok8 hr10 h => ?_
      replace h := h hx7 hok8 hr10
      replace hO3 := hO3.up hx7
      refine r_if_eq x_70_181 (t := 214) (by decide +kernel) hr10 (fun hc => ?_) (fun hc => ?_)
      · replace h := h.1 hc
        obtain ⟨h11, h⟩ := h
        refine r_iinc x_70_214 (by decide +kernel) rfl rfl (lv1 := [(0, .ref a0), (1, .ref a1), (2, g_n v2), (3, .ref a3), (4, g_n v4), (5, g_n v5), (6, g_n v6), (7, g_n (v7 + 1)), (8, g_n v8), (9, g_n v9), (10, g_n v10)]) rfl ?_
        refine r_goto x_70_217 (t := 51) (by decide +kernel) ?_
        refine g_drop [0, 1, 2, 3, 4, 5, 6, 7] (lv1 := [(0, .ref a0), (1, .ref a1), (2, g_n v2), (3, .ref a3), (4, g_n v4), (5, g_n v5), (6, g_n v6), (7, g_n (v7 + 1))]) rfl ?_
        exact h
      · replace h := h.2 hc
        refine r_aload_n x_70_184 rfl ?_
        refine r_aload_n x_70_185 rfl ?_
        refine r_iload x_70_186 rfl ?_
        refine r_iload x_70_188 rfl ?_
        refine r_iload x_70_190 rfl ?_
        refine r_invV x_70_192 (z := 71) (ns := 0) (by decide +kernel) (as := [.ref a3, g_n v6, g_n v9, g_n v4]) (r := []) rfl rfl rfl hO3 rfl rfl ?_
        refine r_callI h fun r15 M12 hx13 hok14 hr16 h => ?_
        replace h := h hx13 hok14 hr16
        replace hO3 := hO3.up hx13
        refine r_istore x_70_195 (by decide +kernel) rfl (lv1 := [(0, .ref a0), (1, .ref a1), (2, g_n v2), (3, .ref a3), (4, g_n v4), (5, g_n v5), (6, g_n r15), (7, g_n v7), (8, g_n v8), (9, g_n v9), (10, g_n v10)]) rfl ?_
        refine r_aload_n x_70_197 rfl ?_
        obtain ⟨b17, hb18, h⟩ := h
        refine r_getR x_70_198 rfl (ci := 3) (k := 1) (ns := 0) (by decide +kernel) (by decide) rfl (kz := 1) rfl hO3 hb18 ?_
        refine r_iload x_70_201 rfl ?_
        refine r_invS x_70_203 (z := 111) (ns := 1) (by decide +kernel) (as := [.ref b17, g_n v9]) (r := []) rfl rfl rfl ?_
        refine r_callI h fun r22 M19 hx20 hok21 hr23 h => ?_
        replace h := h hx20 hok21 hr23
        replace hO3 := hO3.up hx20
        refine r_istore x_70_206 (by decide +kernel) rfl (lv1 := [(0, .ref a0), (1, .ref a1), (2, g_n v2), (3, .ref a3), (4, g_n v4), (5, g_n v5), (6, g_n r15), (7, g_n v7), (8, g_n v8), (9, g_n r22), (10, g_n v10)]) rfl ?_
        obtain ⟨h24, h⟩ := h
        refine r_iinc x_70_208 (by decide +kernel) rfl rfl (lv1 := [(0, .ref a0), (1, .ref a1), (2, g_n v2), (3, .ref a3), (4, g_n v4), (5, g_n v5), (6, g_n r15), (7, g_n v7), (8, g_n v8), (9, g_n r22), (10, g_n (v10 + 1))]) rfl ?_
        refine r_goto x_70_211 (t := 158) (by decide +kernel) ?_
        exact h
theorem m_X3_addKey {d : Nat} {M : g_M} {Q : Int → g_M → Prop} {a0 : Nat} {a1 : Nat} {v2 : Int} (hv2 : g_InR v2) {v3 : Int} (hv3 : g_InR v3) {v4 : Int} (hv4 : g_InR v4) (h : g_ok M → g_O M a0 3 ∧ ((g_i M a0 13 = 0 → ∃ b2, g_r M a0 1 = some b2 ∧ g_Call d 111 [.ref b2, g_n v3] M (g_qI fun r7 M4 => g_ext M M4 → g_ok M4 → g_InR r7 → ∃ b9, g_r M4 a0 1 = some b9 ∧ g_Call d 110 [.ref b9, g_n v3] M4 (g_qI fun r14 M11 => g_ext M4 M11 → g_ok M11 → g_InR r14 → g_InR (r7 - r14) ∧ ((64 < r7 - r14 → g_Run d 71 36 [(0, .ref a0), (1, .ref a1), (2, g_n v2), (3, g_n v3), (4, g_n v4)] [.ref a0] M11 (g_qI Q)) ∧ (¬ 64 < r7 - r14 → ∃ n17, g_A M11 a1 1 n17 ∧ g_InR n17 ∧ ((v2 < n17 → (∀ M20, M20 = g_wi M11 a0 13 0 → g_ok M20 → g_InR n17 ∧ g_InR (n17 - 1) ∧ g_Run d 71 54 [(0, .ref a0), (1, .ref a1), (2, g_n v2), (3, g_n v3), (4, g_n v4), (5, g_n (min v2 (n17 - 1)))] [] M20 (g_qI Q))) ∧ (¬ v2 < n17 → g_Run d 71 36 [(0, .ref a0), (1, .ref a1), (2, g_n v2), (3, g_n v3), (4, g_n v4)] [.ref a0] M11 (g_qI Q)))))))) ∧ (¬ g_i M a0 13 = 0 → g_Run d 71 36 [(0, .ref a0), (1, .ref a1), (2, g_n v2), (3, g_n v3), (4, g_n v4)] [.ref a0] M (g_qI Q)))) : g_Call (d + 1) 71 [.ref a0, .ref a1, g_n v2, g_n v3, g_n v4] M (g_qI Q) := by
  refine g_Call.ok fun hok0 => ?_
  replace h := h hok0
  refine r_body rfl (lv := [(0, .ref a0), (1, .ref a1), (2, g_n v2), (3, g_n v3), (4, g_n v4)]) rfl ?_
  refine g_Run.ok fun hok => ?_
  refine r_aload_n x_71_0 rfl ?_
  refine r_aload_n x_71_1 rfl ?_
  obtain ⟨hO1, h⟩ := h
  refine r_getI x_71_2 rfl (ci := 3) (k := 13) (ns := 0) (by decide +kernel) (by decide) rfl (kz := 13) rfl hO1 ?_
  refine r_if_ne x_71_5 (t := 36) (by decide +kernel) (hok.1 _ _) (fun hc => ?_) (fun hc => ?_)
  · replace h := h.2 hc
    exact h
  · replace h := h.1 hc
    refine r_aload_n x_71_8 rfl ?_
    obtain ⟨b2, hb3, h⟩ := h
    refine r_getR x_71_9 rfl (ci := 3) (k := 1) (ns := 0) (by decide +kernel) (by decide) rfl (kz := 1) rfl hO1 hb3 ?_
    refine r_iload_n x_71_12 rfl ?_
    refine r_invS x_71_13 (z := 111) (ns := 1) (by decide +kernel) (as := [.ref b2, g_n v3]) (r := [.ref a0]) rfl rfl rfl ?_
    refine r_callI h fun r7 M4 hx5 hok6 hr8 h => ?_
    replace h := h hx5 hok6 hr8
    replace hO1 := hO1.up hx5
    refine r_aload_n x_71_16 rfl ?_
    obtain ⟨b9, hb10, h⟩ := h
    refine r_getR x_71_17 rfl (ci := 3) (k := 1) (ns := 0) (by decide +kernel) (by decide) rfl (kz := 1) rfl hO1 hb10 ?_
    refine r_iload_n x_71_20 rfl ?_
    refine r_invS x_71_21 (z := 110) (ns := 1) (by decide +kernel) (as := [.ref b9, g_n v3]) (r := [g_n r7, .ref a0]) rfl rfl rfl ?_
    refine r_callI h fun r14 M11 hx12 hok13 hr15 h => ?_
    replace h := h hx12 hok13 hr15
    replace hO1 := hO1.up hx12
    refine r_isub x_71_24 ?_
    obtain ⟨h16, h⟩ := h
    refine r_bipush x_71_25 (x := 64) rfl ?_
    refine r_ic_gt x_71_27 (t := 36) (by decide +kernel) h16 (g_Rk rfl) (fun hc => ?_) (fun hc => ?_)
    · replace h := h.1 hc
      exact h
    · replace h := h.2 hc
      refine r_iload_n x_71_30 rfl ?_
      refine r_aload_n x_71_31 rfl ?_
      obtain ⟨n17, hA18, h⟩ := h
      refine r_alen x_71_32 hA18 ?_
      obtain ⟨h19, h⟩ := h
      refine r_ic_lt x_71_33 (t := 40) (by decide +kernel) hv2 h19 (fun hc => ?_) (fun hc => ?_)
      · replace h := h.1 hc
        refine r_iconst x_71_40 ?_
        refine r_putI x_71_41 (ci := 3) (k := 13) (ns := 0) (by decide +kernel) (by decide) (g_fZ (Or.inl rfl) (by decide +kernel)) rfl (g_Rk rfl) (g_zx (Or.inl rfl) rfl).2 (kz := 13) rfl hO1 ?_
        obtain ⟨M20, hM21⟩ : ∃ Mz, Mz = g_wi M11 a0 13 0 := ⟨_, rfl⟩
        rw [← hM21]
        refine g_Run.ok fun hok22 => ?_
        replace h := h M20 hM21 hok22
        have hx23 := g_extW hM21
        replace hO1 := hO1.up hx23
        replace hA18 := hA18.up hx23
        refine r_iload_n x_71_44 rfl ?_
        refine r_aload_n x_71_45 rfl ?_
        refine r_alen x_71_46 hA18 ?_
        obtain ⟨h24, h⟩ := h
        refine r_iconst x_71_47 ?_
        refine r_isub x_71_48 ?_
        obtain ⟨h25, h⟩ := h
        refine r_min x_71_49 rfl rfl rfl rfl hv2 h25 ?_
        refine r_istore x_71_52 (by decide +kernel) rfl (lv1 := [(0, .ref a0), (1, .ref a1), (2, g_n v2), (3, g_n v3), (4, g_n v4), (5, g_n (min v2 (n17 - 1)))]) rfl ?_
        exact h
      · replace h := h.2 hc
        exact h
theorem s_X3_addKey_36 {d : Nat} {M : g_M} {Q : Int → g_M → Prop} {a0 : Nat} {a1 : Nat} {v2 : Int} (hv2 : g_InR v2) {v3 : Int} (hv3 : g_InR v3) {v4 : Int} (hv4 : g_InR v4) {c0 : Nat} (h : g_ok M → g_O M c0 3 ∧ (∀ M2, M2 = g_wi M c0 13 1 → g_ok M2 → ∃ n6, g_A M2 a1 1 n6 ∧ g_InR n6 ∧ g_InR (n6 - 1) ∧ g_Run d 71 54 [(0, .ref a0), (1, .ref a1), (2, g_n v2), (3, g_n v3), (4, g_n v4), (5, g_n (min v2 (n6 - 1)))] [] M2 (g_qI Q))) : g_Run d 71 36 [(0, .ref a0), (1, .ref a1), (2, g_n v2), (3, g_n v3), (4, g_n v4)] [.ref c0] M (g_qI Q) := by
  refine g_Run.ok fun hok => ?_
  replace h := h hok
  refine r_iconst x_71_36 ?_
  refine r_goto x_71_37 (t := 41) (by decide +kernel) ?_
  obtain ⟨hO1, h⟩ := h
  refine r_putI x_71_41 (ci := 3) (k := 13) (ns := 0) (by decide +kernel) (by decide) (g_fZ (Or.inr rfl) (by decide +kernel)) rfl (g_Rk rfl) (g_zx (Or.inr rfl) rfl).2 (kz := 13) rfl hO1 ?_
  obtain ⟨M2, hM3⟩ : ∃ Mz, Mz = g_wi M c0 13 1 := ⟨_, rfl⟩
  rw [← hM3]
  refine g_Run.ok fun hok4 => ?_
  replace h := h M2 hM3 hok4
  have hx5 := g_extW hM3
  replace hO1 := hO1.up hx5
  refine r_iload_n x_71_44 rfl ?_
  refine r_aload_n x_71_45 rfl ?_
  obtain ⟨n6, hA7, h⟩ := h
  refine r_alen x_71_46 hA7 ?_
  obtain ⟨h8, h⟩ := h
  refine r_iconst x_71_47 ?_
  refine r_isub x_71_48 ?_
  obtain ⟨h9, h⟩ := h
  refine r_min x_71_49 rfl rfl rfl rfl hv2 h9 ?_
  refine r_istore x_71_52 (by decide +kernel) rfl (lv1 := [(0, .ref a0), (1, .ref a1), (2, g_n v2), (3, g_n v3), (4, g_n v4), (5, g_n (min v2 (n6 - 1)))]) rfl ?_
  exact h
theorem s_X3_addKey_54 {d : Nat} {M : g_M} {Q : Int → g_M → Prop} {a0 : Nat} {a1 : Nat} {v2 : Int} (hv2 : g_InR v2) {v3 : Int} (hv3 : g_InR v3) {v4 : Int} (hv4 : g_InR v4) {v5 : Int} (hv5 : g_InR v5) (h : g_ok M → ((0 < v5 → g_O M a0 3 ∧ ∃ b2, g_r M a0 1 = some b2 ∧ g_InR (v5 - 1) ∧ ∃ n5, g_A M a1 1 n5 ∧ ((0 : Int) ≤ v5 - 1 ∧ (v5 - 1 : Int) < n5) ∧ ∃ b8, g_r M a0 1 = some b8 ∧ g_Call d 121 [.ref b2, g_n (g_i M a1 (v5 - 1)), .ref b8, g_n v3, g_n 0] M (g_qI fun r13 M10 => g_ext M M10 → g_ok M10 → g_InR r13 → g_InR (r13 * v4) ∧ ((r13 * v4 = 0 → Q v2 M10) ∧ (¬ r13 * v4 = 0 → ((r13 * v4 < 0 → g_Run d 71 104 [(0, .ref a0), (1, .ref a1), (2, g_n v2), (3, g_n v3), (4, g_n v4), (5, g_n v5)] [] M10 (g_qI Q)) ∧ (¬ r13 * v4 < 0 → g_InR (v5 + (-1)) ∧ g_Run d 71 54 [(0, .ref a0), (1, .ref a1), (2, g_n v2), (3, g_n v3), (4, g_n v4), (5, g_n (v5 + (-1)))] [] M10 (g_qI Q))))))) ∧ (¬ 0 < v5 → g_Run d 71 104 [(0, .ref a0), (1, .ref a1), (2, g_n v2), (3, g_n v3), (4, g_n v4), (5, g_n v5)] [] M (g_qI Q)))) : g_Run d 71 54 [(0, .ref a0), (1, .ref a1), (2, g_n v2), (3, g_n v3), (4, g_n v4), (5, g_n v5)] [] M (g_qI Q) := by
  refine g_Run.ok fun hok => ?_
  replace h := h hok
  refine r_iload x_71_54 rfl ?_
  refine r_if_le x_71_56 (t := 104) (by decide +kernel) hv5 (fun hc => ?_) (fun hc => ?_)
  · replace h := h.2 hc
    exact h
  · replace h := h.1 hc
    refine r_aload_n x_71_59 rfl ?_
    obtain ⟨hO1, h⟩ := h
    obtain ⟨b2, hb3, h⟩ := h
    refine r_getR x_71_60 rfl (ci := 3) (k := 1) (ns := 0) (by decide +kernel) (by decide) rfl (kz := 1) rfl hO1 hb3 ?_
    refine r_aload_n x_71_63 rfl ?_
    refine r_iload x_71_64 rfl ?_
    refine r_iconst x_71_66 ?_
    refine r_isub x_71_67 ?_
    obtain ⟨h4, h⟩ := h
    obtain ⟨n5, hA6, h⟩ := h
    obtain ⟨h7, h⟩ := h
    refine r_iald x_71_68 hA6 h4 h7.1 h7.2 ?_
    refine r_aload_n x_71_69 rfl ?_
    obtain ⟨b8, hb9, h⟩ := h
    refine r_getR x_71_70 rfl (ci := 3) (k := 1) (ns := 0) (by decide +kernel) (by decide) rfl (kz := 1) rfl hO1 hb9 ?_
    refine r_iload_n x_71_73 rfl ?_
    refine r_iconst x_71_74 ?_
    refine r_invS x_71_75 (z := 121) (ns := 1) (by decide +kernel) (as := [.ref b2, g_n (g_i M a1 (v5 - 1)), .ref b8, g_n v3, g_n 0]) (r := []) rfl rfl rfl ?_
    refine r_callI h fun r13 M10 hx11 hok12 hr14 h => ?_
    replace h := h hx11 hok12 hr14
    replace hO1 := hO1.up hx11
    replace hA6 := hA6.up hx11
    refine r_iload x_71_78 rfl ?_
    refine r_imul x_71_80 ?_
    obtain ⟨h15, h⟩ := h
    refine r_istore x_71_81 (by decide +kernel) rfl (lv1 := [(0, .ref a0), (1, .ref a1), (2, g_n v2), (3, g_n v3), (4, g_n v4), (5, g_n v5), (6, g_n (r13 * v4))]) rfl ?_
    refine r_iload x_71_83 rfl ?_
    refine r_if_ne x_71_85 (t := 90) (by decide +kernel) h15 (fun hc => ?_) (fun hc => ?_)
    · replace h := h.2 hc
      refine r_iload x_71_90 rfl ?_
      refine r_if_ge x_71_92 (t := 98) (by decide +kernel) h15 (fun hc => ?_) (fun hc => ?_)
      · replace h := h.2 hc
        obtain ⟨h16, h⟩ := h
        refine r_iinc x_71_98 (by decide +kernel) rfl rfl (lv1 := [(0, .ref a0), (1, .ref a1), (2, g_n v2), (3, g_n v3), (4, g_n v4), (5, g_n (v5 + (-1))), (6, g_n (r13 * v4))]) rfl ?_
        refine r_goto x_71_101 (t := 54) (by decide +kernel) ?_
        refine g_drop [0, 1, 2, 3, 4, 5] (lv1 := [(0, .ref a0), (1, .ref a1), (2, g_n v2), (3, g_n v3), (4, g_n v4), (5, g_n (v5 + (-1)))]) rfl ?_
        exact h
      · replace h := h.1 hc
        refine r_goto x_71_95 (t := 104) (by decide +kernel) ?_
        refine g_drop [0, 1, 2, 3, 4, 5] (lv1 := [(0, .ref a0), (1, .ref a1), (2, g_n v2), (3, g_n v3), (4, g_n v4), (5, g_n v5)]) rfl ?_
        exact h
    · replace h := h.1 hc
      refine r_iload_n x_71_88 rfl ?_
      exact r_retI x_71_89 rfl hv2 h
theorem s_X3_addKey_104 {d : Nat} {M : g_M} {Q : Int → g_M → Prop} {a0 : Nat} {a1 : Nat} {v2 : Int} (hv2 : g_InR v2) {v3 : Int} (hv3 : g_InR v3) {v4 : Int} (hv4 : g_InR v4) {v5 : Int} (hv5 : g_InR v5) (h : g_ok M → ∃ n1, g_A M a1 1 n1 ∧ g_InR n1 ∧ ((v2 < n1 → g_InR (v5 + 1) ∧ g_InR (v2 - v5) ∧ ((0 : Int) ≤ v5 ∧ (0 : Int) ≤ v5 + 1 ∧ (0 : Int) ≤ v2 - v5 ∧ (v5 : Int) + (v2 - v5) ≤ n1 ∧ ((v5 + 1) : Int) + (v2 - v5) ≤ n1) ∧ (∀ M7, M7 = g_cp M a1 a1 v5 (v5 + 1) (v2 - v5) → g_ok M7 → ((0 : Int) ≤ v5 ∧ (v5 : Int) < n1) ∧ (∀ M12, M12 = g_wi M7 a1 v5 v3 → g_ok M12 → g_InR (v2 + 1) ∧ Q (v2 + 1) M12))) ∧ (¬ v2 < n1 → Q v2 M))) : g_Run d 71 104 [(0, .ref a0), (1, .ref a1), (2, g_n v2), (3, g_n v3), (4, g_n v4), (5, g_n v5)] [] M (g_qI Q) := by
  refine g_Run.ok fun hok => ?_
  replace h := h hok
  refine r_iload_n x_71_104 rfl ?_
  refine r_aload_n x_71_105 rfl ?_
  obtain ⟨n1, hA2, h⟩ := h
  refine r_alen x_71_106 hA2 ?_
  obtain ⟨h3, h⟩ := h
  refine r_ic_lt x_71_107 (t := 112) (by decide +kernel) hv2 h3 (fun hc => ?_) (fun hc => ?_)
  · replace h := h.1 hc
    refine r_aload_n x_71_112 rfl ?_
    refine r_iload x_71_113 rfl ?_
    refine r_aload_n x_71_115 rfl ?_
    refine r_iload x_71_116 rfl ?_
    refine r_iconst x_71_118 ?_
    refine r_iadd x_71_119 ?_
    obtain ⟨h4, h⟩ := h
    refine r_iload_n x_71_120 rfl ?_
    refine r_iload x_71_121 rfl ?_
    refine r_isub x_71_123 ?_
    obtain ⟨h5, h⟩ := h
    obtain ⟨h6, h⟩ := h
    refine r_copy x_71_124 rfl rfl rfl rfl rfl rfl (by decide) hA2 hA2 hv5 h4 h5 h6.1 h6.2.1 h6.2.2.1 h6.2.2.2.1 h6.2.2.2.2 ?_
    obtain ⟨M7, hM8⟩ : ∃ Mz, Mz = g_cp M a1 a1 v5 (v5 + 1) (v2 - v5) := ⟨_, rfl⟩
    rw [← hM8]
    refine g_Run.ok fun hok9 => ?_
    replace h := h M7 hM8 hok9
    have hx10 := g_extC hM8
    replace hA2 := hA2.up hx10
    refine r_aload_n x_71_127 rfl ?_
    refine r_iload x_71_128 rfl ?_
    refine r_iload_n x_71_130 rfl ?_
    obtain ⟨h11, h⟩ := h
    refine r_iast x_71_131 hA2 hv5 h11.1 h11.2 hv3 ?_
    obtain ⟨M12, hM13⟩ : ∃ Mz, Mz = g_wi M7 a1 v5 v3 := ⟨_, rfl⟩
    rw [← hM13]
    refine g_Run.ok fun hok14 => ?_
    replace h := h M12 hM13 hok14
    have hx15 := g_extW hM13
    replace hA2 := hA2.up hx15
    refine r_iload_n x_71_132 rfl ?_
    refine r_iconst x_71_133 ?_
    refine r_iadd x_71_134 ?_
    obtain ⟨h16, h⟩ := h
    exact r_retI x_71_135 rfl h16 h
  · replace h := h.2 hc
    refine r_iload_n x_71_110 rfl ?_
    exact r_retI x_71_111 rfl hv2 h
theorem m_X3_takesIn {d : Nat} {M : g_M} {Q : g_M → Prop} {a0 : Nat} {a1 : Nat} {a2 : Nat} (h : g_ok M → g_Run d 72 2 [(0, .ref a0), (1, .ref a1), (2, .ref a2), (3, g_n 0)] [] M (g_qV Q)) : g_Call (d + 1) 72 [.ref a0, .ref a1, .ref a2] M (g_qV Q) := by
  refine g_Call.ok fun hok0 => ?_
  replace h := h hok0
  refine r_body rfl (lv := [(0, .ref a0), (1, .ref a1), (2, .ref a2)]) rfl ?_
  refine g_Run.ok fun hok => ?_
  refine r_iconst x_72_0 ?_
  refine r_istore_n x_72_1 (by decide +kernel) rfl (lv1 := [(0, .ref a0), (1, .ref a1), (2, .ref a2), (3, g_n 0)]) rfl ?_
  exact h
theorem s_X3_takesIn_2 {d : Nat} {M : g_M} {Q : g_M → Prop} {a0 : Nat} {a1 : Nat} {a2 : Nat} {v3 : Int} (hv3 : g_InR v3) (h : g_ok M → g_O M a1 8 ∧ ((v3 < g_i M a1 6 → ∃ n2, g_A M a2 2 n2 ∧ g_InR n2 ∧ ((v3 < n2 → g_O M a0 3 ∧ ((g_i M a0 9 = 0 → Q M) ∧ (¬ g_i M a0 9 = 0 → ((0 : Int) ≤ v3 ∧ (v3 : Int) < n2) ∧ ((g_i M a2 v3 = 0 → g_InR (v3 + 1) ∧ g_Run d 72 2 [(0, .ref a0), (1, .ref a1), (2, .ref a2), (3, g_n (v3 + 1))] [] M (g_qV Q)) ∧ (¬ g_i M a2 v3 = 0 → ∃ b7, g_r M a1 2 = some b7 ∧ ∃ n9, g_A M b7 1 n9 ∧ ((0 : Int) ≤ v3 ∧ (v3 : Int) < n9) ∧ g_Call d 69 [.ref a0, g_n (g_i M b7 v3)] M (g_qI fun r15 M12 => g_ext M M12 → g_ok M12 → g_InR r15 → ((g_i M12 a0 11 = 0 → ((1 < g_i M12 a0 7 → g_Run d 72 64 [(0, .ref a0), (1, .ref a1), (2, .ref a2), (3, g_n v3)] [g_n 1, .ref a0] M12 (g_qV Q)) ∧ (¬ 1 < g_i M12 a0 7 → g_Run d 72 64 [(0, .ref a0), (1, .ref a1), (2, .ref a2), (3, g_n v3)] [g_n 0, .ref a0] M12 (g_qV Q)))) ∧ (¬ g_i M12 a0 11 = 0 → g_Run d 72 64 [(0, .ref a0), (1, .ref a1), (2, .ref a2), (3, g_n v3)] [g_n 1, .ref a0] M12 (g_qV Q))))))))) ∧ (¬ v3 < n2 → Q M))) ∧ (¬ v3 < g_i M a1 6 → Q M))) : g_Run d 72 2 [(0, .ref a0), (1, .ref a1), (2, .ref a2), (3, g_n v3)] [] M (g_qV Q) := by
  refine g_Run.ok fun hok => ?_
  replace h := h hok
  refine r_iload_n x_72_2 rfl ?_
  refine r_aload_n x_72_3 rfl ?_
  obtain ⟨hO1, h⟩ := h
  refine r_getI x_72_4 rfl (ci := 8) (k := 6) (ns := 1) (by decide +kernel) (by decide) rfl (kz := 6) rfl hO1 ?_
  refine r_ic_ge x_72_7 (t := 164) (by decide +kernel) hv3 (hok.1 _ _) (fun hc => ?_) (fun hc => ?_)
  · replace h := h.2 hc
    exact r_retV x_72_164 rfl h
  · replace h := h.1 hc
    refine r_iload_n x_72_10 rfl ?_
    refine r_aload_n x_72_11 rfl ?_
    obtain ⟨n2, hA3, h⟩ := h
    refine r_alen x_72_12 hA3 ?_
    obtain ⟨h4, h⟩ := h
    refine r_ic_ge x_72_13 (t := 164) (by decide +kernel) hv3 h4 (fun hc => ?_) (fun hc => ?_)
    · replace h := h.2 hc
      exact r_retV x_72_164 rfl h
    · replace h := h.1 hc
      refine r_aload_n x_72_16 rfl ?_
      obtain ⟨hO5, h⟩ := h
      refine r_getI x_72_17 rfl (ci := 3) (k := 9) (ns := 0) (by decide +kernel) (by decide) rfl (kz := 9) rfl hO5 ?_
      refine r_if_eq x_72_20 (t := 164) (by decide +kernel) (hok.1 _ _) (fun hc => ?_) (fun hc => ?_)
      · replace h := h.1 hc
        exact r_retV x_72_164 rfl h
      · replace h := h.2 hc
        refine r_aload_n x_72_23 rfl ?_
        refine r_iload_n x_72_24 rfl ?_
        obtain ⟨h6, h⟩ := h
        refine r_bald x_72_25 (Or.inr rfl) hA3 hv3 h6.1 h6.2 ?_
        refine r_if_ne x_72_26 (t := 32) (by decide +kernel) (hok.1 _ _) (fun hc => ?_) (fun hc => ?_)
        · replace h := h.2 hc
          refine r_aload_n x_72_32 rfl ?_
          refine r_aload_n x_72_33 rfl ?_
          obtain ⟨b7, hb8, h⟩ := h
          refine r_getR x_72_34 rfl (ci := 8) (k := 2) (ns := 1) (by decide +kernel) (by decide) rfl (kz := 2) rfl hO1 hb8 ?_
          refine r_iload_n x_72_37 rfl ?_
          obtain ⟨n9, hA10, h⟩ := h
          obtain ⟨h11, h⟩ := h
          refine r_iald x_72_38 hA10 hv3 h11.1 h11.2 ?_
          refine r_invV x_72_39 (z := 69) (ns := 0) (by decide +kernel) (as := [g_n (g_i M b7 v3)]) (r := []) rfl rfl rfl hO5 rfl rfl ?_
          refine r_callI h fun r15 M12 hx13 hok14 hr16 h => ?_
          replace h := h hx13 hok14 hr16
          replace hO1 := hO1.up hx13
          replace hO5 := hO5.up hx13
          replace hA3 := hA3.up hx13
          replace hA10 := hA10.up hx13
          refine r_pop x_72_42 rfl ?_
          refine r_aload_n x_72_43 rfl ?_
          refine r_aload_n x_72_44 rfl ?_
          refine r_getI x_72_45 rfl (ci := 3) (k := 11) (ns := 0) (by decide +kernel) (by decide) rfl (kz := 11) rfl hO5 ?_
          refine r_if_ne x_72_48 (t := 59) (by decide +kernel) (hok14.1 _ _) (fun hc => ?_) (fun hc => ?_)
          · replace h := h.2 hc
            refine r_iconst x_72_59 ?_
            refine r_goto x_72_60 (t := 64) (by decide +kernel) ?_
            exact h
          · replace h := h.1 hc
            refine r_aload_n x_72_51 rfl ?_
            refine r_getI x_72_52 rfl (ci := 3) (k := 7) (ns := 0) (by decide +kernel) (by decide) rfl (kz := 7) rfl hO5 ?_
            refine r_iconst x_72_55 ?_
            refine r_ic_le x_72_56 (t := 63) (by decide +kernel) (hok14.1 _ _) (g_Rk rfl) (fun hc => ?_) (fun hc => ?_)
            · replace h := h.2 hc
              refine r_iconst x_72_63 ?_
              exact h
            · replace h := h.1 hc
              refine r_iconst x_72_59 ?_
              refine r_goto x_72_60 (t := 64) (by decide +kernel) ?_
              exact h
        · replace h := h.1 hc
          refine r_goto x_72_29 (t := 158) (by decide +kernel) ?_
          obtain ⟨h17, h⟩ := h
          refine r_iinc x_72_158 (by decide +kernel) rfl rfl (lv1 := [(0, .ref a0), (1, .ref a1), (2, .ref a2), (3, g_n (v3 + 1))]) rfl ?_
          refine r_goto x_72_161 (t := 2) (by decide +kernel) ?_
          exact h
theorem s_X3_takesIn_64 {d : Nat} {M : g_M} {Q : g_M → Prop} {a0 : Nat} {a1 : Nat} {a2 : Nat} {v3 : Int} (hv3 : g_InR v3) {w0 : Int} (hw0 : g_InR w0) {c1 : Nat} (h : g_ok M → g_O M c1 3 ∧ (w0 = 0 ∨ w0 = 1) ∧ (∀ M3, M3 = g_wi M c1 11 w0 → g_ok M3 → g_O M3 a0 3 ∧ ((g_i M3 a0 12 = 0 → ((1 < g_i M3 a0 8 → (∀ M16, M16 = g_wi M3 a0 12 1 → g_ok M16 → g_Run d 72 94 [(0, .ref a0), (1, .ref a1), (2, .ref a2), (3, g_n v3), (4, g_n 0)] [] M16 (g_qV Q))) ∧ (¬ 1 < g_i M3 a0 8 → (∀ M12, M12 = g_wi M3 a0 12 0 → g_ok M12 → g_Run d 72 94 [(0, .ref a0), (1, .ref a1), (2, .ref a2), (3, g_n v3), (4, g_n 0)] [] M12 (g_qV Q))))) ∧ (¬ g_i M3 a0 12 = 0 → (∀ M8, M8 = g_wi M3 a0 12 1 → g_ok M8 → g_Run d 72 94 [(0, .ref a0), (1, .ref a1), (2, .ref a2), (3, g_n v3), (4, g_n 0)] [] M8 (g_qV Q)))))) : g_Run d 72 64 [(0, .ref a0), (1, .ref a1), (2, .ref a2), (3, g_n v3)] [g_n w0, .ref c1] M (g_qV Q) := by
  refine g_Run.ok fun hok => ?_
  replace h := h hok
  obtain ⟨hO1, h⟩ := h
  obtain ⟨h2, h⟩ := h
  refine r_putI x_72_64 (ci := 3) (k := 11) (ns := 0) (by decide +kernel) (by decide) (g_fZ h2 (by decide +kernel)) rfl hw0 (g_zx h2 rfl).2 (kz := 11) rfl hO1 ?_
  obtain ⟨M3, hM4⟩ : ∃ Mz, Mz = g_wi M c1 11 w0 := ⟨_, rfl⟩
  rw [← hM4]
  refine g_Run.ok fun hok5 => ?_
  replace h := h M3 hM4 hok5
  have hx6 := g_extW hM4
  replace hO1 := hO1.up hx6
  refine r_aload_n x_72_67 rfl ?_
  refine r_aload_n x_72_68 rfl ?_
  obtain ⟨hO7, h⟩ := h
  refine r_getI x_72_69 rfl (ci := 3) (k := 12) (ns := 0) (by decide +kernel) (by decide) rfl (kz := 12) rfl hO7 ?_
  refine r_if_ne x_72_72 (t := 83) (by decide +kernel) (hok5.1 _ _) (fun hc => ?_) (fun hc => ?_)
  · replace h := h.2 hc
    refine r_iconst x_72_83 ?_
    refine r_goto x_72_84 (t := 88) (by decide +kernel) ?_
    refine r_putI x_72_88 (ci := 3) (k := 12) (ns := 0) (by decide +kernel) (by decide) (g_fZ (Or.inr rfl) (by decide +kernel)) rfl (g_Rk rfl) (g_zx (Or.inr rfl) rfl).2 (kz := 12) rfl hO7 ?_
    obtain ⟨M8, hM9⟩ : ∃ Mz, Mz = g_wi M3 a0 12 1 := ⟨_, rfl⟩
    rw [← hM9]
    refine g_Run.ok fun hok10 => ?_
    replace h := h M8 hM9 hok10
    have hx11 := g_extW hM9
    replace hO1 := hO1.up hx11
    replace hO7 := hO7.up hx11
    refine r_iconst x_72_91 ?_
    refine r_istore x_72_92 (by decide +kernel) rfl (lv1 := [(0, .ref a0), (1, .ref a1), (2, .ref a2), (3, g_n v3), (4, g_n 0)]) rfl ?_
    exact h
  · replace h := h.1 hc
    refine r_aload_n x_72_75 rfl ?_
    refine r_getI x_72_76 rfl (ci := 3) (k := 8) (ns := 0) (by decide +kernel) (by decide) rfl (kz := 8) rfl hO7 ?_
    refine r_iconst x_72_79 ?_
    refine r_ic_le x_72_80 (t := 87) (by decide +kernel) (hok5.1 _ _) (g_Rk rfl) (fun hc => ?_) (fun hc => ?_)
    · replace h := h.2 hc
      refine r_iconst x_72_87 ?_
      refine r_putI x_72_88 (ci := 3) (k := 12) (ns := 0) (by decide +kernel) (by decide) (g_fZ (Or.inl rfl) (by decide +kernel)) rfl (g_Rk rfl) (g_zx (Or.inl rfl) rfl).2 (kz := 12) rfl hO7 ?_
      obtain ⟨M12, hM13⟩ : ∃ Mz, Mz = g_wi M3 a0 12 0 := ⟨_, rfl⟩
      rw [← hM13]
      refine g_Run.ok fun hok14 => ?_
      replace h := h M12 hM13 hok14
      have hx15 := g_extW hM13
      replace hO1 := hO1.up hx15
      replace hO7 := hO7.up hx15
      refine r_iconst x_72_91 ?_
      refine r_istore x_72_92 (by decide +kernel) rfl (lv1 := [(0, .ref a0), (1, .ref a1), (2, .ref a2), (3, g_n v3), (4, g_n 0)]) rfl ?_
      exact h
    · replace h := h.1 hc
      refine r_iconst x_72_83 ?_
      refine r_goto x_72_84 (t := 88) (by decide +kernel) ?_
      refine r_putI x_72_88 (ci := 3) (k := 12) (ns := 0) (by decide +kernel) (by decide) (g_fZ (Or.inr rfl) (by decide +kernel)) rfl (g_Rk rfl) (g_zx (Or.inr rfl) rfl).2 (kz := 12) rfl hO7 ?_
      obtain ⟨M16, hM17⟩ : ∃ Mz, Mz = g_wi M3 a0 12 1 := ⟨_, rfl⟩
      rw [← hM17]
      refine g_Run.ok fun hok18 => ?_
      replace h := h M16 hM17 hok18
      have hx19 := g_extW hM17
      replace hO1 := hO1.up hx19
      replace hO7 := hO7.up hx19
      refine r_iconst x_72_91 ?_
      refine r_istore x_72_92 (by decide +kernel) rfl (lv1 := [(0, .ref a0), (1, .ref a1), (2, .ref a2), (3, g_n v3), (4, g_n 0)]) rfl ?_
      exact h
theorem s_X3_takesIn_94 {d : Nat} {M : g_M} {Q : g_M → Prop} {a0 : Nat} {a1 : Nat} {a2 : Nat} {v3 : Int} (hv3 : g_InR v3) {v4 : Int} (hv4 : g_InR v4) (h : g_ok M → g_O M a0 3 ∧ ((v4 < g_i M a0 7 → g_Run d 72 106 [(0, .ref a0), (1, .ref a1), (2, .ref a2), (3, g_n v3), (4, g_n v4), (5, g_n 0)] [] M (g_qV Q)) ∧ (¬ v4 < g_i M a0 7 → g_InR (v3 + 1) ∧ g_Run d 72 2 [(0, .ref a0), (1, .ref a1), (2, .ref a2), (3, g_n (v3 + 1))] [] M (g_qV Q)))) : g_Run d 72 94 [(0, .ref a0), (1, .ref a1), (2, .ref a2), (3, g_n v3), (4, g_n v4)] [] M (g_qV Q) := by
  refine g_Run.ok fun hok => ?_
  replace h := h hok
  refine r_iload x_72_94 rfl ?_
  refine r_aload_n x_72_96 rfl ?_
  obtain ⟨hO1, h⟩ := h
  refine r_getI x_72_97 rfl (ci := 3) (k := 7) (ns := 0) (by decide +kernel) (by decide) rfl (kz := 7) rfl hO1 ?_
  refine r_ic_ge x_72_100 (t := 158) (by decide +kernel) hv4 (hok.1 _ _) (fun hc => ?_) (fun hc => ?_)
  · replace h := h.2 hc
    obtain ⟨h2, h⟩ := h
    refine r_iinc x_72_158 (by decide +kernel) rfl rfl (lv1 := [(0, .ref a0), (1, .ref a1), (2, .ref a2), (3, g_n (v3 + 1)), (4, g_n v4)]) rfl ?_
    refine r_goto x_72_161 (t := 2) (by decide +kernel) ?_
    refine g_drop [0, 1, 2, 3] (lv1 := [(0, .ref a0), (1, .ref a1), (2, .ref a2), (3, g_n (v3 + 1))]) rfl ?_
    exact h
  · replace h := h.1 hc
    refine r_iconst x_72_103 ?_
    refine r_istore x_72_104 (by decide +kernel) rfl (lv1 := [(0, .ref a0), (1, .ref a1), (2, .ref a2), (3, g_n v3), (4, g_n v4), (5, g_n 0)]) rfl ?_
    exact h
theorem s_X3_takesIn_106 {d : Nat} {M : g_M} {Q : g_M → Prop} {a0 : Nat} {a1 : Nat} {a2 : Nat} {v3 : Int} (hv3 : g_InR v3) {v4 : Int} (hv4 : g_InR v4) {v5 : Int} (hv5 : g_InR v5) (h : g_ok M → g_O M a0 3 ∧ ((v5 < g_i M a0 8 → ∃ b3, g_r M a0 4 = some b3 ∧ ∃ b5, g_r M a0 1 = some b5 ∧ ∃ b7, g_r M a0 5 = some b7 ∧ ∃ n9, g_A M b7 1 n9 ∧ ((0 : Int) ≤ v4 ∧ (v4 : Int) < n9) ∧ ∃ b12, g_r M a0 6 = some b12 ∧ ∃ n14, g_A M b12 1 n14 ∧ ((0 : Int) ≤ v5 ∧ (v5 : Int) < n14) ∧ g_O M a1 8 ∧ ∃ b18, g_r M a1 3 = some b18 ∧ ∃ n20, g_A M b18 1 n20 ∧ ((0 : Int) ≤ v3 ∧ (v3 : Int) < n20) ∧ g_O M b3 10 ∧ g_Call d 183 [.ref b3, .ref b5, g_n (g_i M b7 v4), g_n (g_i M b12 v5), g_n (g_i M b18 v3)] M (g_qV fun M24 => g_ext M M24 → g_ok M24 → g_InR (v5 + 1) ∧ g_Run d 72 106 [(0, .ref a0), (1, .ref a1), (2, .ref a2), (3, g_n v3), (4, g_n v4), (5, g_n (v5 + 1))] [] M24 (g_qV Q))) ∧ (¬ v5 < g_i M a0 8 → g_InR (v4 + 1) ∧ g_Run d 72 94 [(0, .ref a0), (1, .ref a1), (2, .ref a2), (3, g_n v3), (4, g_n (v4 + 1))] [] M (g_qV Q)))) : g_Run d 72 106 [(0, .ref a0), (1, .ref a1), (2, .ref a2), (3, g_n v3), (4, g_n v4), (5, g_n v5)] [] M (g_qV Q) := by
  refine g_Run.ok fun hok => ?_
  replace h := h hok
  refine r_iload x_72_106 rfl ?_
  refine r_aload_n x_72_108 rfl ?_
  obtain ⟨hO1, h⟩ := h
  refine r_getI x_72_109 rfl (ci := 3) (k := 8) (ns := 0) (by decide +kernel) (by decide) rfl (kz := 8) rfl hO1 ?_
  refine r_ic_ge x_72_112 (t := 152) (by decide +kernel) hv5 (hok.1 _ _) (fun hc => ?_) (fun hc => ?_)
  · replace h := h.2 hc
    obtain ⟨h2, h⟩ := h
    refine r_iinc x_72_152 (by decide +kernel) rfl rfl (lv1 := [(0, .ref a0), (1, .ref a1), (2, .ref a2), (3, g_n v3), (4, g_n (v4 + 1)), (5, g_n v5)]) rfl ?_
    refine r_goto x_72_155 (t := 94) (by decide +kernel) ?_
    refine g_drop [0, 1, 2, 3, 4] (lv1 := [(0, .ref a0), (1, .ref a1), (2, .ref a2), (3, g_n v3), (4, g_n (v4 + 1))]) rfl ?_
    exact h
  · replace h := h.1 hc
    refine r_aload_n x_72_115 rfl ?_
    obtain ⟨b3, hb4, h⟩ := h
    refine r_getR x_72_116 rfl (ci := 3) (k := 4) (ns := 0) (by decide +kernel) (by decide) rfl (kz := 4) rfl hO1 hb4 ?_
    refine r_aload_n x_72_119 rfl ?_
    obtain ⟨b5, hb6, h⟩ := h
    refine r_getR x_72_120 rfl (ci := 3) (k := 1) (ns := 0) (by decide +kernel) (by decide) rfl (kz := 1) rfl hO1 hb6 ?_
    refine r_aload_n x_72_123 rfl ?_
    obtain ⟨b7, hb8, h⟩ := h
    refine r_getR x_72_124 rfl (ci := 3) (k := 5) (ns := 0) (by decide +kernel) (by decide) rfl (kz := 5) rfl hO1 hb8 ?_
    refine r_iload x_72_127 rfl ?_
    obtain ⟨n9, hA10, h⟩ := h
    obtain ⟨h11, h⟩ := h
    refine r_iald x_72_129 hA10 hv4 h11.1 h11.2 ?_
    refine r_aload_n x_72_130 rfl ?_
    obtain ⟨b12, hb13, h⟩ := h
    refine r_getR x_72_131 rfl (ci := 3) (k := 6) (ns := 0) (by decide +kernel) (by decide) rfl (kz := 6) rfl hO1 hb13 ?_
    refine r_iload x_72_134 rfl ?_
    obtain ⟨n14, hA15, h⟩ := h
    obtain ⟨h16, h⟩ := h
    refine r_iald x_72_136 hA15 hv5 h16.1 h16.2 ?_
    refine r_aload_n x_72_137 rfl ?_
    obtain ⟨hO17, h⟩ := h
    obtain ⟨b18, hb19, h⟩ := h
    refine r_getR x_72_138 rfl (ci := 8) (k := 3) (ns := 1) (by decide +kernel) (by decide) rfl (kz := 3) rfl hO17 hb19 ?_
    refine r_iload_n x_72_141 rfl ?_
    obtain ⟨n20, hA21, h⟩ := h
    obtain ⟨h22, h⟩ := h
    refine r_iald x_72_142 hA21 hv3 h22.1 h22.2 ?_
    obtain ⟨hO23, h⟩ := h
    refine r_invV x_72_143 (z := 183) (ns := 1) (by decide +kernel) (as := [.ref b5, g_n (g_i M b7 v4), g_n (g_i M b12 v5), g_n (g_i M b18 v3)]) (r := []) rfl rfl rfl hO23 rfl rfl ?_
    refine r_callV h fun M24 hx25 hok26 h => ?_
    replace h := h hx25 hok26
    replace hO1 := hO1.up hx25
    replace hO17 := hO17.up hx25
    replace hO23 := hO23.up hx25
    replace hA10 := hA10.up hx25
    replace hA15 := hA15.up hx25
    replace hA21 := hA21.up hx25
    obtain ⟨h27, h⟩ := h
    refine r_iinc x_72_146 (by decide +kernel) rfl rfl (lv1 := [(0, .ref a0), (1, .ref a1), (2, .ref a2), (3, g_n v3), (4, g_n v4), (5, g_n (v5 + 1))]) rfl ?_
    refine r_goto x_72_149 (t := 106) (by decide +kernel) ?_
    exact h
theorem m_X3_takesOut {d : Nat} {M : g_M} {Q : g_M → Prop} {a0 : Nat} {a1 : Nat} {a2 : Nat} (h : g_ok M → g_Run d 73 2 [(0, .ref a0), (1, .ref a1), (2, .ref a2), (3, g_n 0)] [] M (g_qV Q)) : g_Call (d + 1) 73 [.ref a0, .ref a1, .ref a2] M (g_qV Q) := by
  refine g_Call.ok fun hok0 => ?_
  replace h := h hok0
  refine r_body rfl (lv := [(0, .ref a0), (1, .ref a1), (2, .ref a2)]) rfl ?_
  refine g_Run.ok fun hok => ?_
  refine r_iconst x_73_0 ?_
  refine r_istore_n x_73_1 (by decide +kernel) rfl (lv1 := [(0, .ref a0), (1, .ref a1), (2, .ref a2), (3, g_n 0)]) rfl ?_
  exact h
theorem s_X3_takesOut_2 {d : Nat} {M : g_M} {Q : g_M → Prop} {a0 : Nat} {a1 : Nat} {a2 : Nat} {v3 : Int} (hv3 : g_InR v3) (h : g_ok M → g_O M a1 8 ∧ ((v3 < g_i M a1 6 → ∃ n2, g_A M a2 2 n2 ∧ g_InR n2 ∧ ((v3 < n2 → g_O M a0 3 ∧ ((g_i M a0 9 = 0 → Q M) ∧ (¬ g_i M a0 9 = 0 → ((0 : Int) ≤ v3 ∧ (v3 : Int) < n2) ∧ ((g_i M a2 v3 = 0 → g_InR (v3 + 1) ∧ g_Run d 73 2 [(0, .ref a0), (1, .ref a1), (2, .ref a2), (3, g_n (v3 + 1))] [] M (g_qV Q)) ∧ (¬ g_i M a2 v3 = 0 → ∃ b7, g_r M a1 2 = some b7 ∧ ∃ n9, g_A M b7 1 n9 ∧ ((0 : Int) ≤ v3 ∧ (v3 : Int) < n9) ∧ g_Call d 69 [.ref a0, g_n (g_i M b7 v3)] M (g_qI fun r15 M12 => g_ext M M12 → g_ok M12 → g_InR r15 → g_Run d 73 46 [(0, .ref a0), (1, .ref a1), (2, .ref a2), (3, g_n v3), (4, g_n 0)] [] M12 (g_qV Q))))))) ∧ (¬ v3 < n2 → Q M))) ∧ (¬ v3 < g_i M a1 6 → Q M))) : g_Run d 73 2 [(0, .ref a0), (1, .ref a1), (2, .ref a2), (3, g_n v3)] [] M (g_qV Q) := by
  refine g_Run.ok fun hok => ?_
  replace h := h hok
  refine r_iload_n x_73_2 rfl ?_
  refine r_aload_n x_73_3 rfl ?_
  obtain ⟨hO1, h⟩ := h
  refine r_getI x_73_4 rfl (ci := 8) (k := 6) (ns := 1) (by decide +kernel) (by decide) rfl (kz := 6) rfl hO1 ?_
  refine r_ic_ge x_73_7 (t := 116) (by decide +kernel) hv3 (hok.1 _ _) (fun hc => ?_) (fun hc => ?_)
  · replace h := h.2 hc
    exact r_retV x_73_116 rfl h
  · replace h := h.1 hc
    refine r_iload_n x_73_10 rfl ?_
    refine r_aload_n x_73_11 rfl ?_
    obtain ⟨n2, hA3, h⟩ := h
    refine r_alen x_73_12 hA3 ?_
    obtain ⟨h4, h⟩ := h
    refine r_ic_ge x_73_13 (t := 116) (by decide +kernel) hv3 h4 (fun hc => ?_) (fun hc => ?_)
    · replace h := h.2 hc
      exact r_retV x_73_116 rfl h
    · replace h := h.1 hc
      refine r_aload_n x_73_16 rfl ?_
      obtain ⟨hO5, h⟩ := h
      refine r_getI x_73_17 rfl (ci := 3) (k := 9) (ns := 0) (by decide +kernel) (by decide) rfl (kz := 9) rfl hO5 ?_
      refine r_if_eq x_73_20 (t := 116) (by decide +kernel) (hok.1 _ _) (fun hc => ?_) (fun hc => ?_)
      · replace h := h.1 hc
        exact r_retV x_73_116 rfl h
      · replace h := h.2 hc
        refine r_aload_n x_73_23 rfl ?_
        refine r_iload_n x_73_24 rfl ?_
        obtain ⟨h6, h⟩ := h
        refine r_bald x_73_25 (Or.inr rfl) hA3 hv3 h6.1 h6.2 ?_
        refine r_if_ne x_73_26 (t := 32) (by decide +kernel) (hok.1 _ _) (fun hc => ?_) (fun hc => ?_)
        · replace h := h.2 hc
          refine r_aload_n x_73_32 rfl ?_
          refine r_aload_n x_73_33 rfl ?_
          obtain ⟨b7, hb8, h⟩ := h
          refine r_getR x_73_34 rfl (ci := 8) (k := 2) (ns := 1) (by decide +kernel) (by decide) rfl (kz := 2) rfl hO1 hb8 ?_
          refine r_iload_n x_73_37 rfl ?_
          obtain ⟨n9, hA10, h⟩ := h
          obtain ⟨h11, h⟩ := h
          refine r_iald x_73_38 hA10 hv3 h11.1 h11.2 ?_
          refine r_invV x_73_39 (z := 69) (ns := 0) (by decide +kernel) (as := [g_n (g_i M b7 v3)]) (r := []) rfl rfl rfl hO5 rfl rfl ?_
          refine r_callI h fun r15 M12 hx13 hok14 hr16 h => ?_
          replace h := h hx13 hok14 hr16
          replace hO1 := hO1.up hx13
          replace hO5 := hO5.up hx13
          replace hA3 := hA3.up hx13
          replace hA10 := hA10.up hx13
          refine r_pop x_73_42 rfl ?_
          refine r_iconst x_73_43 ?_
          refine r_istore x_73_44 (by decide +kernel) rfl (lv1 := [(0, .ref a0), (1, .ref a1), (2, .ref a2), (3, g_n v3), (4, g_n 0)]) rfl ?_
          exact h
        · replace h := h.1 hc
          refine r_goto x_73_29 (t := 110) (by decide +kernel) ?_
          obtain ⟨h17, h⟩ := h
          refine r_iinc x_73_110 (by decide +kernel) rfl rfl (lv1 := [(0, .ref a0), (1, .ref a1), (2, .ref a2), (3, g_n (v3 + 1))]) rfl ?_
          refine r_goto x_73_113 (t := 2) (by decide +kernel) ?_
          exact h
theorem s_X3_takesOut_46 {d : Nat} {M : g_M} {Q : g_M → Prop} {a0 : Nat} {a1 : Nat} {a2 : Nat} {v3 : Int} (hv3 : g_InR v3) {v4 : Int} (hv4 : g_InR v4) (h : g_ok M → g_O M a0 3 ∧ ((v4 < g_i M a0 7 → g_Run d 73 58 [(0, .ref a0), (1, .ref a1), (2, .ref a2), (3, g_n v3), (4, g_n v4), (5, g_n 0)] [] M (g_qV Q)) ∧ (¬ v4 < g_i M a0 7 → g_InR (v3 + 1) ∧ g_Run d 73 2 [(0, .ref a0), (1, .ref a1), (2, .ref a2), (3, g_n (v3 + 1))] [] M (g_qV Q)))) : g_Run d 73 46 [(0, .ref a0), (1, .ref a1), (2, .ref a2), (3, g_n v3), (4, g_n v4)] [] M (g_qV Q) := by
  refine g_Run.ok fun hok => ?_
  replace h := h hok
  refine r_iload x_73_46 rfl ?_
  refine r_aload_n x_73_48 rfl ?_
  obtain ⟨hO1, h⟩ := h
  refine r_getI x_73_49 rfl (ci := 3) (k := 7) (ns := 0) (by decide +kernel) (by decide) rfl (kz := 7) rfl hO1 ?_
  refine r_ic_ge x_73_52 (t := 110) (by decide +kernel) hv4 (hok.1 _ _) (fun hc => ?_) (fun hc => ?_)
  · replace h := h.2 hc
    obtain ⟨h2, h⟩ := h
    refine r_iinc x_73_110 (by decide +kernel) rfl rfl (lv1 := [(0, .ref a0), (1, .ref a1), (2, .ref a2), (3, g_n (v3 + 1)), (4, g_n v4)]) rfl ?_
    refine r_goto x_73_113 (t := 2) (by decide +kernel) ?_
    refine g_drop [0, 1, 2, 3] (lv1 := [(0, .ref a0), (1, .ref a1), (2, .ref a2), (3, g_n (v3 + 1))]) rfl ?_
    exact h
  · replace h := h.1 hc
    refine r_iconst x_73_55 ?_
    refine r_istore x_73_56 (by decide +kernel) rfl (lv1 := [(0, .ref a0), (1, .ref a1), (2, .ref a2), (3, g_n v3), (4, g_n v4), (5, g_n 0)]) rfl ?_
    exact h
theorem s_X3_takesOut_58 {d : Nat} {M : g_M} {Q : g_M → Prop} {a0 : Nat} {a1 : Nat} {a2 : Nat} {v3 : Int} (hv3 : g_InR v3) {v4 : Int} (hv4 : g_InR v4) {v5 : Int} (hv5 : g_InR v5) (h : g_ok M → g_O M a0 3 ∧ ((v5 < g_i M a0 8 → ∃ b3, g_r M a0 4 = some b3 ∧ ∃ b5, g_r M a0 1 = some b5 ∧ ∃ b7, g_r M a0 5 = some b7 ∧ ∃ n9, g_A M b7 1 n9 ∧ ((0 : Int) ≤ v4 ∧ (v4 : Int) < n9) ∧ ∃ b12, g_r M a0 6 = some b12 ∧ ∃ n14, g_A M b12 1 n14 ∧ ((0 : Int) ≤ v5 ∧ (v5 : Int) < n14) ∧ g_O M a1 8 ∧ ∃ b18, g_r M a1 3 = some b18 ∧ ∃ n20, g_A M b18 1 n20 ∧ ((0 : Int) ≤ v3 ∧ (v3 : Int) < n20) ∧ g_O M b3 10 ∧ g_Call d 187 [.ref b3, .ref b5, g_n (g_i M b7 v4), g_n (g_i M b12 v5), g_n (g_i M b18 v3)] M (g_qV fun M24 => g_ext M M24 → g_ok M24 → g_InR (v5 + 1) ∧ g_Run d 73 58 [(0, .ref a0), (1, .ref a1), (2, .ref a2), (3, g_n v3), (4, g_n v4), (5, g_n (v5 + 1))] [] M24 (g_qV Q))) ∧ (¬ v5 < g_i M a0 8 → g_InR (v4 + 1) ∧ g_Run d 73 46 [(0, .ref a0), (1, .ref a1), (2, .ref a2), (3, g_n v3), (4, g_n (v4 + 1))] [] M (g_qV Q)))) : g_Run d 73 58 [(0, .ref a0), (1, .ref a1), (2, .ref a2), (3, g_n v3), (4, g_n v4), (5, g_n v5)] [] M (g_qV Q) := by
  refine g_Run.ok fun hok => ?_
  replace h := h hok
  refine r_iload x_73_58 rfl ?_
  refine r_aload_n x_73_60 rfl ?_
  obtain ⟨hO1, h⟩ := h
  refine r_getI x_73_61 rfl (ci := 3) (k := 8) (ns := 0) (by decide +kernel) (by decide) rfl (kz := 8) rfl hO1 ?_
  refine r_ic_ge x_73_64 (t := 104) (by decide +kernel) hv5 (hok.1 _ _) (fun hc => ?_) (fun hc => ?_)
  · replace h := h.2 hc
    obtain ⟨h2, h⟩ := h
    refine r_iinc x_73_104 (by decide +kernel) rfl rfl (lv1 := [(0, .ref a0), (1, .ref a1), (2, .ref a2), (3, g_n v3), (4, g_n (v4 + 1)), (5, g_n v5)]) rfl ?_
    refine r_goto x_73_107 (t := 46) (by decide +kernel) ?_
    refine g_drop [0, 1, 2, 3, 4] (lv1 := [(0, .ref a0), (1, .ref a1), (2, .ref a2), (3, g_n v3), (4, g_n (v4 + 1))]) rfl ?_
    exact h
  · replace h := h.1 hc
    refine r_aload_n x_73_67 rfl ?_
    obtain ⟨b3, hb4, h⟩ := h
    refine r_getR x_73_68 rfl (ci := 3) (k := 4) (ns := 0) (by decide +kernel) (by decide) rfl (kz := 4) rfl hO1 hb4 ?_
    refine r_aload_n x_73_71 rfl ?_
    obtain ⟨b5, hb6, h⟩ := h
    refine r_getR x_73_72 rfl (ci := 3) (k := 1) (ns := 0) (by decide +kernel) (by decide) rfl (kz := 1) rfl hO1 hb6 ?_
    refine r_aload_n x_73_75 rfl ?_
    obtain ⟨b7, hb8, h⟩ := h
    refine r_getR x_73_76 rfl (ci := 3) (k := 5) (ns := 0) (by decide +kernel) (by decide) rfl (kz := 5) rfl hO1 hb8 ?_
    refine r_iload x_73_79 rfl ?_
    obtain ⟨n9, hA10, h⟩ := h
    obtain ⟨h11, h⟩ := h
    refine r_iald x_73_81 hA10 hv4 h11.1 h11.2 ?_
    refine r_aload_n x_73_82 rfl ?_
    obtain ⟨b12, hb13, h⟩ := h
    refine r_getR x_73_83 rfl (ci := 3) (k := 6) (ns := 0) (by decide +kernel) (by decide) rfl (kz := 6) rfl hO1 hb13 ?_
    refine r_iload x_73_86 rfl ?_
    obtain ⟨n14, hA15, h⟩ := h
    obtain ⟨h16, h⟩ := h
    refine r_iald x_73_88 hA15 hv5 h16.1 h16.2 ?_
    refine r_aload_n x_73_89 rfl ?_
    obtain ⟨hO17, h⟩ := h
    obtain ⟨b18, hb19, h⟩ := h
    refine r_getR x_73_90 rfl (ci := 8) (k := 3) (ns := 1) (by decide +kernel) (by decide) rfl (kz := 3) rfl hO17 hb19 ?_
    refine r_iload_n x_73_93 rfl ?_
    obtain ⟨n20, hA21, h⟩ := h
    obtain ⟨h22, h⟩ := h
    refine r_iald x_73_94 hA21 hv3 h22.1 h22.2 ?_
    obtain ⟨hO23, h⟩ := h
    refine r_invV x_73_95 (z := 187) (ns := 1) (by decide +kernel) (as := [.ref b5, g_n (g_i M b7 v4), g_n (g_i M b12 v5), g_n (g_i M b18 v3)]) (r := []) rfl rfl rfl hO23 rfl rfl ?_
    refine r_callV h fun M24 hx25 hok26 h => ?_
    replace h := h hx25 hok26
    replace hO1 := hO1.up hx25
    replace hO17 := hO17.up hx25
    replace hO23 := hO23.up hx25
    replace hA10 := hA10.up hx25
    replace hA15 := hA15.up hx25
    replace hA21 := hA21.up hx25
    obtain ⟨h27, h⟩ := h
    refine r_iinc x_73_98 (by decide +kernel) rfl rfl (lv1 := [(0, .ref a0), (1, .ref a1), (2, .ref a2), (3, g_n v3), (4, g_n v4), (5, g_n (v5 + 1))]) rfl ?_
    refine r_goto x_73_101 (t := 58) (by decide +kernel) ?_
    exact h
