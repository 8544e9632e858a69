theorem x_1_0 : decode (q_code 1) 0 = .ok (.aload_n 0, 1) := by decide +kernel
theorem x_1_1 : decode (q_code 1) 1 = .ok (.iconst 0, 1) := by decide +kernel
theorem x_1_2 : decode (q_code 1) 2 = .ok (.putfield 33, 3) := by decide +kernel
theorem x_1_5 : decode (q_code 1) 5 = .ok (.aload_n 0, 1) := by decide +kernel
theorem x_1_6 : decode (q_code 1) 6 = .ok (.iconst 1, 1) := by decide +kernel
theorem x_1_7 : decode (q_code 1) 7 = .ok (.putfield 37, 3) := by decide +kernel
theorem x_1_10 : decode (q_code 1) 10 = .ok (.iload_n 1, 1) := by decide +kernel
theorem x_1_11 : decode (q_code 1) 11 = .ok (.ifCond .eq 64, 3) := by decide +kernel
theorem x_1_14 : decode (q_code 1) 14 = .ok (.aload_n 0, 1) := by decide +kernel
theorem x_1_15 : decode (q_code 1) 15 = .ok (.iconst 0, 1) := by decide +kernel
theorem x_1_16 : decode (q_code 1) 16 = .ok (.invokevirtual 40, 3) := by decide +kernel
theorem x_1_19 : decode (q_code 1) 19 = .ok (.istore_n 3, 1) := by decide +kernel
theorem x_1_20 : decode (q_code 1) 20 = .ok (.aload_n 0, 1) := by decide +kernel
theorem x_1_21 : decode (q_code 1) 21 = .ok (.iload_n 3, 1) := by decide +kernel
theorem x_1_22 : decode (q_code 1) 22 = .ok (.ifCond .ne 7, 3) := by decide +kernel
theorem x_1_25 : decode (q_code 1) 25 = .ok (.iconst 1, 1) := by decide +kernel
theorem x_1_26 : decode (q_code 1) 26 = .ok (.goto 12, 3) := by decide +kernel
theorem x_1_29 : decode (q_code 1) 29 = .ok (.iload_n 2, 1) := by decide +kernel
theorem x_1_30 : decode (q_code 1) 30 = .ok (.ifCond .eq 7, 3) := by decide +kernel
theorem x_1_33 : decode (q_code 1) 33 = .ok (.iconst 3, 1) := by decide +kernel
theorem x_1_34 : decode (q_code 1) 34 = .ok (.goto 4, 3) := by decide +kernel
theorem x_1_37 : decode (q_code 1) 37 = .ok (.iconst 2, 1) := by decide +kernel
theorem x_1_38 : decode (q_code 1) 38 = .ok (.putfield 33, 3) := by decide +kernel
theorem x_1_41 : decode (q_code 1) 41 = .ok (.aload_n 0, 1) := by decide +kernel
theorem x_1_42 : decode (q_code 1) 42 = .ok (.aload_n 0, 1) := by decide +kernel
theorem x_1_43 : decode (q_code 1) 43 = .ok (.getfield 33, 3) := by decide +kernel
theorem x_1_46 : decode (q_code 1) 46 = .ok (.iconst 3, 1) := by decide +kernel
theorem x_1_47 : decode (q_code 1) 47 = .ok (.if_icmp .ne 19, 3) := by decide +kernel
theorem x_1_50 : decode (q_code 1) 50 = .ok (.aload_n 0, 1) := by decide +kernel
theorem x_1_51 : decode (q_code 1) 51 = .ok (.getfield 29, 3) := by decide +kernel
theorem x_1_54 : decode (q_code 1) 54 = .ok (.iconst 0, 1) := by decide +kernel
theorem x_1_55 : decode (q_code 1) 55 = .ok (.iaload, 1) := by decide +kernel
theorem x_1_56 : decode (q_code 1) 56 = .ok (.aload_n 0, 1) := by decide +kernel
theorem x_1_57 : decode (q_code 1) 57 = .ok (.getfield 29, 3) := by decide +kernel
theorem x_1_60 : decode (q_code 1) 60 = .ok (.iconst 1, 1) := by decide +kernel
theorem x_1_61 : decode (q_code 1) 61 = .ok (.iaload, 1) := by decide +kernel
theorem x_1_62 : decode (q_code 1) 62 = .ok (.imul, 1) := by decide +kernel
theorem x_1_63 : decode (q_code 1) 63 = .ok (.goto 9, 3) := by decide +kernel
theorem x_1_66 : decode (q_code 1) 66 = .ok (.aload_n 0, 1) := by decide +kernel
theorem x_1_67 : decode (q_code 1) 67 = .ok (.getfield 29, 3) := by decide +kernel
theorem x_1_70 : decode (q_code 1) 70 = .ok (.iconst 0, 1) := by decide +kernel
theorem x_1_71 : decode (q_code 1) 71 = .ok (.iaload, 1) := by decide +kernel
theorem x_1_72 : decode (q_code 1) 72 = .ok (.putfield 37, 3) := by decide +kernel
theorem x_1_75 : decode (q_code 1) 75 = .ok (.return_, 1) := by decide +kernel
theorem x_2_0 : decode (q_code 2) 0 = .ok (.iconst 0, 1) := by decide +kernel
theorem x_2_1 : decode (q_code 2) 1 = .ok (.istore_n 3, 1) := by decide +kernel
theorem x_2_2 : decode (q_code 2) 2 = .ok (.iconst 0, 1) := by decide +kernel
theorem x_2_3 : decode (q_code 2) 3 = .ok (.istore 4, 2) := by decide +kernel
theorem x_2_5 : decode (q_code 2) 5 = .ok (.iload 4, 2) := by decide +kernel
theorem x_2_7 : decode (q_code 2) 7 = .ok (.aload_n 2, 1) := by decide +kernel
theorem x_2_8 : decode (q_code 2) 8 = .ok (.getfield 44, 3) := by decide +kernel
theorem x_2_11 : decode (q_code 2) 11 = .ok (.if_icmp .ge 74, 3) := by decide +kernel
theorem x_2_14 : decode (q_code 2) 14 = .ok (.iload 4, 2) := by decide +kernel
theorem x_2_16 : decode (q_code 2) 16 = .ok (.aload_n 2, 1) := by decide +kernel
theorem x_2_17 : decode (q_code 2) 17 = .ok (.getfield 49, 3) := by decide +kernel
theorem x_2_20 : decode (q_code 2) 20 = .ok (.arraylength, 1) := by decide +kernel
theorem x_2_21 : decode (q_code 2) 21 = .ok (.if_icmp .ge 64, 3) := by decide +kernel
theorem x_2_24 : decode (q_code 2) 24 = .ok (.aload_n 1, 1) := by decide +kernel
theorem x_2_25 : decode (q_code 2) 25 = .ok (.aload_n 2, 1) := by decide +kernel
theorem x_2_26 : decode (q_code 2) 26 = .ok (.getfield 49, 3) := by decide +kernel
theorem x_2_29 : decode (q_code 2) 29 = .ok (.iload 4, 2) := by decide +kernel
theorem x_2_31 : decode (q_code 2) 31 = .ok (.iaload, 1) := by decide +kernel
theorem x_2_32 : decode (q_code 2) 32 = .ok (.invokevirtual 52, 3) := by decide +kernel
theorem x_2_35 : decode (q_code 2) 35 = .ok (.pop, 1) := by decide +kernel
theorem x_2_36 : decode (q_code 2) 36 = .ok (.aload_n 0, 1) := by decide +kernel
theorem x_2_37 : decode (q_code 2) 37 = .ok (.iconst 0, 1) := by decide +kernel
theorem x_2_38 : decode (q_code 2) 38 = .ok (.aload_n 1, 1) := by decide +kernel
theorem x_2_39 : decode (q_code 2) 39 = .ok (.getfield 58, 3) := by decide +kernel
theorem x_2_42 : decode (q_code 2) 42 = .ok (.aload_n 1, 1) := by decide +kernel
theorem x_2_43 : decode (q_code 2) 43 = .ok (.getfield 61, 3) := by decide +kernel
theorem x_2_46 : decode (q_code 2) 46 = .ok (.invokevirtual 64, 3) := by decide +kernel
theorem x_2_49 : decode (q_code 2) 49 = .ok (.ifCond .eq 30, 3) := by decide +kernel
theorem x_2_52 : decode (q_code 2) 52 = .ok (.aload_n 0, 1) := by decide +kernel
theorem x_2_53 : decode (q_code 2) 53 = .ok (.getfield 33, 3) := by decide +kernel
theorem x_2_56 : decode (q_code 2) 56 = .ok (.iconst 3, 1) := by decide +kernel
theorem x_2_57 : decode (q_code 2) 57 = .ok (.if_icmp .lt 19, 3) := by decide +kernel
theorem x_2_60 : decode (q_code 2) 60 = .ok (.aload_n 0, 1) := by decide +kernel
theorem x_2_61 : decode (q_code 2) 61 = .ok (.iconst 1, 1) := by decide +kernel
theorem x_2_62 : decode (q_code 2) 62 = .ok (.aload_n 1, 1) := by decide +kernel
theorem x_2_63 : decode (q_code 2) 63 = .ok (.getfield 68, 3) := by decide +kernel
theorem x_2_66 : decode (q_code 2) 66 = .ok (.aload_n 1, 1) := by decide +kernel
theorem x_2_67 : decode (q_code 2) 67 = .ok (.getfield 71, 3) := by decide +kernel
theorem x_2_70 : decode (q_code 2) 70 = .ok (.invokevirtual 64, 3) := by decide +kernel
theorem x_2_73 : decode (q_code 2) 73 = .ok (.ifCond .eq 6, 3) := by decide +kernel
theorem x_2_76 : decode (q_code 2) 76 = .ok (.iinc 3 1, 3) := by decide +kernel
theorem x_2_79 : decode (q_code 2) 79 = .ok (.iinc 4 1, 3) := by decide +kernel
theorem x_2_82 : decode (q_code 2) 82 = .ok (.goto (-77), 3) := by decide +kernel
theorem x_2_85 : decode (q_code 2) 85 = .ok (.iload_n 3, 1) := by decide +kernel
theorem x_2_86 : decode (q_code 2) 86 = .ok (.ireturn, 1) := by decide +kernel
theorem x_3_0 : decode (q_code 3) 0 = .ok (.iconst 0, 1) := by decide +kernel
theorem x_3_1 : decode (q_code 3) 1 = .ok (.istore 4, 2) := by decide +kernel
theorem x_3_3 : decode (q_code 3) 3 = .ok (.iload 4, 2) := by decide +kernel
theorem x_3_5 : decode (q_code 3) 5 = .ok (.iload_n 3, 1) := by decide +kernel
theorem x_3_6 : decode (q_code 3) 6 = .ok (.if_icmp .ge 52, 3) := by decide +kernel
theorem x_3_9 : decode (q_code 3) 9 = .ok (.iconst 0, 1) := by decide +kernel
theorem x_3_10 : decode (q_code 3) 10 = .ok (.istore 5, 2) := by decide +kernel
theorem x_3_12 : decode (q_code 3) 12 = .ok (.iload 5, 2) := by decide +kernel
theorem x_3_14 : decode (q_code 3) 14 = .ok (.aload_n 0, 1) := by decide +kernel
theorem x_3_15 : decode (q_code 3) 15 = .ok (.getfield 29, 3) := by decide +kernel
theorem x_3_18 : decode (q_code 3) 18 = .ok (.iload_n 1, 1) := by decide +kernel
theorem x_3_19 : decode (q_code 3) 19 = .ok (.iaload, 1) := by decide +kernel
theorem x_3_20 : decode (q_code 3) 20 = .ok (.if_icmp .ge 32, 3) := by decide +kernel
theorem x_3_23 : decode (q_code 3) 23 = .ok (.aload_n 0, 1) := by decide +kernel
theorem x_3_24 : decode (q_code 3) 24 = .ok (.aload_n 0, 1) := by decide +kernel
theorem x_3_25 : decode (q_code 3) 25 = .ok (.getfield 26, 3) := by decide +kernel
theorem x_3_28 : decode (q_code 3) 28 = .ok (.iload_n 1, 1) := by decide +kernel
theorem x_3_29 : decode (q_code 3) 29 = .ok (.aaload, 1) := by decide +kernel
theorem x_3_30 : decode (q_code 3) 30 = .ok (.iload 5, 2) := by decide +kernel
theorem x_3_32 : decode (q_code 3) 32 = .ok (.iconst 4, 1) := by decide +kernel
theorem x_3_33 : decode (q_code 3) 33 = .ok (.imul, 1) := by decide +kernel
theorem x_3_34 : decode (q_code 3) 34 = .ok (.aload_n 2, 1) := by decide +kernel
theorem x_3_35 : decode (q_code 3) 35 = .ok (.iload 4, 2) := by decide +kernel
theorem x_3_37 : decode (q_code 3) 37 = .ok (.iaload, 1) := by decide +kernel
theorem x_3_38 : decode (q_code 3) 38 = .ok (.invokevirtual 74, 3) := by decide +kernel
theorem x_3_41 : decode (q_code 3) 41 = .ok (.ifCond .eq 5, 3) := by decide +kernel
theorem x_3_44 : decode (q_code 3) 44 = .ok (.iconst 1, 1) := by decide +kernel
theorem x_3_45 : decode (q_code 3) 45 = .ok (.ireturn, 1) := by decide +kernel
theorem x_3_46 : decode (q_code 3) 46 = .ok (.iinc 5 1, 3) := by decide +kernel
theorem x_3_49 : decode (q_code 3) 49 = .ok (.goto (-37), 3) := by decide +kernel
theorem x_3_52 : decode (q_code 3) 52 = .ok (.iinc 4 1, 3) := by decide +kernel
theorem x_3_55 : decode (q_code 3) 55 = .ok (.goto (-52), 3) := by decide +kernel
theorem x_3_58 : decode (q_code 3) 58 = .ok (.iconst 0, 1) := by decide +kernel
theorem x_3_59 : decode (q_code 3) 59 = .ok (.ireturn, 1) := by decide +kernel
theorem x_4_0 : decode (q_code 4) 0 = .ok (.aload_n 0, 1) := by decide +kernel
theorem x_4_1 : decode (q_code 4) 1 = .ok (.getfield 21, 3) := by decide +kernel
theorem x_4_4 : decode (q_code 4) 4 = .ok (.iload_n 3, 1) := by decide +kernel
theorem x_4_5 : decode (q_code 4) 5 = .ok (.invokestatic 78, 3) := by decide +kernel
theorem x_4_8 : decode (q_code 4) 8 = .ok (.aload_n 1, 1) := by decide +kernel
theorem x_4_9 : decode (q_code 4) 9 = .ok (.iload_n 2, 1) := by decide +kernel
theorem x_4_10 : decode (q_code 4) 10 = .ok (.iaload, 1) := by decide +kernel
theorem x_4_11 : decode (q_code 4) 11 = .ok (.if_icmp .eq 5, 3) := by decide +kernel
theorem x_4_14 : decode (q_code 4) 14 = .ok (.iconst 0, 1) := by decide +kernel
theorem x_4_15 : decode (q_code 4) 15 = .ok (.ireturn, 1) := by decide +kernel
theorem x_4_16 : decode (q_code 4) 16 = .ok (.aload_n 1, 1) := by decide +kernel
theorem x_4_17 : decode (q_code 4) 17 = .ok (.iload_n 2, 1) := by decide +kernel
theorem x_4_18 : decode (q_code 4) 18 = .ok (.iconst 1, 1) := by decide +kernel
theorem x_4_19 : decode (q_code 4) 19 = .ok (.iadd, 1) := by decide +kernel
theorem x_4_20 : decode (q_code 4) 20 = .ok (.iaload, 1) := by decide +kernel
theorem x_4_21 : decode (q_code 4) 21 = .ok (.ifCond .ge 7, 3) := by decide +kernel
theorem x_4_24 : decode (q_code 4) 24 = .ok (.iconst 1, 1) := by decide +kernel
theorem x_4_25 : decode (q_code 4) 25 = .ok (.goto 21, 3) := by decide +kernel
theorem x_4_28 : decode (q_code 4) 28 = .ok (.aload_n 0, 1) := by decide +kernel
theorem x_4_29 : decode (q_code 4) 29 = .ok (.getfield 21, 3) := by decide +kernel
theorem x_4_32 : decode (q_code 4) 32 = .ok (.iload_n 3, 1) := by decide +kernel
theorem x_4_33 : decode (q_code 4) 33 = .ok (.aload_n 0, 1) := by decide +kernel
theorem x_4_34 : decode (q_code 4) 34 = .ok (.getfield 21, 3) := by decide +kernel
theorem x_4_37 : decode (q_code 4) 37 = .ok (.aload_n 1, 1) := by decide +kernel
theorem x_4_38 : decode (q_code 4) 38 = .ok (.iload_n 2, 1) := by decide +kernel
theorem x_4_39 : decode (q_code 4) 39 = .ok (.iconst 1, 1) := by decide +kernel
theorem x_4_40 : decode (q_code 4) 40 = .ok (.iadd, 1) := by decide +kernel
theorem x_4_41 : decode (q_code 4) 41 = .ok (.iaload, 1) := by decide +kernel
theorem x_4_42 : decode (q_code 4) 42 = .ok (.iconst 0, 1) := by decide +kernel
theorem x_4_43 : decode (q_code 4) 43 = .ok (.invokestatic 82, 3) := by decide +kernel
theorem x_4_46 : decode (q_code 4) 46 = .ok (.istore 4, 2) := by decide +kernel
theorem x_4_48 : decode (q_code 4) 48 = .ok (.aload_n 1, 1) := by decide +kernel
theorem x_4_49 : decode (q_code 4) 49 = .ok (.iload_n 2, 1) := by decide +kernel
theorem x_4_50 : decode (q_code 4) 50 = .ok (.iconst 2, 1) := by decide +kernel
theorem x_4_51 : decode (q_code 4) 51 = .ok (.iadd, 1) := by decide +kernel
theorem x_4_52 : decode (q_code 4) 52 = .ok (.iaload, 1) := by decide +kernel
theorem x_4_53 : decode (q_code 4) 53 = .ok (.ifCond .ge 7, 3) := by decide +kernel
theorem x_4_56 : decode (q_code 4) 56 = .ok (.iconst (-1), 1) := by decide +kernel
theorem x_4_57 : decode (q_code 4) 57 = .ok (.goto 21, 3) := by decide +kernel
theorem x_4_60 : decode (q_code 4) 60 = .ok (.aload_n 0, 1) := by decide +kernel
theorem x_4_61 : decode (q_code 4) 61 = .ok (.getfield 21, 3) := by decide +kernel
theorem x_4_64 : decode (q_code 4) 64 = .ok (.iload_n 3, 1) := by decide +kernel
theorem x_4_65 : decode (q_code 4) 65 = .ok (.aload_n 0, 1) := by decide +kernel
theorem x_4_66 : decode (q_code 4) 66 = .ok (.getfield 21, 3) := by decide +kernel
theorem x_4_69 : decode (q_code 4) 69 = .ok (.aload_n 1, 1) := by decide +kernel
theorem x_4_70 : decode (q_code 4) 70 = .ok (.iload_n 2, 1) := by decide +kernel
theorem x_4_71 : decode (q_code 4) 71 = .ok (.iconst 2, 1) := by decide +kernel
theorem x_4_72 : decode (q_code 4) 72 = .ok (.iadd, 1) := by decide +kernel
theorem x_4_73 : decode (q_code 4) 73 = .ok (.iaload, 1) := by decide +kernel
theorem x_4_74 : decode (q_code 4) 74 = .ok (.iconst 0, 1) := by decide +kernel
theorem x_4_75 : decode (q_code 4) 75 = .ok (.invokestatic 82, 3) := by decide +kernel
theorem x_4_78 : decode (q_code 4) 78 = .ok (.istore 5, 2) := by decide +kernel
theorem x_4_80 : decode (q_code 4) 80 = .ok (.iload 4, 2) := by decide +kernel
theorem x_4_82 : decode (q_code 4) 82 = .ok (.ifCond .gt 18, 3) := by decide +kernel
theorem x_4_85 : decode (q_code 4) 85 = .ok (.iload 4, 2) := by decide +kernel
theorem x_4_87 : decode (q_code 4) 87 = .ok (.ifCond .ne 37, 3) := by decide +kernel
theorem x_4_90 : decode (q_code 4) 90 = .ok (.aload_n 1, 1) := by decide +kernel
theorem x_4_91 : decode (q_code 4) 91 = .ok (.iload_n 2, 1) := by decide +kernel
theorem x_4_92 : decode (q_code 4) 92 = .ok (.iconst 3, 1) := by decide +kernel
theorem x_4_93 : decode (q_code 4) 93 = .ok (.iadd, 1) := by decide +kernel
theorem x_4_94 : decode (q_code 4) 94 = .ok (.iaload, 1) := by decide +kernel
theorem x_4_95 : decode (q_code 4) 95 = .ok (.iconst 1, 1) := by decide +kernel
theorem x_4_96 : decode (q_code 4) 96 = .ok (.iand, 1) := by decide +kernel
theorem x_4_97 : decode (q_code 4) 97 = .ok (.ifCond .eq 27, 3) := by decide +kernel
theorem x_4_100 : decode (q_code 4) 100 = .ok (.iload 5, 2) := by decide +kernel
theorem x_4_102 : decode (q_code 4) 102 = .ok (.ifCond .lt 18, 3) := by decide +kernel
theorem x_4_105 : decode (q_code 4) 105 = .ok (.iload 5, 2) := by decide +kernel
theorem x_4_107 : decode (q_code 4) 107 = .ok (.ifCond .ne 17, 3) := by decide +kernel
theorem x_4_110 : decode (q_code 4) 110 = .ok (.aload_n 1, 1) := by decide +kernel
theorem x_4_111 : decode (q_code 4) 111 = .ok (.iload_n 2, 1) := by decide +kernel
theorem x_4_112 : decode (q_code 4) 112 = .ok (.iconst 3, 1) := by decide +kernel
theorem x_4_113 : decode (q_code 4) 113 = .ok (.iadd, 1) := by decide +kernel
theorem x_4_114 : decode (q_code 4) 114 = .ok (.iaload, 1) := by decide +kernel
theorem x_4_115 : decode (q_code 4) 115 = .ok (.iconst 2, 1) := by decide +kernel
theorem x_4_116 : decode (q_code 4) 116 = .ok (.iand, 1) := by decide +kernel
theorem x_4_117 : decode (q_code 4) 117 = .ok (.ifCond .eq 7, 3) := by decide +kernel
theorem x_4_120 : decode (q_code 4) 120 = .ok (.iconst 1, 1) := by decide +kernel
theorem x_4_121 : decode (q_code 4) 121 = .ok (.goto 4, 3) := by decide +kernel
theorem x_4_124 : decode (q_code 4) 124 = .ok (.iconst 0, 1) := by decide +kernel
theorem x_4_125 : decode (q_code 4) 125 = .ok (.ireturn, 1) := by decide +kernel
theorem x_5_0 : decode (q_code 5) 0 = .ok (.iconst 0, 1) := by decide +kernel
theorem x_5_1 : decode (q_code 5) 1 = .ok (.istore_n 2, 1) := by decide +kernel
theorem x_5_2 : decode (q_code 5) 2 = .ok (.iload_n 2, 1) := by decide +kernel
theorem x_5_3 : decode (q_code 5) 3 = .ok (.aload_n 0, 1) := by decide +kernel
theorem x_5_4 : decode (q_code 5) 4 = .ok (.getfield 29, 3) := by decide +kernel
theorem x_5_7 : decode (q_code 5) 7 = .ok (.iload_n 1, 1) := by decide +kernel
theorem x_5_8 : decode (q_code 5) 8 = .ok (.iaload, 1) := by decide +kernel
theorem x_5_9 : decode (q_code 5) 9 = .ok (.if_icmp .ge 65, 3) := by decide +kernel
theorem x_5_12 : decode (q_code 5) 12 = .ok (.aload_n 0, 1) := by decide +kernel
theorem x_5_13 : decode (q_code 5) 13 = .ok (.getfield 26, 3) := by decide +kernel
theorem x_5_16 : decode (q_code 5) 16 = .ok (.iload_n 1, 1) := by decide +kernel
theorem x_5_17 : decode (q_code 5) 17 = .ok (.aaload, 1) := by decide +kernel
theorem x_5_18 : decode (q_code 5) 18 = .ok (.iload_n 2, 1) := by decide +kernel
theorem x_5_19 : decode (q_code 5) 19 = .ok (.iconst 4, 1) := by decide +kernel
theorem x_5_20 : decode (q_code 5) 20 = .ok (.imul, 1) := by decide +kernel
theorem x_5_21 : decode (q_code 5) 21 = .ok (.iconst 1, 1) := by decide +kernel
theorem x_5_22 : decode (q_code 5) 22 = .ok (.iadd, 1) := by decide +kernel
theorem x_5_23 : decode (q_code 5) 23 = .ok (.iaload, 1) := by decide +kernel
theorem x_5_24 : decode (q_code 5) 24 = .ok (.istore_n 3, 1) := by decide +kernel
theorem x_5_25 : decode (q_code 5) 25 = .ok (.aload_n 0, 1) := by decide +kernel
theorem x_5_26 : decode (q_code 5) 26 = .ok (.getfield 26, 3) := by decide +kernel
theorem x_5_29 : decode (q_code 5) 29 = .ok (.iload_n 1, 1) := by decide +kernel
theorem x_5_30 : decode (q_code 5) 30 = .ok (.aaload, 1) := by decide +kernel
theorem x_5_31 : decode (q_code 5) 31 = .ok (.iload_n 2, 1) := by decide +kernel
theorem x_5_32 : decode (q_code 5) 32 = .ok (.iconst 4, 1) := by decide +kernel
theorem x_5_33 : decode (q_code 5) 33 = .ok (.imul, 1) := by decide +kernel
theorem x_5_34 : decode (q_code 5) 34 = .ok (.iconst 2, 1) := by decide +kernel
theorem x_5_35 : decode (q_code 5) 35 = .ok (.iadd, 1) := by decide +kernel
theorem x_5_36 : decode (q_code 5) 36 = .ok (.iaload, 1) := by decide +kernel
theorem x_5_37 : decode (q_code 5) 37 = .ok (.istore 4, 2) := by decide +kernel
theorem x_5_39 : decode (q_code 5) 39 = .ok (.iload_n 3, 1) := by decide +kernel
theorem x_5_40 : decode (q_code 5) 40 = .ok (.ifCond .lt 26, 3) := by decide +kernel
theorem x_5_43 : decode (q_code 5) 43 = .ok (.iload 4, 2) := by decide +kernel
theorem x_5_45 : decode (q_code 5) 45 = .ok (.ifCond .lt 21, 3) := by decide +kernel
theorem x_5_48 : decode (q_code 5) 48 = .ok (.aload_n 0, 1) := by decide +kernel
theorem x_5_49 : decode (q_code 5) 49 = .ok (.getfield 21, 3) := by decide +kernel
theorem x_5_52 : decode (q_code 5) 52 = .ok (.iload_n 3, 1) := by decide +kernel
theorem x_5_53 : decode (q_code 5) 53 = .ok (.aload_n 0, 1) := by decide +kernel
theorem x_5_54 : decode (q_code 5) 54 = .ok (.getfield 21, 3) := by decide +kernel
theorem x_5_57 : decode (q_code 5) 57 = .ok (.iload 4, 2) := by decide +kernel
theorem x_5_59 : decode (q_code 5) 59 = .ok (.iconst 0, 1) := by decide +kernel
theorem x_5_60 : decode (q_code 5) 60 = .ok (.invokestatic 82, 3) := by decide +kernel
theorem x_5_63 : decode (q_code 5) 63 = .ok (.ifCond .eq 5, 3) := by decide +kernel
theorem x_5_66 : decode (q_code 5) 66 = .ok (.iconst 0, 1) := by decide +kernel
theorem x_5_67 : decode (q_code 5) 67 = .ok (.ireturn, 1) := by decide +kernel
theorem x_5_68 : decode (q_code 5) 68 = .ok (.iinc 2 1, 3) := by decide +kernel
theorem x_5_71 : decode (q_code 5) 71 = .ok (.goto (-69), 3) := by decide +kernel
theorem x_5_74 : decode (q_code 5) 74 = .ok (.iconst 1, 1) := by decide +kernel
theorem x_5_75 : decode (q_code 5) 75 = .ok (.ireturn, 1) := by decide +kernel
theorem x_6_0 : decode (q_code 6) 0 = .ok (.aload_n 0, 1) := by decide +kernel
theorem x_6_1 : decode (q_code 6) 1 = .ok (.getfield 9, 3) := by decide +kernel
theorem x_6_4 : decode (q_code 6) 4 = .ok (.getfield 86, 3) := by decide +kernel
theorem x_6_7 : decode (q_code 6) 7 = .ok (.istore 5, 2) := by decide +kernel
theorem x_6_9 : decode (q_code 6) 9 = .ok (.aload_n 0, 1) := by decide +kernel
theorem x_6_10 : decode (q_code 6) 10 = .ok (.iload_n 1, 1) := by decide +kernel
theorem x_6_11 : decode (q_code 6) 11 = .ok (.aload_n 2, 1) := by decide +kernel
theorem x_6_12 : decode (q_code 6) 12 = .ok (.iconst 0, 1) := by decide +kernel
theorem x_6_13 : decode (q_code 6) 13 = .ok (.invokevirtual 89, 3) := by decide +kernel
theorem x_6_16 : decode (q_code 6) 16 = .ok (.iload_n 3, 1) := by decide +kernel
theorem x_6_17 : decode (q_code 6) 17 = .ok (.ifCond .eq 18, 3) := by decide +kernel
theorem x_6_20 : decode (q_code 6) 20 = .ok (.aload_n 0, 1) := by decide +kernel
theorem x_6_21 : decode (q_code 6) 21 = .ok (.iload 5, 2) := by decide +kernel
theorem x_6_23 : decode (q_code 6) 23 = .ok (.iload 4, 2) := by decide +kernel
theorem x_6_25 : decode (q_code 6) 25 = .ok (.invokevirtual 93, 3) := by decide +kernel
theorem x_6_28 : decode (q_code 6) 28 = .ok (.ifCond .eq 7, 3) := by decide +kernel
theorem x_6_31 : decode (q_code 6) 31 = .ok (.iconst 1, 1) := by decide +kernel
theorem x_6_32 : decode (q_code 6) 32 = .ok (.goto 4, 3) := by decide +kernel
theorem x_6_35 : decode (q_code 6) 35 = .ok (.iconst 0, 1) := by decide +kernel
theorem x_6_36 : decode (q_code 6) 36 = .ok (.istore 6, 2) := by decide +kernel
theorem x_6_38 : decode (q_code 6) 38 = .ok (.iload 5, 2) := by decide +kernel
theorem x_6_40 : decode (q_code 6) 40 = .ok (.istore 7, 2) := by decide +kernel
theorem x_6_42 : decode (q_code 6) 42 = .ok (.iload 7, 2) := by decide +kernel
theorem x_6_44 : decode (q_code 6) 44 = .ok (.aload_n 0, 1) := by decide +kernel
theorem x_6_45 : decode (q_code 6) 45 = .ok (.getfield 9, 3) := by decide +kernel
theorem x_6_48 : decode (q_code 6) 48 = .ok (.getfield 86, 3) := by decide +kernel
theorem x_6_51 : decode (q_code 6) 51 = .ok (.if_icmp .ge 94, 3) := by decide +kernel
theorem x_6_54 : decode (q_code 6) 54 = .ok (.iload_n 3, 1) := by decide +kernel
theorem x_6_55 : decode (q_code 6) 55 = .ok (.ifCond .eq 8, 3) := by decide +kernel
theorem x_6_58 : decode (q_code 6) 58 = .ok (.iload 6, 2) := by decide +kernel
theorem x_6_60 : decode (q_code 6) 60 = .ok (.ifCond .ne 85, 3) := by decide +kernel
theorem x_6_63 : decode (q_code 6) 63 = .ok (.aload_n 0, 1) := by decide +kernel
theorem x_6_64 : decode (q_code 6) 64 = .ok (.getfield 9, 3) := by decide +kernel
theorem x_6_67 : decode (q_code 6) 67 = .ok (.iload 7, 2) := by decide +kernel
theorem x_6_69 : decode (q_code 6) 69 = .ok (.invokevirtual 97, 3) := by decide +kernel
theorem x_6_72 : decode (q_code 6) 72 = .ok (.istore 8, 2) := by decide +kernel
theorem x_6_74 : decode (q_code 6) 74 = .ok (.aload_n 0, 1) := by decide +kernel
theorem x_6_75 : decode (q_code 6) 75 = .ok (.getfield 21, 3) := by decide +kernel
theorem x_6_78 : decode (q_code 6) 78 = .ok (.iload 8, 2) := by decide +kernel
theorem x_6_80 : decode (q_code 6) 80 = .ok (.ldc 100, 2) := by decide +kernel
theorem x_6_82 : decode (q_code 6) 82 = .ok (.invokestatic 102, 3) := by decide +kernel
theorem x_6_85 : decode (q_code 6) 85 = .ok (.ifCond .eq 16, 3) := by decide +kernel
theorem x_6_88 : decode (q_code 6) 88 = .ok (.aload_n 0, 1) := by decide +kernel
theorem x_6_89 : decode (q_code 6) 89 = .ok (.iload 8, 2) := by decide +kernel
theorem x_6_91 : decode (q_code 6) 91 = .ok (.iconst 2, 1) := by decide +kernel
theorem x_6_92 : decode (q_code 6) 92 = .ok (.invokevirtual 106, 3) := by decide +kernel
theorem x_6_95 : decode (q_code 6) 95 = .ok (.ifCond .ne 19, 3) := by decide +kernel
theorem x_6_98 : decode (q_code 6) 98 = .ok (.goto 41, 3) := by decide +kernel
theorem x_6_101 : decode (q_code 6) 101 = .ok (.aload_n 0, 1) := by decide +kernel
theorem x_6_102 : decode (q_code 6) 102 = .ok (.iload 8, 2) := by decide +kernel
theorem x_6_104 : decode (q_code 6) 104 = .ok (.iconst 2, 1) := by decide +kernel
theorem x_6_105 : decode (q_code 6) 105 = .ok (.invokevirtual 109, 3) := by decide +kernel
theorem x_6_108 : decode (q_code 6) 108 = .ok (.ifCond .ne 6, 3) := by decide +kernel
theorem x_6_111 : decode (q_code 6) 111 = .ok (.goto 28, 3) := by decide +kernel
theorem x_6_114 : decode (q_code 6) 114 = .ok (.iload 6, 2) := by decide +kernel
theorem x_6_116 : decode (q_code 6) 116 = .ok (.ifCond .eq 13, 3) := by decide +kernel
theorem x_6_119 : decode (q_code 6) 119 = .ok (.aload_n 0, 1) := by decide +kernel
theorem x_6_120 : decode (q_code 6) 120 = .ok (.iload 4, 2) := by decide +kernel
theorem x_6_122 : decode (q_code 6) 122 = .ok (.iconst 2, 1) := by decide +kernel
theorem x_6_123 : decode (q_code 6) 123 = .ok (.invokevirtual 112, 3) := by decide +kernel
theorem x_6_126 : decode (q_code 6) 126 = .ok (.goto 10, 3) := by decide +kernel
theorem x_6_129 : decode (q_code 6) 129 = .ok (.aload_n 0, 1) := by decide +kernel
theorem x_6_130 : decode (q_code 6) 130 = .ok (.iconst 2, 1) := by decide +kernel
theorem x_6_131 : decode (q_code 6) 131 = .ok (.iload 4, 2) := by decide +kernel
theorem x_6_133 : decode (q_code 6) 133 = .ok (.invokevirtual 116, 3) := by decide +kernel
theorem x_6_136 : decode (q_code 6) 136 = .ok (.iconst 1, 1) := by decide +kernel
theorem x_6_137 : decode (q_code 6) 137 = .ok (.istore 6, 2) := by decide +kernel
theorem x_6_139 : decode (q_code 6) 139 = .ok (.iinc 7 1, 3) := by decide +kernel
theorem x_6_142 : decode (q_code 6) 142 = .ok (.goto (-100), 3) := by decide +kernel
theorem x_6_145 : decode (q_code 6) 145 = .ok (.aload_n 0, 1) := by decide +kernel
theorem x_6_146 : decode (q_code 6) 146 = .ok (.getfield 9, 3) := by decide +kernel
theorem x_6_149 : decode (q_code 6) 149 = .ok (.iload 5, 2) := by decide +kernel
theorem x_6_151 : decode (q_code 6) 151 = .ok (.putfield 86, 3) := by decide +kernel
theorem x_6_154 : decode (q_code 6) 154 = .ok (.iload 6, 2) := by decide +kernel
theorem x_6_156 : decode (q_code 6) 156 = .ok (.ireturn, 1) := by decide +kernel
theorem x_7_0 : decode (q_code 7) 0 = .ok (.iload_n 1, 1) := by decide +kernel
theorem x_7_1 : decode (q_code 7) 1 = .ok (.istore_n 3, 1) := by decide +kernel
theorem x_7_2 : decode (q_code 7) 2 = .ok (.iload_n 3, 1) := by decide +kernel
theorem x_7_3 : decode (q_code 7) 3 = .ok (.aload_n 0, 1) := by decide +kernel
theorem x_7_4 : decode (q_code 7) 4 = .ok (.getfield 9, 3) := by decide +kernel
theorem x_7_7 : decode (q_code 7) 7 = .ok (.getfield 86, 3) := by decide +kernel
theorem x_7_10 : decode (q_code 7) 10 = .ok (.if_icmp .ge 73, 3) := by decide +kernel
theorem x_7_13 : decode (q_code 7) 13 = .ok (.aload_n 0, 1) := by decide +kernel
theorem x_7_14 : decode (q_code 7) 14 = .ok (.getfield 21, 3) := by decide +kernel
theorem x_7_17 : decode (q_code 7) 17 = .ok (.aload_n 0, 1) := by decide +kernel
theorem x_7_18 : decode (q_code 7) 18 = .ok (.getfield 9, 3) := by decide +kernel
theorem x_7_21 : decode (q_code 7) 21 = .ok (.iload_n 3, 1) := by decide +kernel
theorem x_7_22 : decode (q_code 7) 22 = .ok (.invokevirtual 97, 3) := by decide +kernel
theorem x_7_25 : decode (q_code 7) 25 = .ok (.invokestatic 119, 3) := by decide +kernel
theorem x_7_28 : decode (q_code 7) 28 = .ok (.istore 4, 2) := by decide +kernel
theorem x_7_30 : decode (q_code 7) 30 = .ok (.iload 4, 2) := by decide +kernel
theorem x_7_32 : decode (q_code 7) 32 = .ok (.ifCond .eq 15, 3) := by decide +kernel
theorem x_7_35 : decode (q_code 7) 35 = .ok (.iload 4, 2) := by decide +kernel
theorem x_7_37 : decode (q_code 7) 37 = .ok (.iconst 1, 1) := by decide +kernel
theorem x_7_38 : decode (q_code 7) 38 = .ok (.if_icmp .eq 9, 3) := by decide +kernel
theorem x_7_41 : decode (q_code 7) 41 = .ok (.iload 4, 2) := by decide +kernel
theorem x_7_43 : decode (q_code 7) 43 = .ok (.iconst 3, 1) := by decide +kernel
theorem x_7_44 : decode (q_code 7) 44 = .ok (.if_icmp .ne 7, 3) := by decide +kernel
theorem x_7_47 : decode (q_code 7) 47 = .ok (.iconst 1, 1) := by decide +kernel
theorem x_7_48 : decode (q_code 7) 48 = .ok (.goto 4, 3) := by decide +kernel
theorem x_7_51 : decode (q_code 7) 51 = .ok (.iconst 0, 1) := by decide +kernel
theorem x_7_52 : decode (q_code 7) 52 = .ok (.istore 5, 2) := by decide +kernel
theorem x_7_54 : decode (q_code 7) 54 = .ok (.iload 5, 2) := by decide +kernel
theorem x_7_56 : decode (q_code 7) 56 = .ok (.ifCond .eq 21, 3) := by decide +kernel
theorem x_7_59 : decode (q_code 7) 59 = .ok (.aload_n 0, 1) := by decide +kernel
theorem x_7_60 : decode (q_code 7) 60 = .ok (.aload_n 0, 1) := by decide +kernel
theorem x_7_61 : decode (q_code 7) 61 = .ok (.getfield 9, 3) := by decide +kernel
theorem x_7_64 : decode (q_code 7) 64 = .ok (.iload_n 3, 1) := by decide +kernel
theorem x_7_65 : decode (q_code 7) 65 = .ok (.invokevirtual 97, 3) := by decide +kernel
theorem x_7_68 : decode (q_code 7) 68 = .ok (.iload_n 2, 1) := by decide +kernel
theorem x_7_69 : decode (q_code 7) 69 = .ok (.invokevirtual 109, 3) := by decide +kernel
theorem x_7_72 : decode (q_code 7) 72 = .ok (.ifCond .eq 5, 3) := by decide +kernel
theorem x_7_75 : decode (q_code 7) 75 = .ok (.iconst 1, 1) := by decide +kernel
theorem x_7_76 : decode (q_code 7) 76 = .ok (.ireturn, 1) := by decide +kernel
theorem x_7_77 : decode (q_code 7) 77 = .ok (.iinc 3 1, 3) := by decide +kernel
theorem x_7_80 : decode (q_code 7) 80 = .ok (.goto (-78), 3) := by decide +kernel
theorem x_7_83 : decode (q_code 7) 83 = .ok (.iconst 0, 1) := by decide +kernel
theorem x_7_84 : decode (q_code 7) 84 = .ok (.ireturn, 1) := by decide +kernel
theorem x_8_0 : decode (q_code 8) 0 = .ok (.aload_n 0, 1) := by decide +kernel
theorem x_8_1 : decode (q_code 8) 1 = .ok (.getfield 21, 3) := by decide +kernel
theorem x_8_4 : decode (q_code 8) 4 = .ok (.iload_n 1, 1) := by decide +kernel
theorem x_8_5 : decode (q_code 8) 5 = .ok (.invokestatic 124, 3) := by decide +kernel
theorem x_8_8 : decode (q_code 8) 8 = .ok (.istore 4, 2) := by decide +kernel
theorem x_8_10 : decode (q_code 8) 10 = .ok (.iconst 0, 1) := by decide +kernel
theorem x_8_11 : decode (q_code 8) 11 = .ok (.istore 5, 2) := by decide +kernel
theorem x_8_13 : decode (q_code 8) 13 = .ok (.iload 5, 2) := by decide +kernel
theorem x_8_15 : decode (q_code 8) 15 = .ok (.sipush 2000, 3) := by decide +kernel
theorem x_8_18 : decode (q_code 8) 18 = .ok (.if_icmp .ge 226, 3) := by decide +kernel
theorem x_8_21 : decode (q_code 8) 21 = .ok (.aload_n 0, 1) := by decide +kernel
theorem x_8_22 : decode (q_code 8) 22 = .ok (.getfield 21, 3) := by decide +kernel
theorem x_8_25 : decode (q_code 8) 25 = .ok (.iload 4, 2) := by decide +kernel
theorem x_8_27 : decode (q_code 8) 27 = .ok (.invokestatic 127, 3) := by decide +kernel
theorem x_8_30 : decode (q_code 8) 30 = .ok (.ifCond .eq 214, 3) := by decide +kernel
theorem x_8_33 : decode (q_code 8) 33 = .ok (.iload_n 3, 1) := by decide +kernel
theorem x_8_34 : decode (q_code 8) 34 = .ok (.bipush 60, 2) := by decide +kernel
theorem x_8_36 : decode (q_code 8) 36 = .ok (.if_icmp .ge 208, 3) := by decide +kernel
theorem x_8_39 : decode (q_code 8) 39 = .ok (.aload_n 0, 1) := by decide +kernel
theorem x_8_40 : decode (q_code 8) 40 = .ok (.getfield 21, 3) := by decide +kernel
theorem x_8_43 : decode (q_code 8) 43 = .ok (.iload 4, 2) := by decide +kernel
theorem x_8_45 : decode (q_code 8) 45 = .ok (.ldc 130, 2) := by decide +kernel
theorem x_8_47 : decode (q_code 8) 47 = .ok (.invokestatic 102, 3) := by decide +kernel
theorem x_8_50 : decode (q_code 8) 50 = .ok (.ifCond .eq 67, 3) := by decide +kernel
theorem x_8_53 : decode (q_code 8) 53 = .ok (.aload_n 0, 1) := by decide +kernel
theorem x_8_54 : decode (q_code 8) 54 = .ok (.getfield 21, 3) := by decide +kernel
theorem x_8_57 : decode (q_code 8) 57 = .ok (.iload 4, 2) := by decide +kernel
theorem x_8_59 : decode (q_code 8) 59 = .ok (.invokestatic 124, 3) := by decide +kernel
theorem x_8_62 : decode (q_code 8) 62 = .ok (.istore 6, 2) := by decide +kernel
theorem x_8_64 : decode (q_code 8) 64 = .ok (.iconst 0, 1) := by decide +kernel
theorem x_8_65 : decode (q_code 8) 65 = .ok (.istore 7, 2) := by decide +kernel
theorem x_8_67 : decode (q_code 8) 67 = .ok (.iload 7, 2) := by decide +kernel
theorem x_8_69 : decode (q_code 8) 69 = .ok (.sipush 2000, 3) := by decide +kernel
theorem x_8_72 : decode (q_code 8) 72 = .ok (.if_icmp .ge 42, 3) := by decide +kernel
theorem x_8_75 : decode (q_code 8) 75 = .ok (.aload_n 0, 1) := by decide +kernel
theorem x_8_76 : decode (q_code 8) 76 = .ok (.getfield 21, 3) := by decide +kernel
theorem x_8_79 : decode (q_code 8) 79 = .ok (.iload 6, 2) := by decide +kernel
theorem x_8_81 : decode (q_code 8) 81 = .ok (.invokestatic 127, 3) := by decide +kernel
theorem x_8_84 : decode (q_code 8) 84 = .ok (.ifCond .eq 30, 3) := by decide +kernel
theorem x_8_87 : decode (q_code 8) 87 = .ok (.aload_n 0, 1) := by decide +kernel
theorem x_8_88 : decode (q_code 8) 88 = .ok (.iload 6, 2) := by decide +kernel
theorem x_8_90 : decode (q_code 8) 90 = .ok (.aload_n 2, 1) := by decide +kernel
theorem x_8_91 : decode (q_code 8) 91 = .ok (.iload_n 3, 1) := by decide +kernel
theorem x_8_92 : decode (q_code 8) 92 = .ok (.iconst 1, 1) := by decide +kernel
theorem x_8_93 : decode (q_code 8) 93 = .ok (.iadd, 1) := by decide +kernel
theorem x_8_94 : decode (q_code 8) 94 = .ok (.invokevirtual 89, 3) := by decide +kernel
theorem x_8_97 : decode (q_code 8) 97 = .ok (.aload_n 0, 1) := by decide +kernel
theorem x_8_98 : decode (q_code 8) 98 = .ok (.getfield 21, 3) := by decide +kernel
theorem x_8_101 : decode (q_code 8) 101 = .ok (.iload 6, 2) := by decide +kernel
theorem x_8_103 : decode (q_code 8) 103 = .ok (.invokestatic 132, 3) := by decide +kernel
theorem x_8_106 : decode (q_code 8) 106 = .ok (.istore 6, 2) := by decide +kernel
theorem x_8_108 : decode (q_code 8) 108 = .ok (.iinc 7 1, 3) := by decide +kernel
theorem x_8_111 : decode (q_code 8) 111 = .ok (.goto (-44), 3) := by decide +kernel
theorem x_8_114 : decode (q_code 8) 114 = .ok (.goto 113, 3) := by decide +kernel
theorem x_8_117 : decode (q_code 8) 117 = .ok (.aload_n 2, 1) := by decide +kernel
theorem x_8_118 : decode (q_code 8) 118 = .ok (.aload_n 0, 1) := by decide +kernel
theorem x_8_119 : decode (q_code 8) 119 = .ok (.getfield 21, 3) := by decide +kernel
theorem x_8_122 : decode (q_code 8) 122 = .ok (.iload 4, 2) := by decide +kernel
theorem x_8_124 : decode (q_code 8) 124 = .ok (.invokevirtual 135, 3) := by decide +kernel
theorem x_8_127 : decode (q_code 8) 127 = .ok (.ifCond .eq 100, 3) := by decide +kernel
theorem x_8_130 : decode (q_code 8) 130 = .ok (.aload_n 0, 1) := by decide +kernel
theorem x_8_131 : decode (q_code 8) 131 = .ok (.getfield 21, 3) := by decide +kernel
theorem x_8_134 : decode (q_code 8) 134 = .ok (.iload 4, 2) := by decide +kernel
theorem x_8_136 : decode (q_code 8) 136 = .ok (.invokestatic 141, 3) := by decide +kernel
theorem x_8_139 : decode (q_code 8) 139 = .ok (.ifCond .ne 7, 3) := by decide +kernel
theorem x_8_142 : decode (q_code 8) 142 = .ok (.iconst 1, 1) := by decide +kernel
theorem x_8_143 : decode (q_code 8) 143 = .ok (.goto 4, 3) := by decide +kernel
theorem x_8_146 : decode (q_code 8) 146 = .ok (.iconst 0, 1) := by decide +kernel
theorem x_8_147 : decode (q_code 8) 147 = .ok (.istore 6, 2) := by decide +kernel
theorem x_8_149 : decode (q_code 8) 149 = .ok (.iload 6, 2) := by decide +kernel
theorem x_8_151 : decode (q_code 8) 151 = .ok (.ifCond .eq 8, 3) := by decide +kernel
theorem x_8_154 : decode (q_code 8) 154 = .ok (.iload 4, 2) := by decide +kernel
theorem x_8_156 : decode (q_code 8) 156 = .ok (.goto 12, 3) := by decide +kernel
theorem x_8_159 : decode (q_code 8) 159 = .ok (.aload_n 0, 1) := by decide +kernel
theorem x_8_160 : decode (q_code 8) 160 = .ok (.getfield 21, 3) := by decide +kernel
theorem x_8_163 : decode (q_code 8) 163 = .ok (.iload 4, 2) := by decide +kernel
theorem x_8_165 : decode (q_code 8) 165 = .ok (.invokestatic 124, 3) := by decide +kernel
theorem x_8_168 : decode (q_code 8) 168 = .ok (.istore 7, 2) := by decide +kernel
theorem x_8_170 : decode (q_code 8) 170 = .ok (.iconst 0, 1) := by decide +kernel
theorem x_8_171 : decode (q_code 8) 171 = .ok (.istore 8, 2) := by decide +kernel
theorem x_8_173 : decode (q_code 8) 173 = .ok (.iload 8, 2) := by decide +kernel
theorem x_8_175 : decode (q_code 8) 175 = .ok (.sipush 2000, 3) := by decide +kernel
theorem x_8_178 : decode (q_code 8) 178 = .ok (.if_icmp .ge 49, 3) := by decide +kernel
theorem x_8_181 : decode (q_code 8) 181 = .ok (.aload_n 0, 1) := by decide +kernel
theorem x_8_182 : decode (q_code 8) 182 = .ok (.getfield 21, 3) := by decide +kernel
theorem x_8_185 : decode (q_code 8) 185 = .ok (.iload 7, 2) := by decide +kernel
theorem x_8_187 : decode (q_code 8) 187 = .ok (.invokestatic 127, 3) := by decide +kernel
theorem x_8_190 : decode (q_code 8) 190 = .ok (.ifCond .eq 37, 3) := by decide +kernel
theorem x_8_193 : decode (q_code 8) 193 = .ok (.aload_n 0, 1) := by decide +kernel
theorem x_8_194 : decode (q_code 8) 194 = .ok (.getfield 9, 3) := by decide +kernel
theorem x_8_197 : decode (q_code 8) 197 = .ok (.iload 7, 2) := by decide +kernel
theorem x_8_199 : decode (q_code 8) 199 = .ok (.invokevirtual 144, 3) := by decide +kernel
theorem x_8_202 : decode (q_code 8) 202 = .ok (.iload 6, 2) := by decide +kernel
theorem x_8_204 : decode (q_code 8) 204 = .ok (.ifCond .eq 6, 3) := by decide +kernel
theorem x_8_207 : decode (q_code 8) 207 = .ok (.goto 20, 3) := by decide +kernel
theorem x_8_210 : decode (q_code 8) 210 = .ok (.aload_n 0, 1) := by decide +kernel
theorem x_8_211 : decode (q_code 8) 211 = .ok (.getfield 21, 3) := by decide +kernel
theorem x_8_214 : decode (q_code 8) 214 = .ok (.iload 7, 2) := by decide +kernel
theorem x_8_216 : decode (q_code 8) 216 = .ok (.invokestatic 132, 3) := by decide +kernel
theorem x_8_219 : decode (q_code 8) 219 = .ok (.istore 7, 2) := by decide +kernel
theorem x_8_221 : decode (q_code 8) 221 = .ok (.iinc 8 1, 3) := by decide +kernel
theorem x_8_224 : decode (q_code 8) 224 = .ok (.goto (-51), 3) := by decide +kernel
theorem x_8_227 : decode (q_code 8) 227 = .ok (.aload_n 0, 1) := by decide +kernel
theorem x_8_228 : decode (q_code 8) 228 = .ok (.getfield 21, 3) := by decide +kernel
theorem x_8_231 : decode (q_code 8) 231 = .ok (.iload 4, 2) := by decide +kernel
theorem x_8_233 : decode (q_code 8) 233 = .ok (.invokestatic 132, 3) := by decide +kernel
theorem x_8_236 : decode (q_code 8) 236 = .ok (.istore 4, 2) := by decide +kernel
theorem x_8_238 : decode (q_code 8) 238 = .ok (.iinc 5 1, 3) := by decide +kernel
theorem x_8_241 : decode (q_code 8) 241 = .ok (.goto (-228), 3) := by decide +kernel
theorem x_8_244 : decode (q_code 8) 244 = .ok (.return_, 1) := by decide +kernel
theorem x_9_0 : decode (q_code 9) 0 = .ok (.aload_n 0, 1) := by decide +kernel
theorem x_9_1 : decode (q_code 9) 1 = .ok (.getfield 21, 3) := by decide +kernel
theorem x_9_4 : decode (q_code 9) 4 = .ok (.iload_n 1, 1) := by decide +kernel
theorem x_9_5 : decode (q_code 9) 5 = .ok (.invokestatic 148, 3) := by decide +kernel
theorem x_9_8 : decode (q_code 9) 8 = .ok (.ifCond .ne 5, 3) := by decide +kernel
theorem x_9_11 : decode (q_code 9) 11 = .ok (.iconst 0, 1) := by decide +kernel
theorem x_9_12 : decode (q_code 9) 12 = .ok (.ireturn, 1) := by decide +kernel
theorem x_9_13 : decode (q_code 9) 13 = .ok (.iconst 0, 1) := by decide +kernel
theorem x_9_14 : decode (q_code 9) 14 = .ok (.istore_n 3, 1) := by decide +kernel
theorem x_9_15 : decode (q_code 9) 15 = .ok (.aload_n 0, 1) := by decide +kernel
theorem x_9_16 : decode (q_code 9) 16 = .ok (.getfield 21, 3) := by decide +kernel
theorem x_9_19 : decode (q_code 9) 19 = .ok (.iload_n 1, 1) := by decide +kernel
theorem x_9_20 : decode (q_code 9) 20 = .ok (.invokestatic 124, 3) := by decide +kernel
theorem x_9_23 : decode (q_code 9) 23 = .ok (.istore 4, 2) := by decide +kernel
theorem x_9_25 : decode (q_code 9) 25 = .ok (.iconst 0, 1) := by decide +kernel
theorem x_9_26 : decode (q_code 9) 26 = .ok (.istore 5, 2) := by decide +kernel
theorem x_9_28 : decode (q_code 9) 28 = .ok (.iload 5, 2) := by decide +kernel
theorem x_9_30 : decode (q_code 9) 30 = .ok (.sipush 2000, 3) := by decide +kernel
theorem x_9_33 : decode (q_code 9) 33 = .ok (.if_icmp .ge 63, 3) := by decide +kernel
theorem x_9_36 : decode (q_code 9) 36 = .ok (.aload_n 0, 1) := by decide +kernel
theorem x_9_37 : decode (q_code 9) 37 = .ok (.getfield 21, 3) := by decide +kernel
theorem x_9_40 : decode (q_code 9) 40 = .ok (.iload 4, 2) := by decide +kernel
theorem x_9_42 : decode (q_code 9) 42 = .ok (.invokestatic 127, 3) := by decide +kernel
theorem x_9_45 : decode (q_code 9) 45 = .ok (.ifCond .eq 51, 3) := by decide +kernel
theorem x_9_48 : decode (q_code 9) 48 = .ok (.aload_n 0, 1) := by decide +kernel
theorem x_9_49 : decode (q_code 9) 49 = .ok (.iload 4, 2) := by decide +kernel
theorem x_9_51 : decode (q_code 9) 51 = .ok (.iconst 3, 1) := by decide +kernel
theorem x_9_52 : decode (q_code 9) 52 = .ok (.invokevirtual 109, 3) := by decide +kernel
theorem x_9_55 : decode (q_code 9) 55 = .ok (.ifCond .eq 24, 3) := by decide +kernel
theorem x_9_58 : decode (q_code 9) 58 = .ok (.iload_n 3, 1) := by decide +kernel
theorem x_9_59 : decode (q_code 9) 59 = .ok (.ifCond .eq 12, 3) := by decide +kernel
theorem x_9_62 : decode (q_code 9) 62 = .ok (.aload_n 0, 1) := by decide +kernel
theorem x_9_63 : decode (q_code 9) 63 = .ok (.iload_n 2, 1) := by decide +kernel
theorem x_9_64 : decode (q_code 9) 64 = .ok (.iconst 3, 1) := by decide +kernel
theorem x_9_65 : decode (q_code 9) 65 = .ok (.invokevirtual 112, 3) := by decide +kernel
theorem x_9_68 : decode (q_code 9) 68 = .ok (.goto 9, 3) := by decide +kernel
theorem x_9_71 : decode (q_code 9) 71 = .ok (.aload_n 0, 1) := by decide +kernel
theorem x_9_72 : decode (q_code 9) 72 = .ok (.iconst 3, 1) := by decide +kernel
theorem x_9_73 : decode (q_code 9) 73 = .ok (.iload_n 2, 1) := by decide +kernel
theorem x_9_74 : decode (q_code 9) 74 = .ok (.invokevirtual 116, 3) := by decide +kernel
theorem x_9_77 : decode (q_code 9) 77 = .ok (.iconst 1, 1) := by decide +kernel
theorem x_9_78 : decode (q_code 9) 78 = .ok (.istore_n 3, 1) := by decide +kernel
theorem x_9_79 : decode (q_code 9) 79 = .ok (.aload_n 0, 1) := by decide +kernel
theorem x_9_80 : decode (q_code 9) 80 = .ok (.getfield 21, 3) := by decide +kernel
theorem x_9_83 : decode (q_code 9) 83 = .ok (.iload 4, 2) := by decide +kernel
theorem x_9_85 : decode (q_code 9) 85 = .ok (.invokestatic 132, 3) := by decide +kernel
theorem x_9_88 : decode (q_code 9) 88 = .ok (.istore 4, 2) := by decide +kernel
theorem x_9_90 : decode (q_code 9) 90 = .ok (.iinc 5 1, 3) := by decide +kernel
theorem x_9_93 : decode (q_code 9) 93 = .ok (.goto (-65), 3) := by decide +kernel
theorem x_9_96 : decode (q_code 9) 96 = .ok (.iload_n 3, 1) := by decide +kernel
theorem x_9_97 : decode (q_code 9) 97 = .ok (.ifCond .eq 12, 3) := by decide +kernel
theorem x_9_100 : decode (q_code 9) 100 = .ok (.aload_n 0, 1) := by decide +kernel
theorem x_9_101 : decode (q_code 9) 101 = .ok (.iload_n 2, 1) := by decide +kernel
theorem x_9_102 : decode (q_code 9) 102 = .ok (.iconst 5, 1) := by decide +kernel
theorem x_9_103 : decode (q_code 9) 103 = .ok (.iconst (-1), 1) := by decide +kernel
theorem x_9_104 : decode (q_code 9) 104 = .ok (.iconst (-1), 1) := by decide +kernel
theorem x_9_105 : decode (q_code 9) 105 = .ok (.iconst 0, 1) := by decide +kernel
theorem x_9_106 : decode (q_code 9) 106 = .ok (.invokevirtual 151, 3) := by decide +kernel
theorem x_9_109 : decode (q_code 9) 109 = .ok (.iload_n 3, 1) := by decide +kernel
theorem x_9_110 : decode (q_code 9) 110 = .ok (.ireturn, 1) := by decide +kernel
theorem x_10_0 : decode (q_code 10) 0 = .ok (.aload_n 0, 1) := by decide +kernel
theorem x_10_1 : decode (q_code 10) 1 = .ok (.getfield 21, 3) := by decide +kernel
theorem x_10_4 : decode (q_code 10) 4 = .ok (.iload_n 1, 1) := by decide +kernel
theorem x_10_5 : decode (q_code 10) 5 = .ok (.invokestatic 119, 3) := by decide +kernel
theorem x_10_8 : decode (q_code 10) 8 = .ok (.istore_n 3, 1) := by decide +kernel
theorem x_10_9 : decode (q_code 10) 9 = .ok (.aload_n 0, 1) := by decide +kernel
theorem x_10_10 : decode (q_code 10) 10 = .ok (.getfield 29, 3) := by decide +kernel
theorem x_10_13 : decode (q_code 10) 13 = .ok (.iload_n 2, 1) := by decide +kernel
theorem x_10_14 : decode (q_code 10) 14 = .ok (.iconst 0, 1) := by decide +kernel
theorem x_10_15 : decode (q_code 10) 15 = .ok (.iastore, 1) := by decide +kernel
theorem x_10_16 : decode (q_code 10) 16 = .ok (.iload_n 3, 1) := by decide +kernel
theorem x_10_17 : decode (q_code 10) 17 = .ok (.iconst 3, 1) := by decide +kernel
theorem x_10_18 : decode (q_code 10) 18 = .ok (.if_icmp .eq 11, 3) := by decide +kernel
theorem x_10_21 : decode (q_code 10) 21 = .ok (.aload_n 0, 1) := by decide +kernel
theorem x_10_22 : decode (q_code 10) 22 = .ok (.iload_n 3, 1) := by decide +kernel
theorem x_10_23 : decode (q_code 10) 23 = .ok (.iload_n 1, 1) := by decide +kernel
theorem x_10_24 : decode (q_code 10) 24 = .ok (.iload_n 2, 1) := by decide +kernel
theorem x_10_25 : decode (q_code 10) 25 = .ok (.invokevirtual 155, 3) := by decide +kernel
theorem x_10_28 : decode (q_code 10) 28 = .ok (.ireturn, 1) := by decide +kernel
theorem x_10_29 : decode (q_code 10) 29 = .ok (.aload_n 0, 1) := by decide +kernel
theorem x_10_30 : decode (q_code 10) 30 = .ok (.getfield 21, 3) := by decide +kernel
theorem x_10_33 : decode (q_code 10) 33 = .ok (.iload_n 1, 1) := by decide +kernel
theorem x_10_34 : decode (q_code 10) 34 = .ok (.invokestatic 124, 3) := by decide +kernel
theorem x_10_37 : decode (q_code 10) 37 = .ok (.istore 4, 2) := by decide +kernel
theorem x_10_39 : decode (q_code 10) 39 = .ok (.iconst 0, 1) := by decide +kernel
theorem x_10_40 : decode (q_code 10) 40 = .ok (.istore 5, 2) := by decide +kernel
theorem x_10_42 : decode (q_code 10) 42 = .ok (.iload 5, 2) := by decide +kernel
theorem x_10_44 : decode (q_code 10) 44 = .ok (.sipush 2000, 3) := by decide +kernel
theorem x_10_47 : decode (q_code 10) 47 = .ok (.if_icmp .ge 124, 3) := by decide +kernel
theorem x_10_50 : decode (q_code 10) 50 = .ok (.aload_n 0, 1) := by decide +kernel
theorem x_10_51 : decode (q_code 10) 51 = .ok (.getfield 21, 3) := by decide +kernel
theorem x_10_54 : decode (q_code 10) 54 = .ok (.iload 4, 2) := by decide +kernel
theorem x_10_56 : decode (q_code 10) 56 = .ok (.invokestatic 127, 3) := by decide +kernel
theorem x_10_59 : decode (q_code 10) 59 = .ok (.ifCond .eq 112, 3) := by decide +kernel
theorem x_10_62 : decode (q_code 10) 62 = .ok (.aload_n 0, 1) := by decide +kernel
theorem x_10_63 : decode (q_code 10) 63 = .ok (.getfield 21, 3) := by decide +kernel
theorem x_10_66 : decode (q_code 10) 66 = .ok (.iload 4, 2) := by decide +kernel
theorem x_10_68 : decode (q_code 10) 68 = .ok (.invokestatic 127, 3) := by decide +kernel
theorem x_10_71 : decode (q_code 10) 71 = .ok (.iconst 4, 1) := by decide +kernel
theorem x_10_72 : decode (q_code 10) 72 = .ok (.if_icmp .ne 5, 3) := by decide +kernel
theorem x_10_75 : decode (q_code 10) 75 = .ok (.iconst 0, 1) := by decide +kernel
theorem x_10_76 : decode (q_code 10) 76 = .ok (.ireturn, 1) := by decide +kernel
theorem x_10_77 : decode (q_code 10) 77 = .ok (.iconst 0, 1) := by decide +kernel
theorem x_10_78 : decode (q_code 10) 78 = .ok (.istore 6, 2) := by decide +kernel
theorem x_10_80 : decode (q_code 10) 80 = .ok (.iconst 0, 1) := by decide +kernel
theorem x_10_81 : decode (q_code 10) 81 = .ok (.istore 7, 2) := by decide +kernel
theorem x_10_83 : decode (q_code 10) 83 = .ok (.iload 7, 2) := by decide +kernel
theorem x_10_85 : decode (q_code 10) 85 = .ok (.aload_n 0, 1) := by decide +kernel
theorem x_10_86 : decode (q_code 10) 86 = .ok (.getfield 29, 3) := by decide +kernel
theorem x_10_89 : decode (q_code 10) 89 = .ok (.iload_n 2, 1) := by decide +kernel
theorem x_10_90 : decode (q_code 10) 90 = .ok (.iaload, 1) := by decide +kernel
theorem x_10_91 : decode (q_code 10) 91 = .ok (.if_icmp .ge 51, 3) := by decide +kernel
theorem x_10_94 : decode (q_code 10) 94 = .ok (.iload 6, 2) := by decide +kernel
theorem x_10_96 : decode (q_code 10) 96 = .ok (.ifCond .ne 46, 3) := by decide +kernel
theorem x_10_99 : decode (q_code 10) 99 = .ok (.aload_n 0, 1) := by decide +kernel
theorem x_10_100 : decode (q_code 10) 100 = .ok (.getfield 21, 3) := by decide +kernel
theorem x_10_103 : decode (q_code 10) 103 = .ok (.iload 4, 2) := by decide +kernel
theorem x_10_105 : decode (q_code 10) 105 = .ok (.aload_n 0, 1) := by decide +kernel
theorem x_10_106 : decode (q_code 10) 106 = .ok (.getfield 21, 3) := by decide +kernel
theorem x_10_109 : decode (q_code 10) 109 = .ok (.aload_n 0, 1) := by decide +kernel
theorem x_10_110 : decode (q_code 10) 110 = .ok (.getfield 26, 3) := by decide +kernel
theorem x_10_113 : decode (q_code 10) 113 = .ok (.iload_n 2, 1) := by decide +kernel
theorem x_10_114 : decode (q_code 10) 114 = .ok (.aaload, 1) := by decide +kernel
theorem x_10_115 : decode (q_code 10) 115 = .ok (.iload 7, 2) := by decide +kernel
theorem x_10_117 : decode (q_code 10) 117 = .ok (.iconst 4, 1) := by decide +kernel
theorem x_10_118 : decode (q_code 10) 118 = .ok (.imul, 1) := by decide +kernel
theorem x_10_119 : decode (q_code 10) 119 = .ok (.iconst 1, 1) := by decide +kernel
theorem x_10_120 : decode (q_code 10) 120 = .ok (.iadd, 1) := by decide +kernel
theorem x_10_121 : decode (q_code 10) 121 = .ok (.iaload, 1) := by decide +kernel
theorem x_10_122 : decode (q_code 10) 122 = .ok (.iconst 0, 1) := by decide +kernel
theorem x_10_123 : decode (q_code 10) 123 = .ok (.invokestatic 82, 3) := by decide +kernel
theorem x_10_126 : decode (q_code 10) 126 = .ok (.ifCond .ne 7, 3) := by decide +kernel
theorem x_10_129 : decode (q_code 10) 129 = .ok (.iconst 1, 1) := by decide +kernel
theorem x_10_130 : decode (q_code 10) 130 = .ok (.goto 4, 3) := by decide +kernel
theorem x_10_133 : decode (q_code 10) 133 = .ok (.iconst 0, 1) := by decide +kernel
theorem x_10_134 : decode (q_code 10) 134 = .ok (.istore 6, 2) := by decide +kernel
theorem x_10_136 : decode (q_code 10) 136 = .ok (.iinc 7 1, 3) := by decide +kernel
theorem x_10_139 : decode (q_code 10) 139 = .ok (.goto (-56), 3) := by decide +kernel
theorem x_10_142 : decode (q_code 10) 142 = .ok (.iload 6, 2) := by decide +kernel
theorem x_10_144 : decode (q_code 10) 144 = .ok (.ifCond .ne 10, 3) := by decide +kernel
theorem x_10_147 : decode (q_code 10) 147 = .ok (.aload_n 0, 1) := by decide +kernel
theorem x_10_148 : decode (q_code 10) 148 = .ok (.iload_n 2, 1) := by decide +kernel
theorem x_10_149 : decode (q_code 10) 149 = .ok (.iload 4, 2) := by decide +kernel
theorem x_10_151 : decode (q_code 10) 151 = .ok (.invokevirtual 159, 3) := by decide +kernel
theorem x_10_154 : decode (q_code 10) 154 = .ok (.aload_n 0, 1) := by decide +kernel
theorem x_10_155 : decode (q_code 10) 155 = .ok (.getfield 21, 3) := by decide +kernel
theorem x_10_158 : decode (q_code 10) 158 = .ok (.iload 4, 2) := by decide +kernel
theorem x_10_160 : decode (q_code 10) 160 = .ok (.invokestatic 132, 3) := by decide +kernel
theorem x_10_163 : decode (q_code 10) 163 = .ok (.istore 4, 2) := by decide +kernel
theorem x_10_165 : decode (q_code 10) 165 = .ok (.iinc 5 1, 3) := by decide +kernel
theorem x_10_168 : decode (q_code 10) 168 = .ok (.goto (-126), 3) := by decide +kernel
theorem x_10_171 : decode (q_code 10) 171 = .ok (.iconst 1, 1) := by decide +kernel
theorem x_10_172 : decode (q_code 10) 172 = .ok (.ireturn, 1) := by decide +kernel
theorem x_11_0 : decode (q_code 11) 0 = .ok (.aload_n 0, 1) := by decide +kernel
theorem x_11_1 : decode (q_code 11) 1 = .ok (.getfield 21, 3) := by decide +kernel
theorem x_11_4 : decode (q_code 11) 4 = .ok (.iload_n 2, 1) := by decide +kernel
theorem x_11_5 : decode (q_code 11) 5 = .ok (.invokestatic 127, 3) := by decide +kernel
theorem x_11_8 : decode (q_code 11) 8 = .ok (.istore 4, 2) := by decide +kernel
theorem x_11_10 : decode (q_code 11) 10 = .ok (.iload_n 1, 1) := by decide +kernel
theorem x_11_11 : decode (q_code 11) 11 = .ok (.ifCond .eq 8, 3) := by decide +kernel
theorem x_11_14 : decode (q_code 11) 14 = .ok (.iload_n 1, 1) := by decide +kernel
theorem x_11_15 : decode (q_code 11) 15 = .ok (.iconst 1, 1) := by decide +kernel
theorem x_11_16 : decode (q_code 11) 16 = .ok (.if_icmp .ne 7, 3) := by decide +kernel
theorem x_11_19 : decode (q_code 11) 19 = .ok (.iconst 1, 1) := by decide +kernel
theorem x_11_20 : decode (q_code 11) 20 = .ok (.goto 4, 3) := by decide +kernel
theorem x_11_23 : decode (q_code 11) 23 = .ok (.iconst 0, 1) := by decide +kernel
theorem x_11_24 : decode (q_code 11) 24 = .ok (.istore 5, 2) := by decide +kernel
theorem x_11_26 : decode (q_code 11) 26 = .ok (.iload_n 1, 1) := by decide +kernel
theorem x_11_27 : decode (q_code 11) 27 = .ok (.iconst 5, 1) := by decide +kernel
theorem x_11_28 : decode (q_code 11) 28 = .ok (.if_icmp .eq 9, 3) := by decide +kernel
theorem x_11_31 : decode (q_code 11) 31 = .ok (.iload_n 1, 1) := by decide +kernel
theorem x_11_32 : decode (q_code 11) 32 = .ok (.bipush 6, 2) := by decide +kernel
theorem x_11_34 : decode (q_code 11) 34 = .ok (.if_icmp .ne 7, 3) := by decide +kernel
theorem x_11_37 : decode (q_code 11) 37 = .ok (.iconst 1, 1) := by decide +kernel
theorem x_11_38 : decode (q_code 11) 38 = .ok (.goto 4, 3) := by decide +kernel
theorem x_11_41 : decode (q_code 11) 41 = .ok (.iconst 0, 1) := by decide +kernel
theorem x_11_42 : decode (q_code 11) 42 = .ok (.istore 6, 2) := by decide +kernel
theorem x_11_44 : decode (q_code 11) 44 = .ok (.iload_n 1, 1) := by decide +kernel
theorem x_11_45 : decode (q_code 11) 45 = .ok (.bipush 7, 2) := by decide +kernel
theorem x_11_47 : decode (q_code 11) 47 = .ok (.if_icmp .eq 9, 3) := by decide +kernel
theorem x_11_50 : decode (q_code 11) 50 = .ok (.iload_n 1, 1) := by decide +kernel
theorem x_11_51 : decode (q_code 11) 51 = .ok (.bipush 8, 2) := by decide +kernel
theorem x_11_53 : decode (q_code 11) 53 = .ok (.if_icmp .ne 7, 3) := by decide +kernel
theorem x_11_56 : decode (q_code 11) 56 = .ok (.iconst 1, 1) := by decide +kernel
theorem x_11_57 : decode (q_code 11) 57 = .ok (.goto 4, 3) := by decide +kernel
theorem x_11_60 : decode (q_code 11) 60 = .ok (.iconst 0, 1) := by decide +kernel
theorem x_11_61 : decode (q_code 11) 61 = .ok (.istore 7, 2) := by decide +kernel
theorem x_11_63 : decode (q_code 11) 63 = .ok (.iload 5, 2) := by decide +kernel
theorem x_11_65 : decode (q_code 11) 65 = .ok (.ifCond .ne 15, 3) := by decide +kernel
theorem x_11_68 : decode (q_code 11) 68 = .ok (.iload_n 1, 1) := by decide +kernel
theorem x_11_69 : decode (q_code 11) 69 = .ok (.bipush 6, 2) := by decide +kernel
theorem x_11_71 : decode (q_code 11) 71 = .ok (.if_icmp .eq 9, 3) := by decide +kernel
theorem x_11_74 : decode (q_code 11) 74 = .ok (.iload_n 1, 1) := by decide +kernel
theorem x_11_75 : decode (q_code 11) 75 = .ok (.bipush 8, 2) := by decide +kernel
theorem x_11_77 : decode (q_code 11) 77 = .ok (.if_icmp .ne 7, 3) := by decide +kernel
theorem x_11_80 : decode (q_code 11) 80 = .ok (.iconst 1, 1) := by decide +kernel
theorem x_11_81 : decode (q_code 11) 81 = .ok (.goto 4, 3) := by decide +kernel
theorem x_11_84 : decode (q_code 11) 84 = .ok (.iconst 0, 1) := by decide +kernel
theorem x_11_85 : decode (q_code 11) 85 = .ok (.istore 8, 2) := by decide +kernel
theorem x_11_87 : decode (q_code 11) 87 = .ok (.iload 4, 2) := by decide +kernel
theorem x_11_89 : decode (q_code 11) 89 = .ok (.iconst 4, 1) := by decide +kernel
theorem x_11_90 : decode (q_code 11) 90 = .ok (.if_icmp .eq 18, 3) := by decide +kernel
theorem x_11_93 : decode (q_code 11) 93 = .ok (.iload 6, 2) := by decide +kernel
theorem x_11_95 : decode (q_code 11) 95 = .ok (.ifCond .ne 15, 3) := by decide +kernel
theorem x_11_98 : decode (q_code 11) 98 = .ok (.iload 7, 2) := by decide +kernel
theorem x_11_100 : decode (q_code 11) 100 = .ok (.ifCond .ne 10, 3) := by decide +kernel
theorem x_11_103 : decode (q_code 11) 103 = .ok (.iload 8, 2) := by decide +kernel
theorem x_11_105 : decode (q_code 11) 105 = .ok (.ifCond .ne 5, 3) := by decide +kernel
theorem x_11_108 : decode (q_code 11) 108 = .ok (.iconst 0, 1) := by decide +kernel
theorem x_11_109 : decode (q_code 11) 109 = .ok (.ireturn, 1) := by decide +kernel
theorem x_11_110 : decode (q_code 11) 110 = .ok (.iload 4, 2) := by decide +kernel
theorem x_11_112 : decode (q_code 11) 112 = .ok (.bipush 10, 2) := by decide +kernel
theorem x_11_114 : decode (q_code 11) 114 = .ok (.if_icmp .eq 8, 3) := by decide +kernel
theorem x_11_117 : decode (q_code 11) 117 = .ok (.iload 5, 2) := by decide +kernel
theorem x_11_119 : decode (q_code 11) 119 = .ok (.ifCond .eq 17, 3) := by decide +kernel
theorem x_11_122 : decode (q_code 11) 122 = .ok (.iload 8, 2) := by decide +kernel
theorem x_11_124 : decode (q_code 11) 124 = .ok (.ifCond .eq 70, 3) := by decide +kernel
theorem x_11_127 : decode (q_code 11) 127 = .ok (.aload_n 0, 1) := by decide +kernel
theorem x_11_128 : decode (q_code 11) 128 = .ok (.iload_n 3, 1) := by decide +kernel
theorem x_11_129 : decode (q_code 11) 129 = .ok (.iload_n 2, 1) := by decide +kernel
theorem x_11_130 : decode (q_code 11) 130 = .ok (.invokevirtual 159, 3) := by decide +kernel
theorem x_11_133 : decode (q_code 11) 133 = .ok (.goto 61, 3) := by decide +kernel
theorem x_11_136 : decode (q_code 11) 136 = .ok (.iload 6, 2) := by decide +kernel
theorem x_11_138 : decode (q_code 11) 138 = .ok (.ifCond .eq 31, 3) := by decide +kernel
theorem x_11_141 : decode (q_code 11) 141 = .ok (.aload_n 0, 1) := by decide +kernel
theorem x_11_142 : decode (q_code 11) 142 = .ok (.iload_n 3, 1) := by decide +kernel
theorem x_11_143 : decode (q_code 11) 143 = .ok (.aload_n 0, 1) := by decide +kernel
theorem x_11_144 : decode (q_code 11) 144 = .ok (.getfield 21, 3) := by decide +kernel
theorem x_11_147 : decode (q_code 11) 147 = .ok (.iload_n 2, 1) := by decide +kernel
theorem x_11_148 : decode (q_code 11) 148 = .ok (.invokestatic 78, 3) := by decide +kernel
theorem x_11_151 : decode (q_code 11) 151 = .ok (.iconst (-1), 1) := by decide +kernel
theorem x_11_152 : decode (q_code 11) 152 = .ok (.iload_n 2, 1) := by decide +kernel
theorem x_11_153 : decode (q_code 11) 153 = .ok (.iload 8, 2) := by decide +kernel
theorem x_11_155 : decode (q_code 11) 155 = .ok (.ifCond .eq 7, 3) := by decide +kernel
theorem x_11_158 : decode (q_code 11) 158 = .ok (.iconst 2, 1) := by decide +kernel
theorem x_11_159 : decode (q_code 11) 159 = .ok (.goto 4, 3) := by decide +kernel
theorem x_11_162 : decode (q_code 11) 162 = .ok (.iconst 0, 1) := by decide +kernel
theorem x_11_163 : decode (q_code 11) 163 = .ok (.invokevirtual 151, 3) := by decide +kernel
theorem x_11_166 : decode (q_code 11) 166 = .ok (.goto 28, 3) := by decide +kernel
theorem x_11_169 : decode (q_code 11) 169 = .ok (.aload_n 0, 1) := by decide +kernel
theorem x_11_170 : decode (q_code 11) 170 = .ok (.iload_n 3, 1) := by decide +kernel
theorem x_11_171 : decode (q_code 11) 171 = .ok (.aload_n 0, 1) := by decide +kernel
theorem x_11_172 : decode (q_code 11) 172 = .ok (.getfield 21, 3) := by decide +kernel
theorem x_11_175 : decode (q_code 11) 175 = .ok (.iload_n 2, 1) := by decide +kernel
theorem x_11_176 : decode (q_code 11) 176 = .ok (.invokestatic 78, 3) := by decide +kernel
theorem x_11_179 : decode (q_code 11) 179 = .ok (.iload_n 2, 1) := by decide +kernel
theorem x_11_180 : decode (q_code 11) 180 = .ok (.iconst (-1), 1) := by decide +kernel
theorem x_11_181 : decode (q_code 11) 181 = .ok (.iload 8, 2) := by decide +kernel
theorem x_11_183 : decode (q_code 11) 183 = .ok (.ifCond .eq 7, 3) := by decide +kernel
theorem x_11_186 : decode (q_code 11) 186 = .ok (.iconst 1, 1) := by decide +kernel
theorem x_11_187 : decode (q_code 11) 187 = .ok (.goto 4, 3) := by decide +kernel
theorem x_11_190 : decode (q_code 11) 190 = .ok (.iconst 0, 1) := by decide +kernel
theorem x_11_191 : decode (q_code 11) 191 = .ok (.invokevirtual 151, 3) := by decide +kernel
theorem x_11_194 : decode (q_code 11) 194 = .ok (.iconst 1, 1) := by decide +kernel
theorem x_11_195 : decode (q_code 11) 195 = .ok (.ireturn, 1) := by decide +kernel
theorem x_12_0 : decode (q_code 12) 0 = .ok (.aload_n 0, 1) := by decide +kernel
theorem x_12_1 : decode (q_code 12) 1 = .ok (.iload_n 1, 1) := by decide +kernel
theorem x_12_2 : decode (q_code 12) 2 = .ok (.aload_n 0, 1) := by decide +kernel
theorem x_12_3 : decode (q_code 12) 3 = .ok (.getfield 21, 3) := by decide +kernel
theorem x_12_6 : decode (q_code 12) 6 = .ok (.iload_n 2, 1) := by decide +kernel
theorem x_12_7 : decode (q_code 12) 7 = .ok (.invokestatic 78, 3) := by decide +kernel
theorem x_12_10 : decode (q_code 12) 10 = .ok (.iload_n 2, 1) := by decide +kernel
theorem x_12_11 : decode (q_code 12) 11 = .ok (.iload_n 2, 1) := by decide +kernel
theorem x_12_12 : decode (q_code 12) 12 = .ok (.iconst 3, 1) := by decide +kernel
theorem x_12_13 : decode (q_code 12) 13 = .ok (.invokevirtual 151, 3) := by decide +kernel
theorem x_12_16 : decode (q_code 12) 16 = .ok (.return_, 1) := by decide +kernel
theorem x_13_0 : decode (q_code 13) 0 = .ok (.aload_n 0, 1) := by decide +kernel
theorem x_13_1 : decode (q_code 13) 1 = .ok (.getfield 29, 3) := by decide +kernel
theorem x_13_4 : decode (q_code 13) 4 = .ok (.iload_n 1, 1) := by decide +kernel
theorem x_13_5 : decode (q_code 13) 5 = .ok (.iaload, 1) := by decide +kernel
theorem x_13_6 : decode (q_code 13) 6 = .ok (.iconst 4, 1) := by decide +kernel
theorem x_13_7 : decode (q_code 13) 7 = .ok (.imul, 1) := by decide +kernel
theorem x_13_8 : decode (q_code 13) 8 = .ok (.istore 6, 2) := by decide +kernel
theorem x_13_10 : decode (q_code 13) 10 = .ok (.aload_n 0, 1) := by decide +kernel
theorem x_13_11 : decode (q_code 13) 11 = .ok (.getfield 26, 3) := by decide +kernel
theorem x_13_14 : decode (q_code 13) 14 = .ok (.iload_n 1, 1) := by decide +kernel
theorem x_13_15 : decode (q_code 13) 15 = .ok (.aaload, 1) := by decide +kernel
theorem x_13_16 : decode (q_code 13) 16 = .ok (.astore 7, 2) := by decide +kernel
theorem x_13_18 : decode (q_code 13) 18 = .ok (.iload 6, 2) := by decide +kernel
theorem x_13_20 : decode (q_code 13) 20 = .ok (.iconst 4, 1) := by decide +kernel
theorem x_13_21 : decode (q_code 13) 21 = .ok (.iadd, 1) := by decide +kernel
theorem x_13_22 : decode (q_code 13) 22 = .ok (.aload 7, 2) := by decide +kernel
theorem x_13_24 : decode (q_code 13) 24 = .ok (.arraylength, 1) := by decide +kernel
theorem x_13_25 : decode (q_code 13) 25 = .ok (.if_icmp .le 4, 3) := by decide +kernel
theorem x_13_28 : decode (q_code 13) 28 = .ok (.return_, 1) := by decide +kernel
theorem x_13_29 : decode (q_code 13) 29 = .ok (.aload 7, 2) := by decide +kernel
theorem x_13_31 : decode (q_code 13) 31 = .ok (.iload 6, 2) := by decide +kernel
theorem x_13_33 : decode (q_code 13) 33 = .ok (.iload_n 2, 1) := by decide +kernel
theorem x_13_34 : decode (q_code 13) 34 = .ok (.iastore, 1) := by decide +kernel
theorem x_13_35 : decode (q_code 13) 35 = .ok (.aload 7, 2) := by decide +kernel
theorem x_13_37 : decode (q_code 13) 37 = .ok (.iload 6, 2) := by decide +kernel
theorem x_13_39 : decode (q_code 13) 39 = .ok (.iconst 1, 1) := by decide +kernel
theorem x_13_40 : decode (q_code 13) 40 = .ok (.iadd, 1) := by decide +kernel
theorem x_13_41 : decode (q_code 13) 41 = .ok (.iload_n 3, 1) := by decide +kernel
theorem x_13_42 : decode (q_code 13) 42 = .ok (.iastore, 1) := by decide +kernel
theorem x_13_43 : decode (q_code 13) 43 = .ok (.aload 7, 2) := by decide +kernel
theorem x_13_45 : decode (q_code 13) 45 = .ok (.iload 6, 2) := by decide +kernel
theorem x_13_47 : decode (q_code 13) 47 = .ok (.iconst 2, 1) := by decide +kernel
theorem x_13_48 : decode (q_code 13) 48 = .ok (.iadd, 1) := by decide +kernel
theorem x_13_49 : decode (q_code 13) 49 = .ok (.iload 4, 2) := by decide +kernel
theorem x_13_51 : decode (q_code 13) 51 = .ok (.iastore, 1) := by decide +kernel
theorem x_13_52 : decode (q_code 13) 52 = .ok (.aload 7, 2) := by decide +kernel
theorem x_13_54 : decode (q_code 13) 54 = .ok (.iload 6, 2) := by decide +kernel
theorem x_13_56 : decode (q_code 13) 56 = .ok (.iconst 3, 1) := by decide +kernel
theorem x_13_57 : decode (q_code 13) 57 = .ok (.iadd, 1) := by decide +kernel
theorem x_13_58 : decode (q_code 13) 58 = .ok (.iload 5, 2) := by decide +kernel
theorem x_13_60 : decode (q_code 13) 60 = .ok (.iastore, 1) := by decide +kernel
theorem x_13_61 : decode (q_code 13) 61 = .ok (.aload_n 0, 1) := by decide +kernel
theorem x_13_62 : decode (q_code 13) 62 = .ok (.getfield 29, 3) := by decide +kernel
theorem x_13_65 : decode (q_code 13) 65 = .ok (.iload_n 1, 1) := by decide +kernel
theorem x_13_66 : decode (q_code 13) 66 = .ok (.dup2, 1) := by decide +kernel
theorem x_13_67 : decode (q_code 13) 67 = .ok (.iaload, 1) := by decide +kernel
theorem x_13_68 : decode (q_code 13) 68 = .ok (.iconst 1, 1) := by decide +kernel
theorem x_13_69 : decode (q_code 13) 69 = .ok (.iadd, 1) := by decide +kernel
theorem x_13_70 : decode (q_code 13) 70 = .ok (.iastore, 1) := by decide +kernel
theorem x_13_71 : decode (q_code 13) 71 = .ok (.return_, 1) := by decide +kernel
theorem x_14_0 : decode (q_code 14) 0 = .ok (.aload_n 0, 1) := by decide +kernel
theorem x_14_1 : decode (q_code 14) 1 = .ok (.getfield 26, 3) := by decide +kernel
theorem x_14_4 : decode (q_code 14) 4 = .ok (.iload_n 1, 1) := by decide +kernel
theorem x_14_5 : decode (q_code 14) 5 = .ok (.aaload, 1) := by decide +kernel
theorem x_14_6 : decode (q_code 14) 6 = .ok (.iconst 0, 1) := by decide +kernel
theorem x_14_7 : decode (q_code 14) 7 = .ok (.aload_n 0, 1) := by decide +kernel
theorem x_14_8 : decode (q_code 14) 8 = .ok (.getfield 26, 3) := by decide +kernel
theorem x_14_11 : decode (q_code 14) 11 = .ok (.iload_n 2, 1) := by decide +kernel
theorem x_14_12 : decode (q_code 14) 12 = .ok (.aaload, 1) := by decide +kernel
theorem x_14_13 : decode (q_code 14) 13 = .ok (.iconst 0, 1) := by decide +kernel
theorem x_14_14 : decode (q_code 14) 14 = .ok (.aload_n 0, 1) := by decide +kernel
theorem x_14_15 : decode (q_code 14) 15 = .ok (.getfield 29, 3) := by decide +kernel
theorem x_14_18 : decode (q_code 14) 18 = .ok (.iload_n 1, 1) := by decide +kernel
theorem x_14_19 : decode (q_code 14) 19 = .ok (.iaload, 1) := by decide +kernel
theorem x_14_20 : decode (q_code 14) 20 = .ok (.iconst 4, 1) := by decide +kernel
theorem x_14_21 : decode (q_code 14) 21 = .ok (.imul, 1) := by decide +kernel
theorem x_14_22 : decode (q_code 14) 22 = .ok (.invokestatic 162, 3) := by decide +kernel
theorem x_14_25 : decode (q_code 14) 25 = .ok (.aload_n 0, 1) := by decide +kernel
theorem x_14_26 : decode (q_code 14) 26 = .ok (.getfield 29, 3) := by decide +kernel
theorem x_14_29 : decode (q_code 14) 29 = .ok (.iload_n 2, 1) := by decide +kernel
theorem x_14_30 : decode (q_code 14) 30 = .ok (.aload_n 0, 1) := by decide +kernel
theorem x_14_31 : decode (q_code 14) 31 = .ok (.getfield 29, 3) := by decide +kernel
theorem x_14_34 : decode (q_code 14) 34 = .ok (.iload_n 1, 1) := by decide +kernel
theorem x_14_35 : decode (q_code 14) 35 = .ok (.iaload, 1) := by decide +kernel
theorem x_14_36 : decode (q_code 14) 36 = .ok (.iastore, 1) := by decide +kernel
theorem x_14_37 : decode (q_code 14) 37 = .ok (.return_, 1) := by decide +kernel
theorem x_15_0 : decode (q_code 15) 0 = .ok (.aload_n 0, 1) := by decide +kernel
theorem x_15_1 : decode (q_code 15) 1 = .ok (.getfield 29, 3) := by decide +kernel
theorem x_15_4 : decode (q_code 15) 4 = .ok (.iconst 4, 1) := by decide +kernel
theorem x_15_5 : decode (q_code 15) 5 = .ok (.iconst 0, 1) := by decide +kernel
theorem x_15_6 : decode (q_code 15) 6 = .ok (.iastore, 1) := by decide +kernel
theorem x_15_7 : decode (q_code 15) 7 = .ok (.iconst 0, 1) := by decide +kernel
theorem x_15_8 : decode (q_code 15) 8 = .ok (.istore_n 3, 1) := by decide +kernel
theorem x_15_9 : decode (q_code 15) 9 = .ok (.iload_n 3, 1) := by decide +kernel
theorem x_15_10 : decode (q_code 15) 10 = .ok (.aload_n 0, 1) := by decide +kernel
theorem x_15_11 : decode (q_code 15) 11 = .ok (.getfield 29, 3) := by decide +kernel
theorem x_15_14 : decode (q_code 15) 14 = .ok (.iload_n 1, 1) := by decide +kernel
theorem x_15_15 : decode (q_code 15) 15 = .ok (.iaload, 1) := by decide +kernel
theorem x_15_16 : decode (q_code 15) 16 = .ok (.if_icmp .ge 52, 3) := by decide +kernel
theorem x_15_19 : decode (q_code 15) 19 = .ok (.iconst 0, 1) := by decide +kernel
theorem x_15_20 : decode (q_code 15) 20 = .ok (.istore 4, 2) := by decide +kernel
theorem x_15_22 : decode (q_code 15) 22 = .ok (.iload 4, 2) := by decide +kernel
theorem x_15_24 : decode (q_code 15) 24 = .ok (.aload_n 0, 1) := by decide +kernel
theorem x_15_25 : decode (q_code 15) 25 = .ok (.getfield 29, 3) := by decide +kernel
theorem x_15_28 : decode (q_code 15) 28 = .ok (.iload_n 2, 1) := by decide +kernel
theorem x_15_29 : decode (q_code 15) 29 = .ok (.iaload, 1) := by decide +kernel
theorem x_15_30 : decode (q_code 15) 30 = .ok (.if_icmp .ge 32, 3) := by decide +kernel
theorem x_15_33 : decode (q_code 15) 33 = .ok (.aload_n 0, 1) := by decide +kernel
theorem x_15_34 : decode (q_code 15) 34 = .ok (.aload_n 0, 1) := by decide +kernel
theorem x_15_35 : decode (q_code 15) 35 = .ok (.getfield 26, 3) := by decide +kernel
theorem x_15_38 : decode (q_code 15) 38 = .ok (.iload_n 1, 1) := by decide +kernel
theorem x_15_39 : decode (q_code 15) 39 = .ok (.aaload, 1) := by decide +kernel
theorem x_15_40 : decode (q_code 15) 40 = .ok (.iload_n 3, 1) := by decide +kernel
theorem x_15_41 : decode (q_code 15) 41 = .ok (.iconst 4, 1) := by decide +kernel
theorem x_15_42 : decode (q_code 15) 42 = .ok (.imul, 1) := by decide +kernel
theorem x_15_43 : decode (q_code 15) 43 = .ok (.aload_n 0, 1) := by decide +kernel
theorem x_15_44 : decode (q_code 15) 44 = .ok (.getfield 26, 3) := by decide +kernel
theorem x_15_47 : decode (q_code 15) 47 = .ok (.iload_n 2, 1) := by decide +kernel
theorem x_15_48 : decode (q_code 15) 48 = .ok (.aaload, 1) := by decide +kernel
theorem x_15_49 : decode (q_code 15) 49 = .ok (.iload 4, 2) := by decide +kernel
theorem x_15_51 : decode (q_code 15) 51 = .ok (.iconst 4, 1) := by decide +kernel
theorem x_15_52 : decode (q_code 15) 52 = .ok (.imul, 1) := by decide +kernel
theorem x_15_53 : decode (q_code 15) 53 = .ok (.invokevirtual 168, 3) := by decide +kernel
theorem x_15_56 : decode (q_code 15) 56 = .ok (.iinc 4 1, 3) := by decide +kernel
theorem x_15_59 : decode (q_code 15) 59 = .ok (.goto (-37), 3) := by decide +kernel
theorem x_15_62 : decode (q_code 15) 62 = .ok (.iinc 3 1, 3) := by decide +kernel
theorem x_15_65 : decode (q_code 15) 65 = .ok (.goto (-56), 3) := by decide +kernel
theorem x_15_68 : decode (q_code 15) 68 = .ok (.aload_n 0, 1) := by decide +kernel
theorem x_15_69 : decode (q_code 15) 69 = .ok (.iconst 4, 1) := by decide +kernel
theorem x_15_70 : decode (q_code 15) 70 = .ok (.iload_n 1, 1) := by decide +kernel
theorem x_15_71 : decode (q_code 15) 71 = .ok (.invokevirtual 116, 3) := by decide +kernel
theorem x_15_74 : decode (q_code 15) 74 = .ok (.return_, 1) := by decide +kernel
theorem x_16_0 : decode (q_code 16) 0 = .ok (.aload_n 1, 1) := by decide +kernel
theorem x_16_1 : decode (q_code 16) 1 = .ok (.iload_n 2, 1) := by decide +kernel
theorem x_16_2 : decode (q_code 16) 2 = .ok (.iaload, 1) := by decide +kernel
theorem x_16_3 : decode (q_code 16) 3 = .ok (.aload_n 3, 1) := by decide +kernel
theorem x_16_4 : decode (q_code 16) 4 = .ok (.iload 4, 2) := by decide +kernel
theorem x_16_6 : decode (q_code 16) 6 = .ok (.iaload, 1) := by decide +kernel
theorem x_16_7 : decode (q_code 16) 7 = .ok (.if_icmp .eq 4, 3) := by decide +kernel
theorem x_16_10 : decode (q_code 16) 10 = .ok (.return_, 1) := by decide +kernel
theorem x_16_11 : decode (q_code 16) 11 = .ok (.iconst (-1), 1) := by decide +kernel
theorem x_16_12 : decode (q_code 16) 12 = .ok (.istore 5, 2) := by decide +kernel
theorem x_16_14 : decode (q_code 16) 14 = .ok (.iconst (-1), 1) := by decide +kernel
theorem x_16_15 : decode (q_code 16) 15 = .ok (.istore 6, 2) := by decide +kernel
theorem x_16_17 : decode (q_code 16) 17 = .ok (.iconst 0, 1) := by decide +kernel
theorem x_16_18 : decode (q_code 16) 18 = .ok (.istore 7, 2) := by decide +kernel
theorem x_16_20 : decode (q_code 16) 20 = .ok (.iconst 1, 1) := by decide +kernel
theorem x_16_21 : decode (q_code 16) 21 = .ok (.istore 8, 2) := by decide +kernel
theorem x_16_23 : decode (q_code 16) 23 = .ok (.iload 8, 2) := by decide +kernel
theorem x_16_25 : decode (q_code 16) 25 = .ok (.iconst 2, 1) := by decide +kernel
theorem x_16_26 : decode (q_code 16) 26 = .ok (.if_icmp .gt 187, 3) := by decide +kernel
theorem x_16_29 : decode (q_code 16) 29 = .ok (.aload_n 1, 1) := by decide +kernel
theorem x_16_30 : decode (q_code 16) 30 = .ok (.iload_n 2, 1) := by decide +kernel
theorem x_16_31 : decode (q_code 16) 31 = .ok (.iload 8, 2) := by decide +kernel
theorem x_16_33 : decode (q_code 16) 33 = .ok (.iadd, 1) := by decide +kernel
theorem x_16_34 : decode (q_code 16) 34 = .ok (.iaload, 1) := by decide +kernel
theorem x_16_35 : decode (q_code 16) 35 = .ok (.istore 9, 2) := by decide +kernel
theorem x_16_37 : decode (q_code 16) 37 = .ok (.aload_n 3, 1) := by decide +kernel
theorem x_16_38 : decode (q_code 16) 38 = .ok (.iload 4, 2) := by decide +kernel
theorem x_16_40 : decode (q_code 16) 40 = .ok (.iload 8, 2) := by decide +kernel
theorem x_16_42 : decode (q_code 16) 42 = .ok (.iadd, 1) := by decide +kernel
theorem x_16_43 : decode (q_code 16) 43 = .ok (.iaload, 1) := by decide +kernel
theorem x_16_44 : decode (q_code 16) 44 = .ok (.istore 10, 2) := by decide +kernel
theorem x_16_46 : decode (q_code 16) 46 = .ok (.iload 9, 2) := by decide +kernel
theorem x_16_48 : decode (q_code 16) 48 = .ok (.iconst 0, 1) := by decide +kernel
theorem x_16_49 : decode (q_code 16) 49 = .ok (.invokestatic 172, 3) := by decide +kernel
theorem x_16_52 : decode (q_code 16) 52 = .ok (.iload 10, 2) := by decide +kernel
theorem x_16_54 : decode (q_code 16) 54 = .ok (.iconst 0, 1) := by decide +kernel
theorem x_16_55 : decode (q_code 16) 55 = .ok (.invokestatic 172, 3) := by decide +kernel
theorem x_16_58 : decode (q_code 16) 58 = .ok (.invokestatic 178, 3) := by decide +kernel
theorem x_16_61 : decode (q_code 16) 61 = .ok (.istore 11, 2) := by decide +kernel
theorem x_16_63 : decode (q_code 16) 63 = .ok (.iload 9, 2) := by decide +kernel
theorem x_16_65 : decode (q_code 16) 65 = .ok (.ifCond .lt 38, 3) := by decide +kernel
theorem x_16_68 : decode (q_code 16) 68 = .ok (.iload 10, 2) := by decide +kernel
theorem x_16_70 : decode (q_code 16) 70 = .ok (.ifCond .lt 33, 3) := by decide +kernel
theorem x_16_73 : decode (q_code 16) 73 = .ok (.aload_n 0, 1) := by decide +kernel
theorem x_16_74 : decode (q_code 16) 74 = .ok (.getfield 21, 3) := by decide +kernel
theorem x_16_77 : decode (q_code 16) 77 = .ok (.iload 9, 2) := by decide +kernel
theorem x_16_79 : decode (q_code 16) 79 = .ok (.aload_n 0, 1) := by decide +kernel
theorem x_16_80 : decode (q_code 16) 80 = .ok (.getfield 21, 3) := by decide +kernel
theorem x_16_83 : decode (q_code 16) 83 = .ok (.iload 10, 2) := by decide +kernel
theorem x_16_85 : decode (q_code 16) 85 = .ok (.iconst 0, 1) := by decide +kernel
theorem x_16_86 : decode (q_code 16) 86 = .ok (.invokestatic 82, 3) := by decide +kernel
theorem x_16_89 : decode (q_code 16) 89 = .ok (.iload 8, 2) := by decide +kernel
theorem x_16_91 : decode (q_code 16) 91 = .ok (.iconst 1, 1) := by decide +kernel
theorem x_16_92 : decode (q_code 16) 92 = .ok (.if_icmp .ne 7, 3) := by decide +kernel
theorem x_16_95 : decode (q_code 16) 95 = .ok (.iconst 1, 1) := by decide +kernel
theorem x_16_96 : decode (q_code 16) 96 = .ok (.goto 4, 3) := by decide +kernel
theorem x_16_99 : decode (q_code 16) 99 = .ok (.iconst (-1), 1) := by decide +kernel
theorem x_16_100 : decode (q_code 16) 100 = .ok (.imul, 1) := by decide +kernel
theorem x_16_101 : decode (q_code 16) 101 = .ok (.istore 11, 2) := by decide +kernel
theorem x_16_103 : decode (q_code 16) 103 = .ok (.iload 11, 2) := by decide +kernel
theorem x_16_105 : decode (q_code 16) 105 = .ok (.ifCond .gt 31, 3) := by decide +kernel
theorem x_16_108 : decode (q_code 16) 108 = .ok (.iload 11, 2) := by decide +kernel
theorem x_16_110 : decode (q_code 16) 110 = .ok (.ifCond .ne 30, 3) := by decide +kernel
theorem x_16_113 : decode (q_code 16) 113 = .ok (.aload_n 1, 1) := by decide +kernel
theorem x_16_114 : decode (q_code 16) 114 = .ok (.iload_n 2, 1) := by decide +kernel
theorem x_16_115 : decode (q_code 16) 115 = .ok (.iconst 3, 1) := by decide +kernel
theorem x_16_116 : decode (q_code 16) 116 = .ok (.iadd, 1) := by decide +kernel
theorem x_16_117 : decode (q_code 16) 117 = .ok (.iaload, 1) := by decide +kernel
theorem x_16_118 : decode (q_code 16) 118 = .ok (.iload 8, 2) := by decide +kernel
theorem x_16_120 : decode (q_code 16) 120 = .ok (.iand, 1) := by decide +kernel
theorem x_16_121 : decode (q_code 16) 121 = .ok (.ifCond .eq 15, 3) := by decide +kernel
theorem x_16_124 : decode (q_code 16) 124 = .ok (.aload_n 3, 1) := by decide +kernel
theorem x_16_125 : decode (q_code 16) 125 = .ok (.iload 4, 2) := by decide +kernel
theorem x_16_127 : decode (q_code 16) 127 = .ok (.iconst 3, 1) := by decide +kernel
theorem x_16_128 : decode (q_code 16) 128 = .ok (.iadd, 1) := by decide +kernel
theorem x_16_129 : decode (q_code 16) 129 = .ok (.iaload, 1) := by decide +kernel
theorem x_16_130 : decode (q_code 16) 130 = .ok (.iload 8, 2) := by decide +kernel
theorem x_16_132 : decode (q_code 16) 132 = .ok (.iand, 1) := by decide +kernel
theorem x_16_133 : decode (q_code 16) 133 = .ok (.ifCond .eq 7, 3) := by decide +kernel
theorem x_16_136 : decode (q_code 16) 136 = .ok (.iconst 1, 1) := by decide +kernel
theorem x_16_137 : decode (q_code 16) 137 = .ok (.goto 4, 3) := by decide +kernel
theorem x_16_140 : decode (q_code 16) 140 = .ok (.iconst 0, 1) := by decide +kernel
theorem x_16_141 : decode (q_code 16) 141 = .ok (.istore 12, 2) := by decide +kernel
theorem x_16_143 : decode (q_code 16) 143 = .ok (.iload 7, 2) := by decide +kernel
theorem x_16_145 : decode (q_code 16) 145 = .ok (.iload 12, 2) := by decide +kernel
theorem x_16_147 : decode (q_code 16) 147 = .ok (.ifCond .eq 11, 3) := by decide +kernel
theorem x_16_150 : decode (q_code 16) 150 = .ok (.aload_n 1, 1) := by decide +kernel
theorem x_16_151 : decode (q_code 16) 151 = .ok (.iload_n 2, 1) := by decide +kernel
theorem x_16_152 : decode (q_code 16) 152 = .ok (.iconst 3, 1) := by decide +kernel
theorem x_16_153 : decode (q_code 16) 153 = .ok (.iadd, 1) := by decide +kernel
theorem x_16_154 : decode (q_code 16) 154 = .ok (.iaload, 1) := by decide +kernel
theorem x_16_155 : decode (q_code 16) 155 = .ok (.goto 9, 3) := by decide +kernel
theorem x_16_158 : decode (q_code 16) 158 = .ok (.aload_n 3, 1) := by decide +kernel
theorem x_16_159 : decode (q_code 16) 159 = .ok (.iload 4, 2) := by decide +kernel
theorem x_16_161 : decode (q_code 16) 161 = .ok (.iconst 3, 1) := by decide +kernel
theorem x_16_162 : decode (q_code 16) 162 = .ok (.iadd, 1) := by decide +kernel
theorem x_16_163 : decode (q_code 16) 163 = .ok (.iaload, 1) := by decide +kernel
theorem x_16_164 : decode (q_code 16) 164 = .ok (.iload 8, 2) := by decide +kernel
theorem x_16_166 : decode (q_code 16) 166 = .ok (.iand, 1) := by decide +kernel
theorem x_16_167 : decode (q_code 16) 167 = .ok (.ior, 1) := by decide +kernel
theorem x_16_168 : decode (q_code 16) 168 = .ok (.istore 7, 2) := by decide +kernel
theorem x_16_170 : decode (q_code 16) 170 = .ok (.iload 8, 2) := by decide +kernel
theorem x_16_172 : decode (q_code 16) 172 = .ok (.iconst 1, 1) := by decide +kernel
theorem x_16_173 : decode (q_code 16) 173 = .ok (.if_icmp .ne 20, 3) := by decide +kernel
theorem x_16_176 : decode (q_code 16) 176 = .ok (.iload 12, 2) := by decide +kernel
theorem x_16_178 : decode (q_code 16) 178 = .ok (.ifCond .eq 8, 3) := by decide +kernel
theorem x_16_181 : decode (q_code 16) 181 = .ok (.iload 9, 2) := by decide +kernel
theorem x_16_183 : decode (q_code 16) 183 = .ok (.goto 5, 3) := by decide +kernel
theorem x_16_186 : decode (q_code 16) 186 = .ok (.iload 10, 2) := by decide +kernel
theorem x_16_188 : decode (q_code 16) 188 = .ok (.istore 5, 2) := by decide +kernel
theorem x_16_190 : decode (q_code 16) 190 = .ok (.goto 17, 3) := by decide +kernel
theorem x_16_193 : decode (q_code 16) 193 = .ok (.iload 12, 2) := by decide +kernel
theorem x_16_195 : decode (q_code 16) 195 = .ok (.ifCond .eq 8, 3) := by decide +kernel
theorem x_16_198 : decode (q_code 16) 198 = .ok (.iload 9, 2) := by decide +kernel
theorem x_16_200 : decode (q_code 16) 200 = .ok (.goto 5, 3) := by decide +kernel
theorem x_16_203 : decode (q_code 16) 203 = .ok (.iload 10, 2) := by decide +kernel
theorem x_16_205 : decode (q_code 16) 205 = .ok (.istore 6, 2) := by decide +kernel
theorem x_16_207 : decode (q_code 16) 207 = .ok (.iinc 8 1, 3) := by decide +kernel
theorem x_16_210 : decode (q_code 16) 210 = .ok (.goto (-187), 3) := by decide +kernel
theorem x_16_213 : decode (q_code 16) 213 = .ok (.iload 5, 2) := by decide +kernel
theorem x_16_215 : decode (q_code 16) 215 = .ok (.ifCond .lt 8, 3) := by decide +kernel
theorem x_16_218 : decode (q_code 16) 218 = .ok (.iload 6, 2) := by decide +kernel
theorem x_16_220 : decode (q_code 16) 220 = .ok (.ifCond .ge 7, 3) := by decide +kernel
theorem x_16_223 : decode (q_code 16) 223 = .ok (.iconst (-1), 1) := by decide +kernel
theorem x_16_224 : decode (q_code 16) 224 = .ok (.goto 19, 3) := by decide +kernel
theorem x_16_227 : decode (q_code 16) 227 = .ok (.aload_n 0, 1) := by decide +kernel
theorem x_16_228 : decode (q_code 16) 228 = .ok (.getfield 21, 3) := by decide +kernel
theorem x_16_231 : decode (q_code 16) 231 = .ok (.iload 5, 2) := by decide +kernel
theorem x_16_233 : decode (q_code 16) 233 = .ok (.aload_n 0, 1) := by decide +kernel
theorem x_16_234 : decode (q_code 16) 234 = .ok (.getfield 21, 3) := by decide +kernel
theorem x_16_237 : decode (q_code 16) 237 = .ok (.iload 6, 2) := by decide +kernel
theorem x_16_239 : decode (q_code 16) 239 = .ok (.iconst 0, 1) := by decide +kernel
theorem x_16_240 : decode (q_code 16) 240 = .ok (.invokestatic 82, 3) := by decide +kernel
theorem x_16_243 : decode (q_code 16) 243 = .ok (.istore 8, 2) := by decide +kernel
theorem x_16_245 : decode (q_code 16) 245 = .ok (.iload 8, 2) := by decide +kernel
theorem x_16_247 : decode (q_code 16) 247 = .ok (.ifCond .lt 14, 3) := by decide +kernel
theorem x_16_250 : decode (q_code 16) 250 = .ok (.iload 8, 2) := by decide +kernel
theorem x_16_252 : decode (q_code 16) 252 = .ok (.ifCond .ne 23, 3) := by decide +kernel
theorem x_16_255 : decode (q_code 16) 255 = .ok (.iload 7, 2) := by decide +kernel
theorem x_16_257 : decode (q_code 16) 257 = .ok (.iconst 3, 1) := by decide +kernel
theorem x_16_258 : decode (q_code 16) 258 = .ok (.if_icmp .ne 17, 3) := by decide +kernel
theorem x_16_261 : decode (q_code 16) 261 = .ok (.aload_n 0, 1) := by decide +kernel
theorem x_16_262 : decode (q_code 16) 262 = .ok (.iconst 4, 1) := by decide +kernel
theorem x_16_263 : decode (q_code 16) 263 = .ok (.aload_n 1, 1) := by decide +kernel
theorem x_16_264 : decode (q_code 16) 264 = .ok (.iload_n 2, 1) := by decide +kernel
theorem x_16_265 : decode (q_code 16) 265 = .ok (.iaload, 1) := by decide +kernel
theorem x_16_266 : decode (q_code 16) 266 = .ok (.iload 5, 2) := by decide +kernel
theorem x_16_268 : decode (q_code 16) 268 = .ok (.iload 6, 2) := by decide +kernel
theorem x_16_270 : decode (q_code 16) 270 = .ok (.iload 7, 2) := by decide +kernel
theorem x_16_272 : decode (q_code 16) 272 = .ok (.invokevirtual 151, 3) := by decide +kernel
theorem x_16_275 : decode (q_code 16) 275 = .ok (.return_, 1) := by decide +kernel
theorem m_X0_rankBy {d : Nat} {M : g_M} {Q : g_M → Prop} {a0 : Nat} {v1 : Int} (hv1 : g_InR v1) {v2 : Int} (hv2 : g_InR v2) (h : g_ok M → g_O M a0 0 ∧ (∀ M2, M2 = g_wi M a0 4 0 → g_ok M2 → (∀ M6, M6 = g_wi M2 a0 5 1 → g_ok M6 → ((v1 = 0 → Q M6) ∧ (¬ v1 = 0 → g_Call d 5 [.ref a0, g_n 0] M6 (g_qI fun r13 M10 => g_ext M6 M10 → g_ok M10 → g_InR r13 → ((r13 = 0 → g_Run d 1 38 [(0, .ref a0), (1, g_n v1), (2, g_n v2), (3, g_n r13)] [g_n 1, .ref a0] M10 (g_qV Q)) ∧ (¬ r13 = 0 → ((v2 = 0 → g_Run d 1 38 [(0, .ref a0), (1, g_n v1), (2, g_n v2), (3, g_n r13)] [g_n 2, .ref a0] M10 (g_qV Q)) ∧ (¬ v2 = 0 → g_Run d 1 38 [(0, .ref a0), (1, g_n v1), (2, g_n v2), (3, g_n r13)] [g_n 3, .ref a0] M10 (g_qV Q))))))))))) : g_Call (d + 1) 1 [.ref a0, g_n v1, g_n v2] M (g_qV Q) := by
  refine g_Call.ok fun hok0 => ?_
  replace h := h hok0
  refine r_body rfl (lv := [(0, .ref a0), (1, g_n v1), (2, g_n v2)]) rfl ?_
  refine g_Run.ok fun hok => ?_
  refine r_aload_n x_1_0 rfl ?_
  refine r_iconst x_1_1 ?_
  obtain ⟨hO1, h⟩ := h
  refine r_putI x_1_2 (ci := 0) (k := 4) (ns := 0) (by decide +kernel) (by decide) (g_f0 (by decide +kernel)) rfl (g_Rk rfl) trivial (kz := 4) rfl hO1 ?_
  obtain ⟨M2, hM3⟩ : ∃ Mz, Mz = g_wi M a0 4 0 := ⟨_, rfl⟩
  rw [← hM3]
  refine g_Run.ok fun hok4 => ?_
  replace h := h M2 hM3 hok4
  have hx5 := g_extW hM3
  replace hO1 := hO1.up hx5
  refine r_aload_n x_1_5 rfl ?_
  refine r_iconst x_1_6 ?_
  refine r_putI x_1_7 (ci := 0) (k := 5) (ns := 0) (by decide +kernel) (by decide) (g_f0 (by decide +kernel)) rfl (g_Rk rfl) trivial (kz := 5) rfl hO1 ?_
  obtain ⟨M6, hM7⟩ : ∃ Mz, Mz = g_wi M2 a0 5 1 := ⟨_, rfl⟩
  rw [← hM7]
  refine g_Run.ok fun hok8 => ?_
  replace h := h M6 hM7 hok8
  have hx9 := g_extW hM7
  replace hO1 := hO1.up hx9
  refine r_iload_n x_1_10 rfl ?_
  refine r_if_eq x_1_11 (t := 75) (by decide +kernel) hv1 (fun hc => ?_) (fun hc => ?_)
  · replace h := h.1 hc
    exact r_retV x_1_75 rfl h
  · replace h := h.2 hc
    refine r_aload_n x_1_14 rfl ?_
    refine r_iconst x_1_15 ?_
    refine r_invV x_1_16 (z := 5) (ns := 0) (by decide +kernel) (as := [g_n 0]) (r := []) rfl rfl rfl hO1 rfl rfl ?_
    refine r_callI h fun r13 M10 hx11 hok12 hr14 h => ?_
    replace h := h hx11 hok12 hr14
    replace hO1 := hO1.up hx11
    refine r_istore_n x_1_19 (by decide +kernel) rfl (lv1 := [(0, .ref a0), (1, g_n v1), (2, g_n v2), (3, g_n r13)]) rfl ?_
    refine r_aload_n x_1_20 rfl ?_
    refine r_iload_n x_1_21 rfl ?_
    refine r_if_ne x_1_22 (t := 29) (by decide +kernel) hr14 (fun hc => ?_) (fun hc => ?_)
    · replace h := h.2 hc
      refine r_iload_n x_1_29 rfl ?_
      refine r_if_eq x_1_30 (t := 37) (by decide +kernel) hv2 (fun hc => ?_) (fun hc => ?_)
      · replace h := h.1 hc
        refine r_iconst x_1_37 ?_
        exact h
      · replace h := h.2 hc
        refine r_iconst x_1_33 ?_
        refine r_goto x_1_34 (t := 38) (by decide +kernel) ?_
        exact h
    · replace h := h.1 hc
      refine r_iconst x_1_25 ?_
      refine r_goto x_1_26 (t := 38) (by decide +kernel) ?_
      exact h
theorem s_X0_rankBy_38 {d : Nat} {M : g_M} {Q : g_M → Prop} {a0 : Nat} {v1 : Int} (hv1 : g_InR v1) {v2 : Int} (hv2 : g_InR v2) {v3 : Int} (hv3 : g_InR v3) {w0 : Int} (hw0 : g_InR w0) {c1 : Nat} (h : g_ok M → g_O M c1 0 ∧ (∀ M2, M2 = g_wi M c1 4 w0 → g_ok M2 → g_O M2 a0 0 ∧ ((g_i M2 a0 4 = 3 → ∃ b16, g_r M2 a0 3 = some b16 ∧ ∃ n18, g_A M2 b16 1 n18 ∧ ((0 : Int) ≤ 0 ∧ (0 : Int) < n18) ∧ ∃ b21, g_r M2 a0 3 = some b21 ∧ ∃ n23, g_A M2 b21 1 n23 ∧ ((0 : Int) ≤ 1 ∧ (1 : Int) < n23) ∧ g_InR ((g_i M2 b16 0) * (g_i M2 b21 1)) ∧ (∀ M27, M27 = g_wi M2 a0 5 ((g_i M2 b16 0) * (g_i M2 b21 1)) → g_ok M27 → Q M27)) ∧ (¬ g_i M2 a0 4 = 3 → ∃ b7, g_r M2 a0 3 = some b7 ∧ ∃ n9, g_A M2 b7 1 n9 ∧ ((0 : Int) ≤ 0 ∧ (0 : Int) < n9) ∧ (∀ M12, M12 = g_wi M2 a0 5 (g_i M2 b7 0) → g_ok M12 → Q M12))))) : g_Run d 1 38 [(0, .ref a0), (1, g_n v1), (2, g_n v2), (3, g_n v3)] [g_n w0, .ref c1] M (g_qV Q) := by
  refine g_Run.ok fun hok => ?_
  replace h := h hok
  obtain ⟨hO1, h⟩ := h
  refine r_putI x_1_38 (ci := 0) (k := 4) (ns := 0) (by decide +kernel) (by decide) (g_f0 (by decide +kernel)) rfl hw0 trivial (kz := 4) rfl hO1 ?_
  obtain ⟨M2, hM3⟩ : ∃ Mz, Mz = g_wi M c1 4 w0 := ⟨_, rfl⟩
  rw [← hM3]
  refine g_Run.ok fun hok4 => ?_
  replace h := h M2 hM3 hok4
  have hx5 := g_extW hM3
  replace hO1 := hO1.up hx5
  refine r_aload_n x_1_41 rfl ?_
  refine r_aload_n x_1_42 rfl ?_
  obtain ⟨hO6, h⟩ := h
  refine r_getI x_1_43 rfl (ci := 0) (k := 4) (ns := 0) (by decide +kernel) (by decide) rfl (kz := 4) rfl hO6 ?_
  refine r_iconst x_1_46 ?_
  refine r_ic_ne x_1_47 (t := 66) (by decide +kernel) (hok4.1 _ _) (g_Rk rfl) (fun hc => ?_) (fun hc => ?_)
  · replace h := h.2 hc
    refine r_aload_n x_1_66 rfl ?_
    obtain ⟨b7, hb8, h⟩ := h
    refine r_getR x_1_67 rfl (ci := 0) (k := 3) (ns := 0) (by decide +kernel) (by decide) rfl (kz := 3) rfl hO6 hb8 ?_
    refine r_iconst x_1_70 ?_
    obtain ⟨n9, hA10, h⟩ := h
    obtain ⟨h11, h⟩ := h
    refine r_iald x_1_71 hA10 (g_Rk rfl) h11.1 h11.2 ?_
    refine r_putI x_1_72 (ci := 0) (k := 5) (ns := 0) (by decide +kernel) (by decide) (g_f0 (by decide +kernel)) rfl (hok4.1 _ _) trivial (kz := 5) rfl hO6 ?_
    obtain ⟨M12, hM13⟩ : ∃ Mz, Mz = g_wi M2 a0 5 (g_i M2 b7 0) := ⟨_, rfl⟩
    rw [← hM13]
    refine g_Run.ok fun hok14 => ?_
    replace h := h M12 hM13 hok14
    have hx15 := g_extW hM13
    replace hO1 := hO1.up hx15
    replace hO6 := hO6.up hx15
    replace hA10 := hA10.up hx15
    exact r_retV x_1_75 rfl h
  · replace h := h.1 hc
    refine r_aload_n x_1_50 rfl ?_
    obtain ⟨b16, hb17, h⟩ := h
    refine r_getR x_1_51 rfl (ci := 0) (k := 3) (ns := 0) (by decide +kernel) (by decide) rfl (kz := 3) rfl hO6 hb17 ?_
    refine r_iconst x_1_54 ?_
    obtain ⟨n18, hA19, h⟩ := h
    obtain ⟨h20, h⟩ := h
    refine r_iald x_1_55 hA19 (g_Rk rfl) h20.1 h20.2 ?_
    refine r_aload_n x_1_56 rfl ?_
    obtain ⟨b21, hb22, h⟩ := h
    refine r_getR x_1_57 rfl (ci := 0) (k := 3) (ns := 0) (by decide +kernel) (by decide) rfl (kz := 3) rfl hO6 hb22 ?_
    refine r_iconst x_1_60 ?_
    obtain ⟨n23, hA24, h⟩ := h
    obtain ⟨h25, h⟩ := h
    refine r_iald x_1_61 hA24 (g_Rk rfl) h25.1 h25.2 ?_
    refine r_imul x_1_62 ?_
    obtain ⟨h26, h⟩ := h
    refine r_goto x_1_63 (t := 72) (by decide +kernel) ?_
    refine r_putI x_1_72 (ci := 0) (k := 5) (ns := 0) (by decide +kernel) (by decide) (g_f0 (by decide +kernel)) rfl h26 trivial (kz := 5) rfl hO6 ?_
    obtain ⟨M27, hM28⟩ : ∃ Mz, Mz = g_wi M2 a0 5 ((g_i M2 b16 0) * (g_i M2 b21 1)) := ⟨_, rfl⟩
    rw [← hM28]
    refine g_Run.ok fun hok29 => ?_
    replace h := h M27 hM28 hok29
    have hx30 := g_extW hM28
    replace hO1 := hO1.up hx30
    replace hO6 := hO6.up hx30
    replace hA19 := hA19.up hx30
    replace hA24 := hA24.up hx30
    exact r_retV x_1_75 rfl h
theorem m_X0_looksAt {d : Nat} {M : g_M} {Q : Int → g_M → Prop} {a0 : Nat} {a1 : Nat} {a2 : Nat} (h : g_ok M → g_Run d 2 5 [(0, .ref a0), (1, .ref a1), (2, .ref a2), (3, g_n 0), (4, g_n 0)] [] M (g_qI Q)) : g_Call (d + 1) 2 [.ref a0, .ref a1, .ref a2] M (g_qI Q) := by
  refine g_Call.ok fun hok0 => ?_
  replace h := h hok0
  refine r_body rfl (lv := [(0, .ref a0), (1, .ref a1), (2, .ref a2)]) rfl ?_
  refine g_Run.ok fun hok => ?_
  refine r_iconst x_2_0 ?_
  refine r_istore_n x_2_1 (by decide +kernel) rfl (lv1 := [(0, .ref a0), (1, .ref a1), (2, .ref a2), (3, g_n 0)]) rfl ?_
  refine r_iconst x_2_2 ?_
  refine r_istore x_2_3 (by decide +kernel) rfl (lv1 := [(0, .ref a0), (1, .ref a1), (2, .ref a2), (3, g_n 0), (4, g_n 0)]) rfl ?_
  exact h
theorem s_X0_looksAt_5 {d : Nat} {M : g_M} {Q : Int → g_M → Prop} {a0 : Nat} {a1 : Nat} {a2 : Nat} {v3 : Int} (hv3 : g_InR v3) {v4 : Int} (hv4 : g_InR v4) (h : g_ok M → g_O M a2 8 ∧ ((v4 < g_i M a2 6 → ∃ b2, g_r M a2 2 = some b2 ∧ ∃ n4, g_A M b2 1 n4 ∧ g_InR n4 ∧ ((v4 < n4 → ∃ b7, g_r M a2 2 = some b7 ∧ ∃ n9, g_A M b7 1 n9 ∧ ((0 : Int) ≤ v4 ∧ (v4 : Int) < n9) ∧ g_O M a1 3 ∧ g_Call d 69 [.ref a1, g_n (g_i M b7 v4)] M (g_qI fun r16 M13 => g_ext M M13 → g_ok M13 → g_InR r16 → ∃ b18, g_r M13 a1 5 = some b18 ∧ g_O M13 a0 0 ∧ g_Call d 3 [.ref a0, g_n 0, .ref b18, g_n (g_i M13 a1 7)] M13 (g_qI fun r24 M21 => g_ext M13 M21 → g_ok M21 → g_InR r24 → ((r24 = 0 → g_InR (v4 + 1) ∧ g_Run d 2 5 [(0, .ref a0), (1, .ref a1), (2, .ref a2), (3, g_n v3), (4, g_n (v4 + 1))] [] M21 (g_qI Q)) ∧ (¬ r24 = 0 → ((g_i M21 a0 4 < 3 → g_InR (v3 + 1) ∧ g_InR (v4 + 1) ∧ g_Run d 2 5 [(0, .ref a0), (1, .ref a1), (2, .ref a2), (3, g_n (v3 + 1)), (4, g_n (v4 + 1))] [] M21 (g_qI Q)) ∧ (¬ g_i M21 a0 4 < 3 → ∃ b29, g_r M21 a1 6 = some b29 ∧ g_Call d 3 [.ref a0, g_n 1, .ref b29, g_n (g_i M21 a1 8)] M21 (g_qI fun r34 M31 => g_ext M21 M31 → g_ok M31 → g_InR r34 → ((r34 = 0 → g_InR (v4 + 1) ∧ g_Run d 2 5 [(0, .ref a0), (1, .ref a1), (2, .ref a2), (3, g_n v3), (4, g_n (v4 + 1))] [] M31 (g_qI Q)) ∧ (¬ r34 = 0 → g_InR (v3 + 1) ∧ g_InR (v4 + 1) ∧ g_Run d 2 5 [(0, .ref a0), (1, .ref a1), (2, .ref a2), (3, g_n (v3 + 1)), (4, g_n (v4 + 1))] [] M31 (g_qI Q))))))))))) ∧ (¬ v4 < n4 → Q v3 M))) ∧ (¬ v4 < g_i M a2 6 → Q v3 M))) : g_Run d 2 5 [(0, .ref a0), (1, .ref a1), (2, .ref a2), (3, g_n v3), (4, g_n v4)] [] M (g_qI Q) := by
  refine g_Run.ok fun hok => ?_
  replace h := h hok
  refine r_iload x_2_5 rfl ?_
  refine r_aload_n x_2_7 rfl ?_
  obtain ⟨hO1, h⟩ := h
  refine r_getI x_2_8 rfl (ci := 8) (k := 6) (ns := 1) (by decide +kernel) (by decide) rfl (kz := 6) rfl hO1 ?_
  refine r_ic_ge x_2_11 (t := 85) (by decide +kernel) hv4 (hok.1 _ _) (fun hc => ?_) (fun hc => ?_)
  · replace h := h.2 hc
    refine r_iload_n x_2_85 rfl ?_
    exact r_retI x_2_86 rfl hv3 h
  · replace h := h.1 hc
    refine r_iload x_2_14 rfl ?_
    refine r_aload_n x_2_16 rfl ?_
    obtain ⟨b2, hb3, h⟩ := h
    refine r_getR x_2_17 rfl (ci := 8) (k := 2) (ns := 1) (by decide +kernel) (by decide) rfl (kz := 2) rfl hO1 hb3 ?_
    obtain ⟨n4, hA5, h⟩ := h
    refine r_alen x_2_20 hA5 ?_
    obtain ⟨h6, h⟩ := h
    refine r_ic_ge x_2_21 (t := 85) (by decide +kernel) hv4 h6 (fun hc => ?_) (fun hc => ?_)
    · replace h := h.2 hc
      refine r_iload_n x_2_85 rfl ?_
      exact r_retI x_2_86 rfl hv3 h
    · replace h := h.1 hc
      refine r_aload_n x_2_24 rfl ?_
      refine r_aload_n x_2_25 rfl ?_
      obtain ⟨b7, hb8, h⟩ := h
      refine r_getR x_2_26 rfl (ci := 8) (k := 2) (ns := 1) (by decide +kernel) (by decide) rfl (kz := 2) rfl hO1 hb8 ?_
      refine r_iload x_2_29 rfl ?_
      obtain ⟨n9, hA10, h⟩ := h
      obtain ⟨h11, h⟩ := h
      refine r_iald x_2_31 hA10 hv4 h11.1 h11.2 ?_
      obtain ⟨hO12, h⟩ := h
      refine r_invV x_2_32 (z := 69) (ns := 1) (by decide +kernel) (as := [g_n (g_i M b7 v4)]) (r := []) rfl rfl rfl hO12 rfl rfl ?_
      refine r_callI h fun r16 M13 hx14 hok15 hr17 h => ?_
      replace h := h hx14 hok15 hr17
      replace hO1 := hO1.up hx14
      replace hO12 := hO12.up hx14
      replace hA5 := hA5.up hx14
      replace hA10 := hA10.up hx14
      refine r_pop x_2_35 rfl ?_
      refine r_aload_n x_2_36 rfl ?_
      refine r_iconst x_2_37 ?_
      refine r_aload_n x_2_38 rfl ?_
      obtain ⟨b18, hb19, h⟩ := h
      refine r_getR x_2_39 rfl (ci := 3) (k := 5) (ns := 1) (by decide +kernel) (by decide) rfl (kz := 5) rfl hO12 hb19 ?_
      refine r_aload_n x_2_42 rfl ?_
      refine r_getI x_2_43 rfl (ci := 3) (k := 7) (ns := 1) (by decide +kernel) (by decide) rfl (kz := 7) rfl hO12 ?_
      obtain ⟨hO20, h⟩ := h
      refine r_invV x_2_46 (z := 3) (ns := 0) (by decide +kernel) (as := [g_n 0, .ref b18, g_n (g_i M13 a1 7)]) (r := []) rfl rfl rfl hO20 rfl rfl ?_
      refine r_callI h fun r24 M21 hx22 hok23 hr25 h => ?_
      replace h := h hx22 hok23 hr25
      replace hO1 := hO1.up hx22
      replace hO12 := hO12.up hx22
      replace hO20 := hO20.up hx22
      replace hA5 := hA5.up hx22
      replace hA10 := hA10.up hx22
      refine r_if_eq x_2_49 (t := 79) (by decide +kernel) hr25 (fun hc => ?_) (fun hc => ?_)
      · replace h := h.1 hc
        obtain ⟨h26, h⟩ := h
        refine r_iinc x_2_79 (by decide +kernel) rfl rfl (lv1 := [(0, .ref a0), (1, .ref a1), (2, .ref a2), (3, g_n v3), (4, g_n (v4 + 1))]) rfl ?_
        refine r_goto x_2_82 (t := 5) (by decide +kernel) ?_
        exact h
      · replace h := h.2 hc
        refine r_aload_n x_2_52 rfl ?_
        refine r_getI x_2_53 rfl (ci := 0) (k := 4) (ns := 0) (by decide +kernel) (by decide) rfl (kz := 4) rfl hO20 ?_
        refine r_iconst x_2_56 ?_
        refine r_ic_lt x_2_57 (t := 76) (by decide +kernel) (hok23.1 _ _) (g_Rk rfl) (fun hc => ?_) (fun hc => ?_)
        · replace h := h.1 hc
          obtain ⟨h27, h⟩ := h
          refine r_iinc x_2_76 (by decide +kernel) rfl rfl (lv1 := [(0, .ref a0), (1, .ref a1), (2, .ref a2), (3, g_n (v3 + 1)), (4, g_n v4)]) rfl ?_
          obtain ⟨h28, h⟩ := h
          refine r_iinc x_2_79 (by decide +kernel) rfl rfl (lv1 := [(0, .ref a0), (1, .ref a1), (2, .ref a2), (3, g_n (v3 + 1)), (4, g_n (v4 + 1))]) rfl ?_
          refine r_goto x_2_82 (t := 5) (by decide +kernel) ?_
          exact h
        · replace h := h.2 hc
          refine r_aload_n x_2_60 rfl ?_
          refine r_iconst x_2_61 ?_
          refine r_aload_n x_2_62 rfl ?_
          obtain ⟨b29, hb30, h⟩ := h
          refine r_getR x_2_63 rfl (ci := 3) (k := 6) (ns := 1) (by decide +kernel) (by decide) rfl (kz := 6) rfl hO12 hb30 ?_
          refine r_aload_n x_2_66 rfl ?_
          refine r_getI x_2_67 rfl (ci := 3) (k := 8) (ns := 1) (by decide +kernel) (by decide) rfl (kz := 8) rfl hO12 ?_
          refine r_invV x_2_70 (z := 3) (ns := 0) (by decide +kernel) (as := [g_n 1, .ref b29, g_n (g_i M21 a1 8)]) (r := []) rfl rfl rfl hO20 rfl rfl ?_
          refine r_callI h fun r34 M31 hx32 hok33 hr35 h => ?_
          replace h := h hx32 hok33 hr35
          replace hO1 := hO1.up hx32
          replace hO12 := hO12.up hx32
          replace hO20 := hO20.up hx32
          replace hA5 := hA5.up hx32
          replace hA10 := hA10.up hx32
          refine r_if_eq x_2_73 (t := 79) (by decide +kernel) hr35 (fun hc => ?_) (fun hc => ?_)
          · replace h := h.1 hc
            obtain ⟨h36, h⟩ := h
            refine r_iinc x_2_79 (by decide +kernel) rfl rfl (lv1 := [(0, .ref a0), (1, .ref a1), (2, .ref a2), (3, g_n v3), (4, g_n (v4 + 1))]) rfl ?_
            refine r_goto x_2_82 (t := 5) (by decide +kernel) ?_
            exact h
          · replace h := h.2 hc
            obtain ⟨h37, h⟩ := h
            refine r_iinc x_2_76 (by decide +kernel) rfl rfl (lv1 := [(0, .ref a0), (1, .ref a1), (2, .ref a2), (3, g_n (v3 + 1)), (4, g_n v4)]) rfl ?_
            obtain ⟨h38, h⟩ := h
            refine r_iinc x_2_79 (by decide +kernel) rfl rfl (lv1 := [(0, .ref a0), (1, .ref a1), (2, .ref a2), (3, g_n (v3 + 1)), (4, g_n (v4 + 1))]) rfl ?_
            refine r_goto x_2_82 (t := 5) (by decide +kernel) ?_
            exact h
theorem m_X0_someIn {d : Nat} {M : g_M} {Q : Int → g_M → Prop} {a0 : Nat} {v1 : Int} (hv1 : g_InR v1) {a2 : Nat} {v3 : Int} (hv3 : g_InR v3) (h : g_ok M → g_Run d 3 3 [(0, .ref a0), (1, g_n v1), (2, .ref a2), (3, g_n v3), (4, g_n 0)] [] M (g_qI Q)) : g_Call (d + 1) 3 [.ref a0, g_n v1, .ref a2, g_n v3] M (g_qI Q) := by
  refine g_Call.ok fun hok0 => ?_
  replace h := h hok0
  refine r_body rfl (lv := [(0, .ref a0), (1, g_n v1), (2, .ref a2), (3, g_n v3)]) rfl ?_
  refine g_Run.ok fun hok => ?_
  refine r_iconst x_3_0 ?_
  refine r_istore x_3_1 (by decide +kernel) rfl (lv1 := [(0, .ref a0), (1, g_n v1), (2, .ref a2), (3, g_n v3), (4, g_n 0)]) rfl ?_
  exact h
theorem s_X0_someIn_3 {d : Nat} {M : g_M} {Q : Int → g_M → Prop} {a0 : Nat} {v1 : Int} (hv1 : g_InR v1) {a2 : Nat} {v3 : Int} (hv3 : g_InR v3) {v4 : Int} (hv4 : g_InR v4) (h : g_ok M → ((v4 < v3 → g_Run d 3 12 [(0, .ref a0), (1, g_n v1), (2, .ref a2), (3, g_n v3), (4, g_n v4), (5, g_n 0)] [] M (g_qI Q)) ∧ (¬ v4 < v3 → Q 0 M))) : g_Run d 3 3 [(0, .ref a0), (1, g_n v1), (2, .ref a2), (3, g_n v3), (4, g_n v4)] [] M (g_qI Q) := by
  refine g_Run.ok fun hok => ?_
  replace h := h hok
  refine r_iload x_3_3 rfl ?_
  refine r_iload_n x_3_5 rfl ?_
  refine r_ic_ge x_3_6 (t := 58) (by decide +kernel) hv4 hv3 (fun hc => ?_) (fun hc => ?_)
  · replace h := h.2 hc
    refine r_iconst x_3_58 ?_
    exact r_retZ x_3_59 rfl (Or.inl rfl) h
  · replace h := h.1 hc
    refine r_iconst x_3_9 ?_
    refine r_istore x_3_10 (by decide +kernel) rfl (lv1 := [(0, .ref a0), (1, g_n v1), (2, .ref a2), (3, g_n v3), (4, g_n v4), (5, g_n 0)]) rfl ?_
    exact h
theorem s_X0_someIn_12 {d : Nat} {M : g_M} {Q : Int → g_M → Prop} {a0 : Nat} {v1 : Int} (hv1 : g_InR v1) {a2 : Nat} {v3 : Int} (hv3 : g_InR v3) {v4 : Int} (hv4 : g_InR v4) {v5 : Int} (hv5 : g_InR v5) (h : g_ok M → g_O M a0 0 ∧ ∃ b2, g_r M a0 3 = some b2 ∧ ∃ n4, g_A M b2 1 n4 ∧ ((0 : Int) ≤ v1 ∧ (v1 : Int) < n4) ∧ ((v5 < g_i M b2 v1 → ∃ b8, g_r M a0 2 = some b8 ∧ ∃ n10, g_A M b8 5 n10 ∧ ((0 : Int) ≤ v1 ∧ (v1 : Int) < n10) ∧ ∃ b13, g_r M b8 v1 = some b13 ∧ g_InR (v5 * 4) ∧ ∃ n16, g_A M a2 1 n16 ∧ ((0 : Int) ≤ v4 ∧ (v4 : Int) < n16) ∧ g_Call d 4 [.ref a0, .ref b13, g_n (v5 * 4), g_n (g_i M a2 v4)] M (g_qI fun r22 M19 => g_ext M M19 → g_ok M19 → g_InR r22 → ((r22 = 0 → g_InR (v5 + 1) ∧ g_Run d 3 12 [(0, .ref a0), (1, g_n v1), (2, .ref a2), (3, g_n v3), (4, g_n v4), (5, g_n (v5 + 1))] [] M19 (g_qI Q)) ∧ (¬ r22 = 0 → Q 1 M19)))) ∧ (¬ v5 < g_i M b2 v1 → g_InR (v4 + 1) ∧ g_Run d 3 3 [(0, .ref a0), (1, g_n v1), (2, .ref a2), (3, g_n v3), (4, g_n (v4 + 1))] [] M (g_qI Q)))) : g_Run d 3 12 [(0, .ref a0), (1, g_n v1), (2, .ref a2), (3, g_n v3), (4, g_n v4), (5, g_n v5)] [] M (g_qI Q) := by
  refine g_Run.ok fun hok => ?_
  replace h := h hok
  refine r_iload x_3_12 rfl ?_
  refine r_aload_n x_3_14 rfl ?_
  obtain ⟨hO1, h⟩ := h
  obtain ⟨b2, hb3, h⟩ := h
  refine r_getR x_3_15 rfl (ci := 0) (k := 3) (ns := 0) (by decide +kernel) (by decide) rfl (kz := 3) rfl hO1 hb3 ?_
  refine r_iload_n x_3_18 rfl ?_
  obtain ⟨n4, hA5, h⟩ := h
  obtain ⟨h6, h⟩ := h
  refine r_iald x_3_19 hA5 hv1 h6.1 h6.2 ?_
  refine r_ic_ge x_3_20 (t := 52) (by decide +kernel) hv5 (hok.1 _ _) (fun hc => ?_) (fun hc => ?_)
  · replace h := h.2 hc
    obtain ⟨h7, h⟩ := h
    refine r_iinc x_3_52 (by decide +kernel) rfl rfl (lv1 := [(0, .ref a0), (1, g_n v1), (2, .ref a2), (3, g_n v3), (4, g_n (v4 + 1)), (5, g_n v5)]) rfl ?_
    refine r_goto x_3_55 (t := 3) (by decide +kernel) ?_
    refine g_drop [0, 1, 2, 3, 4] (lv1 := [(0, .ref a0), (1, g_n v1), (2, .ref a2), (3, g_n v3), (4, g_n (v4 + 1))]) rfl ?_
    exact h
  · replace h := h.1 hc
    refine r_aload_n x_3_23 rfl ?_
    refine r_aload_n x_3_24 rfl ?_
    obtain ⟨b8, hb9, h⟩ := h
    refine r_getR x_3_25 rfl (ci := 0) (k := 2) (ns := 0) (by decide +kernel) (by decide) rfl (kz := 2) rfl hO1 hb9 ?_
    refine r_iload_n x_3_28 rfl ?_
    obtain ⟨n10, hA11, h⟩ := h
    obtain ⟨h12, h⟩ := h
    obtain ⟨b13, hb14, h⟩ := h
    refine r_aald x_3_29 (by decide) hA11 hv1 h12.1 h12.2 hb14 ?_
    refine r_iload x_3_30 rfl ?_
    refine r_iconst x_3_32 ?_
    refine r_imul x_3_33 ?_
    obtain ⟨h15, h⟩ := h
    refine r_aload_n x_3_34 rfl ?_
    refine r_iload x_3_35 rfl ?_
    obtain ⟨n16, hA17, h⟩ := h
    obtain ⟨h18, h⟩ := h
    refine r_iald x_3_37 hA17 hv4 h18.1 h18.2 ?_
    refine r_invV x_3_38 (z := 4) (ns := 0) (by decide +kernel) (as := [.ref b13, g_n (v5 * 4), g_n (g_i M a2 v4)]) (r := []) rfl rfl rfl hO1 rfl rfl ?_
    refine r_callI h fun r22 M19 hx20 hok21 hr23 h => ?_
    replace h := h hx20 hok21 hr23
    replace hO1 := hO1.up hx20
    replace hA5 := hA5.up hx20
    replace hA11 := hA11.up hx20
    replace hA17 := hA17.up hx20
    refine r_if_eq x_3_41 (t := 46) (by decide +kernel) hr23 (fun hc => ?_) (fun hc => ?_)
    · replace h := h.1 hc
      obtain ⟨h24, h⟩ := h
      refine r_iinc x_3_46 (by decide +kernel) rfl rfl (lv1 := [(0, .ref a0), (1, g_n v1), (2, .ref a2), (3, g_n v3), (4, g_n v4), (5, g_n (v5 + 1))]) rfl ?_
      refine r_goto x_3_49 (t := 12) (by decide +kernel) ?_
      exact h
    · replace h := h.2 hc
      refine r_iconst x_3_44 ?_
      exact r_retZ x_3_45 rfl (Or.inr rfl) h
theorem m_X0_isIn {d : Nat} {M : g_M} {Q : Int → g_M → Prop} {a0 : Nat} {a1 : Nat} {v2 : Int} (hv2 : g_InR v2) {v3 : Int} (hv3 : g_InR v3) (h : g_ok M → g_O M a0 0 ∧ ∃ b2, g_r M a0 1 = some b2 ∧ g_Call d 120 [.ref b2, g_n v3] M (g_qI fun r7 M4 => g_ext M M4 → g_ok M4 → g_InR r7 → ∃ n9, g_A M4 a1 1 n9 ∧ ((0 : Int) ≤ v2 ∧ (v2 : Int) < n9) ∧ ((r7 = g_i M4 a1 v2 → g_InR (v2 + 1) ∧ ((0 : Int) ≤ v2 + 1 ∧ (v2 + 1 : Int) < n9) ∧ ((g_i M4 a1 (v2 + 1) < 0 → g_Run d 4 46 [(0, .ref a0), (1, .ref a1), (2, g_n v2), (3, g_n v3)] [g_n 1] M4 (g_qI Q)) ∧ (¬ g_i M4 a1 (v2 + 1) < 0 → ∃ b14, g_r M4 a0 1 = some b14 ∧ ∃ b16, g_r M4 a0 1 = some b16 ∧ g_InR (v2 + 1) ∧ ((0 : Int) ≤ v2 + 1 ∧ (v2 + 1 : Int) < n9) ∧ g_Call d 121 [.ref b14, g_n v3, .ref b16, g_n (g_i M4 a1 (v2 + 1)), g_n 0] M4 (g_qI fun r23 M20 => g_ext M4 M20 → g_ok M20 → g_InR r23 → g_Run d 4 46 [(0, .ref a0), (1, .ref a1), (2, g_n v2), (3, g_n v3)] [g_n r23] M20 (g_qI Q))))) ∧ (¬ r7 = g_i M4 a1 v2 → Q 0 M4)))) : g_Call (d + 1) 4 [.ref a0, .ref a1, g_n v2, g_n v3] M (g_qI Q) := by
  refine g_Call.ok fun hok0 => ?_
  replace h := h hok0
  refine r_body rfl (lv := [(0, .ref a0), (1, .ref a1), (2, g_n v2), (3, g_n v3)]) rfl ?_
  refine g_Run.ok fun hok => ?_
  refine r_aload_n x_4_0 rfl ?_
  obtain ⟨hO1, h⟩ := h
  obtain ⟨b2, hb3, h⟩ := h
  refine r_getR x_4_1 rfl (ci := 0) (k := 1) (ns := 0) (by decide +kernel) (by decide) rfl (kz := 1) rfl hO1 hb3 ?_
  refine r_iload_n x_4_4 rfl ?_
  refine r_invS x_4_5 (z := 120) (ns := 1) (by decide +kernel) (as := [.ref b2, g_n v3]) (r := []) rfl rfl rfl ?_
  refine r_callI h fun r7 M4 hx5 hok6 hr8 h => ?_
  replace h := h hx5 hok6 hr8
  replace hO1 := hO1.up hx5
  refine r_aload_n x_4_8 rfl ?_
  refine r_iload_n x_4_9 rfl ?_
  obtain ⟨n9, hA10, h⟩ := h
  obtain ⟨h11, h⟩ := h
  refine r_iald x_4_10 hA10 hv2 h11.1 h11.2 ?_
  refine r_ic_eq x_4_11 (t := 16) (by decide +kernel) hr8 (hok6.1 _ _) (fun hc => ?_) (fun hc => ?_)
  · replace h := h.1 hc
    refine r_aload_n x_4_16 rfl ?_
    refine r_iload_n x_4_17 rfl ?_
    refine r_iconst x_4_18 ?_
    refine r_iadd x_4_19 ?_
    obtain ⟨h12, h⟩ := h
    obtain ⟨h13, h⟩ := h
    refine r_iald x_4_20 hA10 h12 h13.1 h13.2 ?_
    refine r_if_ge x_4_21 (t := 28) (by decide +kernel) (hok6.1 _ _) (fun hc => ?_) (fun hc => ?_)
    · replace h := h.2 hc
      refine r_aload_n x_4_28 rfl ?_
      obtain ⟨b14, hb15, h⟩ := h
      refine r_getR x_4_29 rfl (ci := 0) (k := 1) (ns := 0) (by decide +kernel) (by decide) rfl (kz := 1) rfl hO1 hb15 ?_
      refine r_iload_n x_4_32 rfl ?_
      refine r_aload_n x_4_33 rfl ?_
      obtain ⟨b16, hb17, h⟩ := h
      refine r_getR x_4_34 rfl (ci := 0) (k := 1) (ns := 0) (by decide +kernel) (by decide) rfl (kz := 1) rfl hO1 hb17 ?_
      refine r_aload_n x_4_37 rfl ?_
      refine r_iload_n x_4_38 rfl ?_
      refine r_iconst x_4_39 ?_
      refine r_iadd x_4_40 ?_
      obtain ⟨h18, h⟩ := h
      obtain ⟨h19, h⟩ := h
      refine r_iald x_4_41 hA10 h18 h19.1 h19.2 ?_
      refine r_iconst x_4_42 ?_
      refine r_invS x_4_43 (z := 121) (ns := 1) (by decide +kernel) (as := [.ref b14, g_n v3, .ref b16, g_n (g_i M4 a1 (v2 + 1)), g_n 0]) (r := []) rfl rfl rfl ?_
      refine r_callI h fun r23 M20 hx21 hok22 hr24 h => ?_
      replace h := h hx21 hok22 hr24
      replace hO1 := hO1.up hx21
      replace hA10 := hA10.up hx21
      exact h
    · replace h := h.1 hc
      refine r_iconst x_4_24 ?_
      refine r_goto x_4_25 (t := 46) (by decide +kernel) ?_
      exact h
  · replace h := h.2 hc
    refine r_iconst x_4_14 ?_
    exact r_retZ x_4_15 rfl (Or.inl rfl) h
theorem s_X0_isIn_46 {d : Nat} {M : g_M} {Q : Int → g_M → Prop} {a0 : Nat} {a1 : Nat} {v2 : Int} (hv2 : g_InR v2) {v3 : Int} (hv3 : g_InR v3) {w0 : Int} (hw0 : g_InR w0) (h : g_ok M → g_InR (v2 + 2) ∧ ∃ n2, g_A M a1 1 n2 ∧ ((0 : Int) ≤ v2 + 2 ∧ (v2 + 2 : Int) < n2) ∧ ((g_i M a1 (v2 + 2) < 0 → g_Run d 4 78 [(0, .ref a0), (1, .ref a1), (2, g_n v2), (3, g_n v3), (4, g_n w0)] [g_n ((-1))] M (g_qI Q)) ∧ (¬ g_i M a1 (v2 + 2) < 0 → g_O M a0 0 ∧ ∃ b6, g_r M a0 1 = some b6 ∧ ∃ b8, g_r M a0 1 = some b8 ∧ g_InR (v2 + 2) ∧ ((0 : Int) ≤ v2 + 2 ∧ (v2 + 2 : Int) < n2) ∧ g_Call d 121 [.ref b6, g_n v3, .ref b8, g_n (g_i M a1 (v2 + 2)), g_n 0] M (g_qI fun r15 M12 => g_ext M M12 → g_ok M12 → g_InR r15 → g_Run d 4 78 [(0, .ref a0), (1, .ref a1), (2, g_n v2), (3, g_n v3), (4, g_n w0)] [g_n r15] M12 (g_qI Q))))) : g_Run d 4 46 [(0, .ref a0), (1, .ref a1), (2, g_n v2), (3, g_n v3)] [g_n w0] M (g_qI Q) := by
  refine g_Run.ok fun hok => ?_
  replace h := h hok
  refine r_istore x_4_46 (by decide +kernel) rfl (lv1 := [(0, .ref a0), (1, .ref a1), (2, g_n v2), (3, g_n v3), (4, g_n w0)]) rfl ?_
  refine r_aload_n x_4_48 rfl ?_
  refine r_iload_n x_4_49 rfl ?_
  refine r_iconst x_4_50 ?_
  refine r_iadd x_4_51 ?_
  obtain ⟨h1, h⟩ := h
  obtain ⟨n2, hA3, h⟩ := h
  obtain ⟨h4, h⟩ := h
  refine r_iald x_4_52 hA3 h1 h4.1 h4.2 ?_
  refine r_if_ge x_4_53 (t := 60) (by decide +kernel) (hok.1 _ _) (fun hc => ?_) (fun hc => ?_)
  · replace h := h.2 hc
    refine r_aload_n x_4_60 rfl ?_
    obtain ⟨hO5, h⟩ := h
    obtain ⟨b6, hb7, h⟩ := h
    refine r_getR x_4_61 rfl (ci := 0) (k := 1) (ns := 0) (by decide +kernel) (by decide) rfl (kz := 1) rfl hO5 hb7 ?_
    refine r_iload_n x_4_64 rfl ?_
    refine r_aload_n x_4_65 rfl ?_
    obtain ⟨b8, hb9, h⟩ := h
    refine r_getR x_4_66 rfl (ci := 0) (k := 1) (ns := 0) (by decide +kernel) (by decide) rfl (kz := 1) rfl hO5 hb9 ?_
    refine r_aload_n x_4_69 rfl ?_
    refine r_iload_n x_4_70 rfl ?_
    refine r_iconst x_4_71 ?_
    refine r_iadd x_4_72 ?_
    obtain ⟨h10, h⟩ := h
    obtain ⟨h11, h⟩ := h
    refine r_iald x_4_73 hA3 h10 h11.1 h11.2 ?_
    refine r_iconst x_4_74 ?_
    refine r_invS x_4_75 (z := 121) (ns := 1) (by decide +kernel) (as := [.ref b6, g_n v3, .ref b8, g_n (g_i M a1 (v2 + 2)), g_n 0]) (r := []) rfl rfl rfl ?_
    refine r_callI h fun r15 M12 hx13 hok14 hr16 h => ?_
    replace h := h hx13 hok14 hr16
    replace hO5 := hO5.up hx13
    replace hA3 := hA3.up hx13
    exact h
  · replace h := h.1 hc
    refine r_iconst x_4_56 ?_
    refine r_goto x_4_57 (t := 78) (by decide +kernel) ?_
    exact h
theorem s_X0_isIn_78 {d : Nat} {M : g_M} {Q : Int → g_M → Prop} {a0 : Nat} {a1 : Nat} {v2 : Int} (hv2 : g_InR v2) {v3 : Int} (hv3 : g_InR v3) {v4 : Int} (hv4 : g_InR v4) {w0 : Int} (hw0 : g_InR w0) (h : g_ok M → ((0 < v4 → g_Run d 4 100 [(0, .ref a0), (1, .ref a1), (2, g_n v2), (3, g_n v3), (4, g_n v4), (5, g_n w0)] [] M (g_qI Q)) ∧ (¬ 0 < v4 → ((v4 = 0 → g_InR (v2 + 3) ∧ ∃ n2, g_A M a1 1 n2 ∧ ((0 : Int) ≤ v2 + 3 ∧ (v2 + 3 : Int) < n2) ∧ ((g_and (g_i M a1 (v2 + 3)) 1 = 0 → Q 0 M) ∧ (¬ g_and (g_i M a1 (v2 + 3)) 1 = 0 → g_Run d 4 100 [(0, .ref a0), (1, .ref a1), (2, g_n v2), (3, g_n v3), (4, g_n v4), (5, g_n w0)] [] M (g_qI Q)))) ∧ (¬ v4 = 0 → Q 0 M))))) : g_Run d 4 78 [(0, .ref a0), (1, .ref a1), (2, g_n v2), (3, g_n v3), (4, g_n v4)] [g_n w0] M (g_qI Q) := by
  refine g_Run.ok fun hok => ?_
  replace h := h hok
  refine r_istore x_4_78 (by decide +kernel) rfl (lv1 := [(0, .ref a0), (1, .ref a1), (2, g_n v2), (3, g_n v3), (4, g_n v4), (5, g_n w0)]) rfl ?_
  refine r_iload x_4_80 rfl ?_
  refine r_if_gt x_4_82 (t := 100) (by decide +kernel) hv4 (fun hc => ?_) (fun hc => ?_)
  · replace h := h.1 hc
    exact h
  · replace h := h.2 hc
    refine r_iload x_4_85 rfl ?_
    refine r_if_ne x_4_87 (t := 124) (by decide +kernel) hv4 (fun hc => ?_) (fun hc => ?_)
    · replace h := h.2 hc
      refine r_iconst x_4_124 ?_
      exact r_retZ x_4_125 rfl (Or.inl rfl) h
    · replace h := h.1 hc
      refine r_aload_n x_4_90 rfl ?_
      refine r_iload_n x_4_91 rfl ?_
      refine r_iconst x_4_92 ?_
      refine r_iadd x_4_93 ?_
      obtain ⟨h1, h⟩ := h
      obtain ⟨n2, hA3, h⟩ := h
      obtain ⟨h4, h⟩ := h
      refine r_iald x_4_94 hA3 h1 h4.1 h4.2 ?_
      refine r_iconst x_4_95 ?_
      refine r_iand x_4_96 ?_
      refine r_if_eq x_4_97 (t := 124) (by decide +kernel) (g_InR_toInt _) (fun hc => ?_) (fun hc => ?_)
      · replace h := h.1 hc
        refine r_iconst x_4_124 ?_
        exact r_retZ x_4_125 rfl (Or.inl rfl) h
      · replace h := h.2 hc
        exact h
theorem s_X0_isIn_100 {d : Nat} {M : g_M} {Q : Int → g_M → Prop} {a0 : Nat} {a1 : Nat} {v2 : Int} (hv2 : g_InR v2) {v3 : Int} (hv3 : g_InR v3) {v4 : Int} (hv4 : g_InR v4) {v5 : Int} (hv5 : g_InR v5) (h : g_ok M → ((v5 < 0 → Q 1 M) ∧ (¬ v5 < 0 → ((v5 = 0 → g_InR (v2 + 3) ∧ ∃ n2, g_A M a1 1 n2 ∧ ((0 : Int) ≤ v2 + 3 ∧ (v2 + 3 : Int) < n2) ∧ ((g_and (g_i M a1 (v2 + 3)) 2 = 0 → Q 0 M) ∧ (¬ g_and (g_i M a1 (v2 + 3)) 2 = 0 → Q 1 M))) ∧ (¬ v5 = 0 → Q 0 M))))) : g_Run d 4 100 [(0, .ref a0), (1, .ref a1), (2, g_n v2), (3, g_n v3), (4, g_n v4), (5, g_n v5)] [] M (g_qI Q) := by
  refine g_Run.ok fun hok => ?_
  replace h := h hok
  refine r_iload x_4_100 rfl ?_
  refine r_if_lt x_4_102 (t := 120) (by decide +kernel) hv5 (fun hc => ?_) (fun hc => ?_)
  · replace h := h.1 hc
    refine r_iconst x_4_120 ?_
    refine r_goto x_4_121 (t := 125) (by decide +kernel) ?_
    exact r_retZ x_4_125 rfl (Or.inr rfl) h
  · replace h := h.2 hc
    refine r_iload x_4_105 rfl ?_
    refine r_if_ne x_4_107 (t := 124) (by decide +kernel) hv5 (fun hc => ?_) (fun hc => ?_)
    · replace h := h.2 hc
      refine r_iconst x_4_124 ?_
      exact r_retZ x_4_125 rfl (Or.inl rfl) h
    · replace h := h.1 hc
      refine r_aload_n x_4_110 rfl ?_
      refine r_iload_n x_4_111 rfl ?_
      refine r_iconst x_4_112 ?_
      refine r_iadd x_4_113 ?_
      obtain ⟨h1, h⟩ := h
      obtain ⟨n2, hA3, h⟩ := h
      obtain ⟨h4, h⟩ := h
      refine r_iald x_4_114 hA3 h1 h4.1 h4.2 ?_
      refine r_iconst x_4_115 ?_
      refine r_iand x_4_116 ?_
      refine r_if_eq x_4_117 (t := 124) (by decide +kernel) (g_InR_toInt _) (fun hc => ?_) (fun hc => ?_)
      · replace h := h.1 hc
        refine r_iconst x_4_124 ?_
        exact r_retZ x_4_125 rfl (Or.inl rfl) h
      · replace h := h.2 hc
        refine r_iconst x_4_120 ?_
        refine r_goto x_4_121 (t := 125) (by decide +kernel) ?_
        exact r_retZ x_4_125 rfl (Or.inr rfl) h
theorem m_X0_isPoints {d : Nat} {M : g_M} {Q : Int → g_M → Prop} {a0 : Nat} {v1 : Int} (hv1 : g_InR v1) (h : g_ok M → g_Run d 5 2 [(0, .ref a0), (1, g_n v1), (2, g_n 0)] [] M (g_qI Q)) : g_Call (d + 1) 5 [.ref a0, g_n v1] M (g_qI Q) := by
  refine g_Call.ok fun hok0 => ?_
  replace h := h hok0
  refine r_body rfl (lv := [(0, .ref a0), (1, g_n v1)]) rfl ?_
  refine g_Run.ok fun hok => ?_
  refine r_iconst x_5_0 ?_
  refine r_istore_n x_5_1 (by decide +kernel) rfl (lv1 := [(0, .ref a0), (1, g_n v1), (2, g_n 0)]) rfl ?_
  exact h
theorem s_X0_isPoints_2 {d : Nat} {M : g_M} {Q : Int → g_M → Prop} {a0 : Nat} {v1 : Int} (hv1 : g_InR v1) {v2 : Int} (hv2 : g_InR v2) (h : g_ok M → g_O M a0 0 ∧ ∃ b2, g_r M a0 3 = some b2 ∧ ∃ n4, g_A M b2 1 n4 ∧ ((0 : Int) ≤ v1 ∧ (v1 : Int) < n4) ∧ ((v2 < g_i M b2 v1 → ∃ b7, g_r M a0 2 = some b7 ∧ ∃ n9, g_A M b7 5 n9 ∧ ((0 : Int) ≤ v1 ∧ (v1 : Int) < n9) ∧ ∃ b12, g_r M b7 v1 = some b12 ∧ g_InR (v2 * 4) ∧ g_InR ((v2 * 4) + 1) ∧ ∃ n16, g_A M b12 1 n16 ∧ ((0 : Int) ≤ (v2 * 4) + 1 ∧ ((v2 * 4) + 1 : Int) < n16) ∧ ∃ b19, g_r M a0 2 = some b19 ∧ ∃ n21, g_A M b19 5 n21 ∧ ((0 : Int) ≤ v1 ∧ (v1 : Int) < n21) ∧ ∃ b24, g_r M b19 v1 = some b24 ∧ g_InR (v2 * 4) ∧ g_InR ((v2 * 4) + 2) ∧ ∃ n28, g_A M b24 1 n28 ∧ ((0 : Int) ≤ (v2 * 4) + 2 ∧ ((v2 * 4) + 2 : Int) < n28) ∧ ((g_i M b12 ((v2 * 4) + 1) < 0 → Q 0 M) ∧ (¬ g_i M b12 ((v2 * 4) + 1) < 0 → ((g_i M b24 ((v2 * 4) + 2) < 0 → Q 0 M) ∧ (¬ g_i M b24 ((v2 * 4) + 2) < 0 → ∃ b31, g_r M a0 1 = some b31 ∧ ∃ b33, g_r M a0 1 = some b33 ∧ g_Call d 121 [.ref b31, g_n (g_i M b12 ((v2 * 4) + 1)), .ref b33, g_n (g_i M b24 ((v2 * 4) + 2)), g_n 0] M (g_qI fun r38 M35 => g_ext M M35 → g_ok M35 → g_InR r38 → ((r38 = 0 → g_InR (v2 + 1) ∧ g_Run d 5 2 [(0, .ref a0), (1, g_n v1), (2, g_n (v2 + 1))] [] M35 (g_qI Q)) ∧ (¬ r38 = 0 → Q 0 M35)))))))) ∧ (¬ v2 < g_i M b2 v1 → Q 1 M))) : g_Run d 5 2 [(0, .ref a0), (1, g_n v1), (2, g_n v2)] [] M (g_qI Q) := by
  refine g_Run.ok fun hok => ?_
  replace h := h hok
  refine r_iload_n x_5_2 rfl ?_
  refine r_aload_n x_5_3 rfl ?_
  obtain ⟨hO1, h⟩ := h
  obtain ⟨b2, hb3, h⟩ := h
  refine r_getR x_5_4 rfl (ci := 0) (k := 3) (ns := 0) (by decide +kernel) (by decide) rfl (kz := 3) rfl hO1 hb3 ?_
  refine r_iload_n x_5_7 rfl ?_
  obtain ⟨n4, hA5, h⟩ := h
  obtain ⟨h6, h⟩ := h
  refine r_iald x_5_8 hA5 hv1 h6.1 h6.2 ?_
  refine r_ic_ge x_5_9 (t := 74) (by decide +kernel) hv2 (hok.1 _ _) (fun hc => ?_) (fun hc => ?_)
  · replace h := h.2 hc
    refine r_iconst x_5_74 ?_
    exact r_retZ x_5_75 rfl (Or.inr rfl) h
  · replace h := h.1 hc
    refine r_aload_n x_5_12 rfl ?_
    obtain ⟨b7, hb8, h⟩ := h
    refine r_getR x_5_13 rfl (ci := 0) (k := 2) (ns := 0) (by decide +kernel) (by decide) rfl (kz := 2) rfl hO1 hb8 ?_
    refine r_iload_n x_5_16 rfl ?_
    obtain ⟨n9, hA10, h⟩ := h
    obtain ⟨h11, h⟩ := h
    obtain ⟨b12, hb13, h⟩ := h
    refine r_aald x_5_17 (by decide) hA10 hv1 h11.1 h11.2 hb13 ?_
    refine r_iload_n x_5_18 rfl ?_
    refine r_iconst x_5_19 ?_
    refine r_imul x_5_20 ?_
    obtain ⟨h14, h⟩ := h
    refine r_iconst x_5_21 ?_
    refine r_iadd x_5_22 ?_
    obtain ⟨h15, h⟩ := h
    obtain ⟨n16, hA17, h⟩ := h
    obtain ⟨h18, h⟩ := h
    refine r_iald x_5_23 hA17 h15 h18.1 h18.2 ?_
    refine r_istore_n x_5_24 (by decide +kernel) rfl (lv1 := [(0, .ref a0), (1, g_n v1), (2, g_n v2), (3, g_n (g_i M b12 ((v2 * 4) + 1)))]) rfl ?_
    refine r_aload_n x_5_25 rfl ?_
    obtain ⟨b19, hb20, h⟩ := h
    refine r_getR x_5_26 rfl (ci := 0) (k := 2) (ns := 0) (by decide +kernel) (by decide) rfl (kz := 2) rfl hO1 hb20 ?_
    refine r_iload_n x_5_29 rfl ?_
    obtain ⟨n21, hA22, h⟩ := h
    obtain ⟨h23, h⟩ := h
    obtain ⟨b24, hb25, h⟩ := h
    refine r_aald x_5_30 (by decide) hA22 hv1 h23.1 h23.2 hb25 ?_
    refine r_iload_n x_5_31 rfl ?_
    refine r_iconst x_5_32 ?_
    refine r_imul x_5_33 ?_
    obtain ⟨h26, h⟩ := h
    refine r_iconst x_5_34 ?_
    refine r_iadd x_5_35 ?_
    obtain ⟨h27, h⟩ := h
    obtain ⟨n28, hA29, h⟩ := h
    obtain ⟨h30, h⟩ := h
    refine r_iald x_5_36 hA29 h27 h30.1 h30.2 ?_
    refine r_istore x_5_37 (by decide +kernel) rfl (lv1 := [(0, .ref a0), (1, g_n v1), (2, g_n v2), (3, g_n (g_i M b12 ((v2 * 4) + 1))), (4, g_n (g_i M b24 ((v2 * 4) + 2)))]) rfl ?_
    refine r_iload_n x_5_39 rfl ?_
    refine r_if_lt x_5_40 (t := 66) (by decide +kernel) (hok.1 _ _) (fun hc => ?_) (fun hc => ?_)
    · replace h := h.1 hc
      refine r_iconst x_5_66 ?_
      exact r_retZ x_5_67 rfl (Or.inl rfl) h
    · replace h := h.2 hc
      refine r_iload x_5_43 rfl ?_
      refine r_if_lt x_5_45 (t := 66) (by decide +kernel) (hok.1 _ _) (fun hc => ?_) (fun hc => ?_)
      · replace h := h.1 hc
        refine r_iconst x_5_66 ?_
        exact r_retZ x_5_67 rfl (Or.inl rfl) h
      · replace h := h.2 hc
        refine r_aload_n x_5_48 rfl ?_
        obtain ⟨b31, hb32, h⟩ := h
        refine r_getR x_5_49 rfl (ci := 0) (k := 1) (ns := 0) (by decide +kernel) (by decide) rfl (kz := 1) rfl hO1 hb32 ?_
        refine r_iload_n x_5_52 rfl ?_
        refine r_aload_n x_5_53 rfl ?_
        obtain ⟨b33, hb34, h⟩ := h
        refine r_getR x_5_54 rfl (ci := 0) (k := 1) (ns := 0) (by decide +kernel) (by decide) rfl (kz := 1) rfl hO1 hb34 ?_
        refine r_iload x_5_57 rfl ?_
        refine r_iconst x_5_59 ?_
        refine r_invS x_5_60 (z := 121) (ns := 1) (by decide +kernel) (as := [.ref b31, g_n (g_i M b12 ((v2 * 4) + 1)), .ref b33, g_n (g_i M b24 ((v2 * 4) + 2)), g_n 0]) (r := []) rfl rfl rfl ?_
        refine r_callI h fun r38 M35 hx36 hok37 hr39 h => ?_
        replace h := h hx36 hok37 hr39
        replace hO1 := hO1.up hx36
        replace hA5 := hA5.up hx36
        replace hA10 := hA10.up hx36
        replace hA17 := hA17.up hx36
        replace hA22 := hA22.up hx36
        replace hA29 := hA29.up hx36
        refine r_if_eq x_5_63 (t := 68) (by decide +kernel) hr39 (fun hc => ?_) (fun hc => ?_)
        · replace h := h.1 hc
          obtain ⟨h40, h⟩ := h
          refine r_iinc x_5_68 (by decide +kernel) rfl rfl (lv1 := [(0, .ref a0), (1, g_n v1), (2, g_n (v2 + 1)), (3, g_n (g_i M b12 ((v2 * 4) + 1))), (4, g_n (g_i M b24 ((v2 * 4) + 2)))]) rfl ?_
          refine r_goto x_5_71 (t := 2) (by decide +kernel) ?_
          refine g_drop [0, 1, 2] (lv1 := [(0, .ref a0), (1, g_n v1), (2, g_n (v2 + 1))]) rfl ?_
          exact h
        · replace h := h.2 hc
          refine r_iconst x_5_66 ?_
          exact r_retZ x_5_67 rfl (Or.inl rfl) h
theorem m_X0_bind {d : Nat} {M : g_M} {Q : Int → g_M → Prop} {a0 : Nat} {v1 : Int} (hv1 : g_InR v1) {a2 : Nat} {v3 : Int} (hv3 : g_InR v3) {v4 : Int} (hv4 : g_InR v4) (h : g_ok M → g_O M a0 0 ∧ ∃ b2, g_r M a0 0 = some b2 ∧ g_O M b2 7 ∧ g_Call d 8 [.ref a0, g_n v1, .ref a2, g_n 0] M (g_qV fun M5 => g_ext M M5 → g_ok M5 → ((v3 = 0 → g_Run d 6 42 [(0, .ref a0), (1, g_n v1), (2, .ref a2), (3, g_n v3), (4, g_n v4), (5, g_n (g_i M b2 2)), (6, g_n 0), (7, g_n (g_i M b2 2))] [] M5 (g_qI Q)) ∧ (¬ v3 = 0 → g_Call d 7 [.ref a0, g_n (g_i M b2 2), g_n v4] M5 (g_qI fun r11 M8 => g_ext M5 M8 → g_ok M8 → g_InR r11 → ((r11 = 0 → g_Run d 6 42 [(0, .ref a0), (1, g_n v1), (2, .ref a2), (3, g_n v3), (4, g_n v4), (5, g_n (g_i M b2 2)), (6, g_n 0), (7, g_n (g_i M b2 2))] [] M8 (g_qI Q)) ∧ (¬ r11 = 0 → g_Run d 6 42 [(0, .ref a0), (1, g_n v1), (2, .ref a2), (3, g_n v3), (4, g_n v4), (5, g_n (g_i M b2 2)), (6, g_n 1), (7, g_n (g_i M b2 2))] [] M8 (g_qI Q)))))))) : g_Call (d + 1) 6 [.ref a0, g_n v1, .ref a2, g_n v3, g_n v4] M (g_qI Q) := by
  refine g_Call.ok fun hok0 => ?_
  replace h := h hok0
  refine r_body rfl (lv := [(0, .ref a0), (1, g_n v1), (2, .ref a2), (3, g_n v3), (4, g_n v4)]) rfl ?_
  refine g_Run.ok fun hok => ?_
  refine r_aload_n x_6_0 rfl ?_
  obtain ⟨hO1, h⟩ := h
  obtain ⟨b2, hb3, h⟩ := h
  refine r_getR x_6_1 rfl (ci := 0) (k := 0) (ns := 0) (by decide +kernel) (by decide) rfl (kz := 0) rfl hO1 hb3 ?_
  obtain ⟨hO4, h⟩ := h
  refine r_getI x_6_4 rfl (ci := 7) (k := 2) (ns := 1) (by decide +kernel) (by decide) rfl (kz := 2) rfl hO4 ?_
  refine r_istore x_6_7 (by decide +kernel) rfl (lv1 := [(0, .ref a0), (1, g_n v1), (2, .ref a2), (3, g_n v3), (4, g_n v4), (5, g_n (g_i M b2 2))]) rfl ?_
  refine r_aload_n x_6_9 rfl ?_
  refine r_iload_n x_6_10 rfl ?_
  refine r_aload_n x_6_11 rfl ?_
  refine r_iconst x_6_12 ?_
  refine r_invV x_6_13 (z := 8) (ns := 0) (by decide +kernel) (as := [g_n v1, .ref a2, g_n 0]) (r := []) rfl rfl rfl hO1 rfl rfl ?_
  refine r_callV h fun M5 hx6 hok7 h => ?_
  replace h := h hx6 hok7
  replace hO1 := hO1.up hx6
  replace hO4 := hO4.up hx6
  refine r_iload_n x_6_16 rfl ?_
  refine r_if_eq x_6_17 (t := 35) (by decide +kernel) hv3 (fun hc => ?_) (fun hc => ?_)
  · replace h := h.1 hc
    refine r_iconst x_6_35 ?_
    refine r_istore x_6_36 (by decide +kernel) rfl (lv1 := [(0, .ref a0), (1, g_n v1), (2, .ref a2), (3, g_n v3), (4, g_n v4), (5, g_n (g_i M b2 2)), (6, g_n 0)]) rfl ?_
    refine r_iload x_6_38 rfl ?_
    refine r_istore x_6_40 (by decide +kernel) rfl (lv1 := [(0, .ref a0), (1, g_n v1), (2, .ref a2), (3, g_n v3), (4, g_n v4), (5, g_n (g_i M b2 2)), (6, g_n 0), (7, g_n (g_i M b2 2))]) rfl ?_
    exact h
  · replace h := h.2 hc
    refine r_aload_n x_6_20 rfl ?_
    refine r_iload x_6_21 rfl ?_
    refine r_iload x_6_23 rfl ?_
    refine r_invV x_6_25 (z := 7) (ns := 0) (by decide +kernel) (as := [g_n (g_i M b2 2), g_n v4]) (r := []) rfl rfl rfl hO1 rfl rfl ?_
    refine r_callI h fun r11 M8 hx9 hok10 hr12 h => ?_
    replace h := h hx9 hok10 hr12
    replace hO1 := hO1.up hx9
    replace hO4 := hO4.up hx9
    refine r_if_eq x_6_28 (t := 35) (by decide +kernel) hr12 (fun hc => ?_) (fun hc => ?_)
    · replace h := h.1 hc
      refine r_iconst x_6_35 ?_
      refine r_istore x_6_36 (by decide +kernel) rfl (lv1 := [(0, .ref a0), (1, g_n v1), (2, .ref a2), (3, g_n v3), (4, g_n v4), (5, g_n (g_i M b2 2)), (6, g_n 0)]) rfl ?_
      refine r_iload x_6_38 rfl ?_
      refine r_istore x_6_40 (by decide +kernel) rfl (lv1 := [(0, .ref a0), (1, g_n v1), (2, .ref a2), (3, g_n v3), (4, g_n v4), (5, g_n (g_i M b2 2)), (6, g_n 0), (7, g_n (g_i M b2 2))]) rfl ?_
      exact h
    · replace h := h.2 hc
      refine r_iconst x_6_31 ?_
      refine r_goto x_6_32 (t := 36) (by decide +kernel) ?_
      refine r_istore x_6_36 (by decide +kernel) rfl (lv1 := [(0, .ref a0), (1, g_n v1), (2, .ref a2), (3, g_n v3), (4, g_n v4), (5, g_n (g_i M b2 2)), (6, g_n 1)]) rfl ?_
      refine r_iload x_6_38 rfl ?_
      refine r_istore x_6_40 (by decide +kernel) rfl (lv1 := [(0, .ref a0), (1, g_n v1), (2, .ref a2), (3, g_n v3), (4, g_n v4), (5, g_n (g_i M b2 2)), (6, g_n 1), (7, g_n (g_i M b2 2))]) rfl ?_
      exact h
theorem s_X0_bind_42 {d : Nat} {M : g_M} {Q : Int → g_M → Prop} {a0 : Nat} {v1 : Int} (hv1 : g_InR v1) {a2 : Nat} {v3 : Int} (hv3 : g_InR v3) {v4 : Int} (hv4 : g_InR v4) {v5 : Int} (hv5 : g_InR v5) {v6 : Int} (hv6 : g_InR v6) {v7 : Int} (hv7 : g_InR v7) (h : g_ok M → g_O M a0 0 ∧ ∃ b2, g_r M a0 0 = some b2 ∧ g_O M b2 7 ∧ ((v7 < g_i M b2 2 → ((v3 = 0 → g_Run d 6 63 [(0, .ref a0), (1, g_n v1), (2, .ref a2), (3, g_n v3), (4, g_n v4), (5, g_n v5), (6, g_n v6), (7, g_n v7)] [] M (g_qI Q)) ∧ (¬ v3 = 0 → ((v6 = 0 → g_Run d 6 63 [(0, .ref a0), (1, g_n v1), (2, .ref a2), (3, g_n v3), (4, g_n v4), (5, g_n v5), (6, g_n v6), (7, g_n v7)] [] M (g_qI Q)) ∧ (¬ v6 = 0 → ∃ b12, g_r M a0 0 = some b12 ∧ g_O M b12 7 ∧ (∀ M15, M15 = g_wi M b12 2 v5 → g_ok M15 → (v6 = 0 ∨ v6 = 1) ∧ Q v6 M15)))))) ∧ (¬ v7 < g_i M b2 2 → ∃ b5, g_r M a0 0 = some b5 ∧ g_O M b5 7 ∧ (∀ M8, M8 = g_wi M b5 2 v5 → g_ok M8 → (v6 = 0 ∨ v6 = 1) ∧ Q v6 M8)))) : g_Run d 6 42 [(0, .ref a0), (1, g_n v1), (2, .ref a2), (3, g_n v3), (4, g_n v4), (5, g_n v5), (6, g_n v6), (7, g_n v7)] [] M (g_qI Q) := by
  refine g_Run.ok fun hok => ?_
  replace h := h hok
  refine r_iload x_6_42 rfl ?_
  refine r_aload_n x_6_44 rfl ?_
  obtain ⟨hO1, h⟩ := h
  obtain ⟨b2, hb3, h⟩ := h
  refine r_getR x_6_45 rfl (ci := 0) (k := 0) (ns := 0) (by decide +kernel) (by decide) rfl (kz := 0) rfl hO1 hb3 ?_
  obtain ⟨hO4, h⟩ := h
  refine r_getI x_6_48 rfl (ci := 7) (k := 2) (ns := 1) (by decide +kernel) (by decide) rfl (kz := 2) rfl hO4 ?_
  refine r_ic_ge x_6_51 (t := 145) (by decide +kernel) hv7 (hok.1 _ _) (fun hc => ?_) (fun hc => ?_)
  · replace h := h.2 hc
    refine r_aload_n x_6_145 rfl ?_
    obtain ⟨b5, hb6, h⟩ := h
    refine r_getR x_6_146 rfl (ci := 0) (k := 0) (ns := 0) (by decide +kernel) (by decide) rfl (kz := 0) rfl hO1 hb6 ?_
    refine r_iload x_6_149 rfl ?_
    obtain ⟨hO7, h⟩ := h
    refine r_putI x_6_151 (ci := 7) (k := 2) (ns := 1) (by decide +kernel) (by decide) (g_f0 (by decide +kernel)) rfl hv5 trivial (kz := 2) rfl hO7 ?_
    obtain ⟨M8, hM9⟩ : ∃ Mz, Mz = g_wi M b5 2 v5 := ⟨_, rfl⟩
    rw [← hM9]
    refine g_Run.ok fun hok10 => ?_
    replace h := h M8 hM9 hok10
    have hx11 := g_extW hM9
    replace hO1 := hO1.up hx11
    replace hO4 := hO4.up hx11
    replace hO7 := hO7.up hx11
    refine r_iload x_6_154 rfl ?_
    obtain ⟨hz, h⟩ := h
    exact r_retZ x_6_156 rfl hz h
  · replace h := h.1 hc
    refine r_iload_n x_6_54 rfl ?_
    refine r_if_eq x_6_55 (t := 63) (by decide +kernel) hv3 (fun hc => ?_) (fun hc => ?_)
    · replace h := h.1 hc
      exact h
    · replace h := h.2 hc
      refine r_iload x_6_58 rfl ?_
      refine r_if_ne x_6_60 (t := 145) (by decide +kernel) hv6 (fun hc => ?_) (fun hc => ?_)
      · replace h := h.2 hc
        refine r_aload_n x_6_145 rfl ?_
        obtain ⟨b12, hb13, h⟩ := h
        refine r_getR x_6_146 rfl (ci := 0) (k := 0) (ns := 0) (by decide +kernel) (by decide) rfl (kz := 0) rfl hO1 hb13 ?_
        refine r_iload x_6_149 rfl ?_
        obtain ⟨hO14, h⟩ := h
        refine r_putI x_6_151 (ci := 7) (k := 2) (ns := 1) (by decide +kernel) (by decide) (g_f0 (by decide +kernel)) rfl hv5 trivial (kz := 2) rfl hO14 ?_
        obtain ⟨M15, hM16⟩ : ∃ Mz, Mz = g_wi M b12 2 v5 := ⟨_, rfl⟩
        rw [← hM16]
        refine g_Run.ok fun hok17 => ?_
        replace h := h M15 hM16 hok17
        have hx18 := g_extW hM16
        replace hO1 := hO1.up hx18
        replace hO4 := hO4.up hx18
        replace hO14 := hO14.up hx18
        refine r_iload x_6_154 rfl ?_
        obtain ⟨hz, h⟩ := h
        exact r_retZ x_6_156 rfl hz h
      · replace h := h.1 hc
        exact h
theorem s_X0_bind_63 {d : Nat} {M : g_M} {Q : Int → g_M → Prop} {a0 : Nat} {v1 : Int} (hv1 : g_InR v1) {a2 : Nat} {v3 : Int} (hv3 : g_InR v3) {v4 : Int} (hv4 : g_InR v4) {v5 : Int} (hv5 : g_InR v5) {v6 : Int} (hv6 : g_InR v6) {v7 : Int} (hv7 : g_InR v7) (h : g_ok M → g_O M a0 0 ∧ ∃ b2, g_r M a0 0 = some b2 ∧ g_O M b2 7 ∧ g_Call d 105 [.ref b2, g_n v7] M (g_qI fun r8 M5 => g_ext M M5 → g_ok M5 → g_InR r8 → ∃ b10, g_r M5 a0 1 = some b10 ∧ g_Call d 115 [.ref b10, g_n r8, .ref (4 * 61 + 1)] M5 (g_qI fun r15 M12 => g_ext M5 M12 → g_ok M12 → g_InR r15 → ((r15 = 0 → g_Call d 10 [.ref a0, g_n r8, g_n 2] M12 (g_qI fun r20 M17 => g_ext M12 M17 → g_ok M17 → g_InR r20 → ((r20 = 0 → g_InR (v7 + 1) ∧ g_Run d 6 42 [(0, .ref a0), (1, g_n v1), (2, .ref a2), (3, g_n v3), (4, g_n v4), (5, g_n v5), (6, g_n v6), (7, g_n (v7 + 1))] [] M17 (g_qI Q)) ∧ (¬ r20 = 0 → g_Run d 6 114 [(0, .ref a0), (1, g_n v1), (2, .ref a2), (3, g_n v3), (4, g_n v4), (5, g_n v5), (6, g_n v6), (7, g_n v7), (8, g_n r8)] [] M17 (g_qI Q))))) ∧ (¬ r15 = 0 → g_Call d 9 [.ref a0, g_n r8, g_n 2] M12 (g_qI fun r26 M23 => g_ext M12 M23 → g_ok M23 → g_InR r26 → ((r26 = 0 → g_InR (v7 + 1) ∧ g_Run d 6 42 [(0, .ref a0), (1, g_n v1), (2, .ref a2), (3, g_n v3), (4, g_n v4), (5, g_n v5), (6, g_n v6), (7, g_n (v7 + 1))] [] M23 (g_qI Q)) ∧ (¬ r26 = 0 → g_Run d 6 114 [(0, .ref a0), (1, g_n v1), (2, .ref a2), (3, g_n v3), (4, g_n v4), (5, g_n v5), (6, g_n v6), (7, g_n v7), (8, g_n r8)] [] M23 (g_qI Q))))))))) : g_Run d 6 63 [(0, .ref a0), (1, g_n v1), (2, .ref a2), (3, g_n v3), (4, g_n v4), (5, g_n v5), (6, g_n v6), (7, g_n v7)] [] M (g_qI Q) := by
  refine g_Run.ok fun hok => ?_
  replace h := h hok
  refine r_aload_n x_6_63 rfl ?_
  obtain ⟨hO1, h⟩ := h
  obtain ⟨b2, hb3, h⟩ := h
  refine r_getR x_6_64 rfl (ci := 0) (k := 0) (ns := 0) (by decide +kernel) (by decide) rfl (kz := 0) rfl hO1 hb3 ?_
  refine r_iload x_6_67 rfl ?_
  obtain ⟨hO4, h⟩ := h
  refine r_invV x_6_69 (z := 105) (ns := 1) (by decide +kernel) (as := [g_n v7]) (r := []) rfl rfl rfl hO4 rfl rfl ?_
  refine r_callI h fun r8 M5 hx6 hok7 hr9 h => ?_
  replace h := h hx6 hok7 hr9
  replace hO1 := hO1.up hx6
  replace hO4 := hO4.up hx6
  refine r_istore x_6_72 (by decide +kernel) rfl (lv1 := [(0, .ref a0), (1, g_n v1), (2, .ref a2), (3, g_n v3), (4, g_n v4), (5, g_n v5), (6, g_n v6), (7, g_n v7), (8, g_n r8)]) rfl ?_
  refine r_aload_n x_6_74 rfl ?_
  obtain ⟨b10, hb11, h⟩ := h
  refine r_getR x_6_75 rfl (ci := 0) (k := 1) (ns := 0) (by decide +kernel) (by decide) rfl (kz := 1) rfl hO1 hb11 ?_
  refine r_iload x_6_78 rfl ?_
  refine r_ldc x_6_80 (v := .ref (4 * 61 + 1)) rfl ?_
  refine r_invS x_6_82 (z := 115) (ns := 1) (by decide +kernel) (as := [.ref b10, g_n r8, .ref (4 * 61 + 1)]) (r := []) rfl rfl rfl ?_
  refine r_callI h fun r15 M12 hx13 hok14 hr16 h => ?_
  replace h := h hx13 hok14 hr16
  replace hO1 := hO1.up hx13
  replace hO4 := hO4.up hx13
  refine r_if_eq x_6_85 (t := 101) (by decide +kernel) hr16 (fun hc => ?_) (fun hc => ?_)
  · replace h := h.1 hc
    refine r_aload_n x_6_101 rfl ?_
    refine r_iload x_6_102 rfl ?_
    refine r_iconst x_6_104 ?_
    refine r_invV x_6_105 (z := 10) (ns := 0) (by decide +kernel) (as := [g_n r8, g_n 2]) (r := []) rfl rfl rfl hO1 rfl rfl ?_
    refine r_callI h fun r20 M17 hx18 hok19 hr21 h => ?_
    replace h := h hx18 hok19 hr21
    replace hO1 := hO1.up hx18
    replace hO4 := hO4.up hx18
    refine r_if_ne x_6_108 (t := 114) (by decide +kernel) hr21 (fun hc => ?_) (fun hc => ?_)
    · replace h := h.2 hc
      exact h
    · replace h := h.1 hc
      refine r_goto x_6_111 (t := 139) (by decide +kernel) ?_
      obtain ⟨h22, h⟩ := h
      refine r_iinc x_6_139 (by decide +kernel) rfl rfl (lv1 := [(0, .ref a0), (1, g_n v1), (2, .ref a2), (3, g_n v3), (4, g_n v4), (5, g_n v5), (6, g_n v6), (7, g_n (v7 + 1)), (8, g_n r8)]) rfl ?_
      refine r_goto x_6_142 (t := 42) (by decide +kernel) ?_
      refine g_drop [0, 1, 2, 3, 4, 5, 6, 7] (lv1 := [(0, .ref a0), (1, g_n v1), (2, .ref a2), (3, g_n v3), (4, g_n v4), (5, g_n v5), (6, g_n v6), (7, g_n (v7 + 1))]) rfl ?_
      exact h
  · replace h := h.2 hc
    refine r_aload_n x_6_88 rfl ?_
    refine r_iload x_6_89 rfl ?_
    refine r_iconst x_6_91 ?_
    refine r_invV x_6_92 (z := 9) (ns := 0) (by decide +kernel) (as := [g_n r8, g_n 2]) (r := []) rfl rfl rfl hO1 rfl rfl ?_
    refine r_callI h fun r26 M23 hx24 hok25 hr27 h => ?_
    replace h := h hx24 hok25 hr27
    replace hO1 := hO1.up hx24
    replace hO4 := hO4.up hx24
    refine r_if_ne x_6_95 (t := 114) (by decide +kernel) hr27 (fun hc => ?_) (fun hc => ?_)
    · replace h := h.2 hc
      exact h
    · replace h := h.1 hc
      refine r_goto x_6_98 (t := 139) (by decide +kernel) ?_
      obtain ⟨h28, h⟩ := h
      refine r_iinc x_6_139 (by decide +kernel) rfl rfl (lv1 := [(0, .ref a0), (1, g_n v1), (2, .ref a2), (3, g_n v3), (4, g_n v4), (5, g_n v5), (6, g_n v6), (7, g_n (v7 + 1)), (8, g_n r8)]) rfl ?_
      refine r_goto x_6_142 (t := 42) (by decide +kernel) ?_
      refine g_drop [0, 1, 2, 3, 4, 5, 6, 7] (lv1 := [(0, .ref a0), (1, g_n v1), (2, .ref a2), (3, g_n v3), (4, g_n v4), (5, g_n v5), (6, g_n v6), (7, g_n (v7 + 1))]) rfl ?_
      exact h
theorem s_X0_bind_114 {d : Nat} {M : g_M} {Q : Int → g_M → Prop} {a0 : Nat} {v1 : Int} (hv1 : g_InR v1) {a2 : Nat} {v3 : Int} (hv3 : g_InR v3) {v4 : Int} (hv4 : g_InR v4) {v5 : Int} (hv5 : g_InR v5) {v6 : Int} (hv6 : g_InR v6) {v7 : Int} (hv7 : g_InR v7) {v8 : Int} (hv8 : g_InR v8) (h : g_ok M → ((v6 = 0 → g_O M a0 0 ∧ g_Call d 14 [.ref a0, g_n 2, g_n v4] M (g_qV fun M2 => g_ext M M2 → g_ok M2 → g_InR (v7 + 1) ∧ g_Run d 6 42 [(0, .ref a0), (1, g_n v1), (2, .ref a2), (3, g_n v3), (4, g_n v4), (5, g_n v5), (6, g_n 1), (7, g_n (v7 + 1))] [] M2 (g_qI Q))) ∧ (¬ v6 = 0 → g_O M a0 0 ∧ g_Call d 15 [.ref a0, g_n v4, g_n 2] M (g_qV fun M7 => g_ext M M7 → g_ok M7 → g_InR (v7 + 1) ∧ g_Run d 6 42 [(0, .ref a0), (1, g_n v1), (2, .ref a2), (3, g_n v3), (4, g_n v4), (5, g_n v5), (6, g_n 1), (7, g_n (v7 + 1))] [] M7 (g_qI Q))))) : g_Run d 6 114 [(0, .ref a0), (1, g_n v1), (2, .ref a2), (3, g_n v3), (4, g_n v4), (5, g_n v5), (6, g_n v6), (7, g_n v7), (8, g_n v8)] [] M (g_qI Q) := by
  refine g_Run.ok fun hok => ?_
  replace h := h hok
  refine r_iload x_6_114 rfl ?_
  refine r_if_eq x_6_116 (t := 129) (by decide +kernel) hv6 (fun hc => ?_) (fun hc => ?_)
  · replace h := h.1 hc
    refine r_aload_n x_6_129 rfl ?_
    refine r_iconst x_6_130 ?_
    refine r_iload x_6_131 rfl ?_
    obtain ⟨hO1, h⟩ := h
    refine r_invV x_6_133 (z := 14) (ns := 0) (by decide +kernel) (as := [g_n 2, g_n v4]) (r := []) rfl rfl rfl hO1 rfl rfl ?_
    refine r_callV h fun M2 hx3 hok4 h => ?_
    replace h := h hx3 hok4
    replace hO1 := hO1.up hx3
    refine r_iconst x_6_136 ?_
    refine r_istore x_6_137 (by decide +kernel) rfl (lv1 := [(0, .ref a0), (1, g_n v1), (2, .ref a2), (3, g_n v3), (4, g_n v4), (5, g_n v5), (6, g_n 1), (7, g_n v7), (8, g_n v8)]) rfl ?_
    obtain ⟨h5, h⟩ := h
    refine r_iinc x_6_139 (by decide +kernel) rfl rfl (lv1 := [(0, .ref a0), (1, g_n v1), (2, .ref a2), (3, g_n v3), (4, g_n v4), (5, g_n v5), (6, g_n 1), (7, g_n (v7 + 1)), (8, g_n v8)]) rfl ?_
    refine r_goto x_6_142 (t := 42) (by decide +kernel) ?_
    refine g_drop [0, 1, 2, 3, 4, 5, 6, 7] (lv1 := [(0, .ref a0), (1, g_n v1), (2, .ref a2), (3, g_n v3), (4, g_n v4), (5, g_n v5), (6, g_n 1), (7, g_n (v7 + 1))]) rfl ?_
    exact h
  · replace h := h.2 hc
    refine r_aload_n x_6_119 rfl ?_
    refine r_iload x_6_120 rfl ?_
    refine r_iconst x_6_122 ?_
    obtain ⟨hO6, h⟩ := h
    refine r_invV x_6_123 (z := 15) (ns := 0) (by decide +kernel) (as := [g_n v4, g_n 2]) (r := []) rfl rfl rfl hO6 rfl rfl ?_
    refine r_callV h fun M7 hx8 hok9 h => ?_
    replace h := h hx8 hok9
    replace hO6 := hO6.up hx8
    refine r_goto x_6_126 (t := 136) (by decide +kernel) ?_
    refine r_iconst x_6_136 ?_
    refine r_istore x_6_137 (by decide +kernel) rfl (lv1 := [(0, .ref a0), (1, g_n v1), (2, .ref a2), (3, g_n v3), (4, g_n v4), (5, g_n v5), (6, g_n 1), (7, g_n v7), (8, g_n v8)]) rfl ?_
    obtain ⟨h10, h⟩ := h
    refine r_iinc x_6_139 (by decide +kernel) rfl rfl (lv1 := [(0, .ref a0), (1, g_n v1), (2, .ref a2), (3, g_n v3), (4, g_n v4), (5, g_n v5), (6, g_n 1), (7, g_n (v7 + 1)), (8, g_n v8)]) rfl ?_
    refine r_goto x_6_142 (t := 42) (by decide +kernel) ?_
    refine g_drop [0, 1, 2, 3, 4, 5, 6, 7] (lv1 := [(0, .ref a0), (1, g_n v1), (2, .ref a2), (3, g_n v3), (4, g_n v4), (5, g_n v5), (6, g_n 1), (7, g_n (v7 + 1))]) rfl ?_
    exact h
theorem m_X0_bindSame {d : Nat} {M : g_M} {Q : Int → g_M → Prop} {a0 : Nat} {v1 : Int} (hv1 : g_InR v1) {v2 : Int} (hv2 : g_InR v2) (h : g_ok M → g_Run d 7 2 [(0, .ref a0), (1, g_n v1), (2, g_n v2), (3, g_n v1)] [] M (g_qI Q)) : g_Call (d + 1) 7 [.ref a0, g_n v1, g_n v2] M (g_qI Q) := by
  refine g_Call.ok fun hok0 => ?_
  replace h := h hok0
  refine r_body rfl (lv := [(0, .ref a0), (1, g_n v1), (2, g_n v2)]) rfl ?_
  refine g_Run.ok fun hok => ?_
  refine r_iload_n x_7_0 rfl ?_
  refine r_istore_n x_7_1 (by decide +kernel) rfl (lv1 := [(0, .ref a0), (1, g_n v1), (2, g_n v2), (3, g_n v1)]) rfl ?_
  exact h
theorem s_X0_bindSame_2 {d : Nat} {M : g_M} {Q : Int → g_M → Prop} {a0 : Nat} {v1 : Int} (hv1 : g_InR v1) {v2 : Int} (hv2 : g_InR v2) {v3 : Int} (hv3 : g_InR v3) (h : g_ok M → g_O M a0 0 ∧ ∃ b2, g_r M a0 0 = some b2 ∧ g_O M b2 7 ∧ ((v3 < g_i M b2 2 → ∃ b5, g_r M a0 1 = some b5 ∧ ∃ b7, g_r M a0 0 = some b7 ∧ g_O M b7 7 ∧ g_Call d 105 [.ref b7, g_n v3] M (g_qI fun r13 M10 => g_ext M M10 → g_ok M10 → g_InR r13 → g_Call d 38 [.ref b5, g_n r13] M10 (g_qI fun r18 M15 => g_ext M10 M15 → g_ok M15 → g_InR r18 → ((r18 = 0 → g_Run d 7 52 [(0, .ref a0), (1, g_n v1), (2, g_n v2), (3, g_n v3), (4, g_n r18)] [g_n 1] M15 (g_qI Q)) ∧ (¬ r18 = 0 → ((r18 = 1 → g_Run d 7 52 [(0, .ref a0), (1, g_n v1), (2, g_n v2), (3, g_n v3), (4, g_n r18)] [g_n 1] M15 (g_qI Q)) ∧ (¬ r18 = 1 → ((r18 = 3 → g_Run d 7 52 [(0, .ref a0), (1, g_n v1), (2, g_n v2), (3, g_n v3), (4, g_n r18)] [g_n 1] M15 (g_qI Q)) ∧ (¬ r18 = 3 → g_Run d 7 52 [(0, .ref a0), (1, g_n v1), (2, g_n v2), (3, g_n v3), (4, g_n r18)] [g_n 0] M15 (g_qI Q)))))))))) ∧ (¬ v3 < g_i M b2 2 → Q 0 M))) : g_Run d 7 2 [(0, .ref a0), (1, g_n v1), (2, g_n v2), (3, g_n v3)] [] M (g_qI Q) := by
  refine g_Run.ok fun hok => ?_
  replace h := h hok
  refine r_iload_n x_7_2 rfl ?_
  refine r_aload_n x_7_3 rfl ?_
  obtain ⟨hO1, h⟩ := h
  obtain ⟨b2, hb3, h⟩ := h
  refine r_getR x_7_4 rfl (ci := 0) (k := 0) (ns := 0) (by decide +kernel) (by decide) rfl (kz := 0) rfl hO1 hb3 ?_
  obtain ⟨hO4, h⟩ := h
  refine r_getI x_7_7 rfl (ci := 7) (k := 2) (ns := 1) (by decide +kernel) (by decide) rfl (kz := 2) rfl hO4 ?_
  refine r_ic_ge x_7_10 (t := 83) (by decide +kernel) hv3 (hok.1 _ _) (fun hc => ?_) (fun hc => ?_)
  · replace h := h.2 hc
    refine r_iconst x_7_83 ?_
    exact r_retZ x_7_84 rfl (Or.inl rfl) h
  · replace h := h.1 hc
    refine r_aload_n x_7_13 rfl ?_
    obtain ⟨b5, hb6, h⟩ := h
    refine r_getR x_7_14 rfl (ci := 0) (k := 1) (ns := 0) (by decide +kernel) (by decide) rfl (kz := 1) rfl hO1 hb6 ?_
    refine r_aload_n x_7_17 rfl ?_
    obtain ⟨b7, hb8, h⟩ := h
    refine r_getR x_7_18 rfl (ci := 0) (k := 0) (ns := 0) (by decide +kernel) (by decide) rfl (kz := 0) rfl hO1 hb8 ?_
    refine r_iload_n x_7_21 rfl ?_
    obtain ⟨hO9, h⟩ := h
    refine r_invV x_7_22 (z := 105) (ns := 1) (by decide +kernel) (as := [g_n v3]) (r := [.ref b5]) rfl rfl rfl hO9 rfl rfl ?_
    refine r_callI h fun r13 M10 hx11 hok12 hr14 h => ?_
    replace h := h hx11 hok12 hr14
    replace hO1 := hO1.up hx11
    replace hO4 := hO4.up hx11
    replace hO9 := hO9.up hx11
    refine r_invS x_7_25 (z := 38) (ns := 1) (by decide +kernel) (as := [.ref b5, g_n r13]) (r := []) rfl rfl rfl ?_
    refine r_callI h fun r18 M15 hx16 hok17 hr19 h => ?_
    replace h := h hx16 hok17 hr19
    replace hO1 := hO1.up hx16
    replace hO4 := hO4.up hx16
    replace hO9 := hO9.up hx16
    refine r_istore x_7_28 (by decide +kernel) rfl (lv1 := [(0, .ref a0), (1, g_n v1), (2, g_n v2), (3, g_n v3), (4, g_n r18)]) rfl ?_
    refine r_iload x_7_30 rfl ?_
    refine r_if_eq x_7_32 (t := 47) (by decide +kernel) hr19 (fun hc => ?_) (fun hc => ?_)
    · replace h := h.1 hc
      refine r_iconst x_7_47 ?_
      refine r_goto x_7_48 (t := 52) (by decide +kernel) ?_
      exact h
    · replace h := h.2 hc
      refine r_iload x_7_35 rfl ?_
      refine r_iconst x_7_37 ?_
      refine r_ic_eq x_7_38 (t := 47) (by decide +kernel) hr19 (g_Rk rfl) (fun hc => ?_) (fun hc => ?_)
      · replace h := h.1 hc
        refine r_iconst x_7_47 ?_
        refine r_goto x_7_48 (t := 52) (by decide +kernel) ?_
        exact h
      · replace h := h.2 hc
        refine r_iload x_7_41 rfl ?_
        refine r_iconst x_7_43 ?_
        refine r_ic_ne x_7_44 (t := 51) (by decide +kernel) hr19 (g_Rk rfl) (fun hc => ?_) (fun hc => ?_)
        · replace h := h.2 hc
          refine r_iconst x_7_51 ?_
          exact h
        · replace h := h.1 hc
          refine r_iconst x_7_47 ?_
          refine r_goto x_7_48 (t := 52) (by decide +kernel) ?_
          exact h
theorem s_X0_bindSame_52 {d : Nat} {M : g_M} {Q : Int → g_M → Prop} {a0 : Nat} {v1 : Int} (hv1 : g_InR v1) {v2 : Int} (hv2 : g_InR v2) {v3 : Int} (hv3 : g_InR v3) {v4 : Int} (hv4 : g_InR v4) {w0 : Int} (hw0 : g_InR w0) (h : g_ok M → ((w0 = 0 → g_InR (v3 + 1) ∧ g_Run d 7 2 [(0, .ref a0), (1, g_n v1), (2, g_n v2), (3, g_n (v3 + 1))] [] M (g_qI Q)) ∧ (¬ w0 = 0 → g_O M a0 0 ∧ ∃ b3, g_r M a0 0 = some b3 ∧ g_O M b3 7 ∧ g_Call d 105 [.ref b3, g_n v3] M (g_qI fun r9 M6 => g_ext M M6 → g_ok M6 → g_InR r9 → g_Call d 10 [.ref a0, g_n r9, g_n v2] M6 (g_qI fun r14 M11 => g_ext M6 M11 → g_ok M11 → g_InR r14 → ((r14 = 0 → g_InR (v3 + 1) ∧ g_Run d 7 2 [(0, .ref a0), (1, g_n v1), (2, g_n v2), (3, g_n (v3 + 1))] [] M11 (g_qI Q)) ∧ (¬ r14 = 0 → Q 1 M11))))))) : g_Run d 7 52 [(0, .ref a0), (1, g_n v1), (2, g_n v2), (3, g_n v3), (4, g_n v4)] [g_n w0] M (g_qI Q) := by
  refine g_Run.ok fun hok => ?_
  replace h := h hok
  refine r_istore x_7_52 (by decide +kernel) rfl (lv1 := [(0, .ref a0), (1, g_n v1), (2, g_n v2), (3, g_n v3), (4, g_n v4), (5, g_n w0)]) rfl ?_
  refine r_iload x_7_54 rfl ?_
  refine r_if_eq x_7_56 (t := 77) (by decide +kernel) hw0 (fun hc => ?_) (fun hc => ?_)
  · replace h := h.1 hc
    obtain ⟨h1, h⟩ := h
    refine r_iinc x_7_77 (by decide +kernel) rfl rfl (lv1 := [(0, .ref a0), (1, g_n v1), (2, g_n v2), (3, g_n (v3 + 1)), (4, g_n v4), (5, g_n w0)]) rfl ?_
    refine r_goto x_7_80 (t := 2) (by decide +kernel) ?_
    refine g_drop [0, 1, 2, 3] (lv1 := [(0, .ref a0), (1, g_n v1), (2, g_n v2), (3, g_n (v3 + 1))]) rfl ?_
    exact h
  · replace h := h.2 hc
    refine r_aload_n x_7_59 rfl ?_
    refine r_aload_n x_7_60 rfl ?_
    obtain ⟨hO2, h⟩ := h
    obtain ⟨b3, hb4, h⟩ := h
    refine r_getR x_7_61 rfl (ci := 0) (k := 0) (ns := 0) (by decide +kernel) (by decide) rfl (kz := 0) rfl hO2 hb4 ?_
    refine r_iload_n x_7_64 rfl ?_
    obtain ⟨hO5, h⟩ := h
    refine r_invV x_7_65 (z := 105) (ns := 1) (by decide +kernel) (as := [g_n v3]) (r := [.ref a0]) rfl rfl rfl hO5 rfl rfl ?_
    refine r_callI h fun r9 M6 hx7 hok8 hr10 h => ?_
    replace h := h hx7 hok8 hr10
    replace hO2 := hO2.up hx7
    replace hO5 := hO5.up hx7
    refine r_iload_n x_7_68 rfl ?_
    refine r_invV x_7_69 (z := 10) (ns := 0) (by decide +kernel) (as := [g_n r9, g_n v2]) (r := []) rfl rfl rfl hO2 rfl rfl ?_
    refine r_callI h fun r14 M11 hx12 hok13 hr15 h => ?_
    replace h := h hx12 hok13 hr15
    replace hO2 := hO2.up hx12
    replace hO5 := hO5.up hx12
    refine r_if_eq x_7_72 (t := 77) (by decide +kernel) hr15 (fun hc => ?_) (fun hc => ?_)
    · replace h := h.1 hc
      obtain ⟨h16, h⟩ := h
      refine r_iinc x_7_77 (by decide +kernel) rfl rfl (lv1 := [(0, .ref a0), (1, g_n v1), (2, g_n v2), (3, g_n (v3 + 1)), (4, g_n v4), (5, g_n w0)]) rfl ?_
      refine r_goto x_7_80 (t := 2) (by decide +kernel) ?_
      refine g_drop [0, 1, 2, 3] (lv1 := [(0, .ref a0), (1, g_n v1), (2, g_n v2), (3, g_n (v3 + 1))]) rfl ?_
      exact h
    · replace h := h.2 hc
      refine r_iconst x_7_75 ?_
      exact r_retZ x_7_76 rfl (Or.inr rfl) h
theorem m_X0_collect {d : Nat} {M : g_M} {Q : g_M → Prop} {a0 : Nat} {v1 : Int} (hv1 : g_InR v1) {a2 : Nat} {v3 : Int} (hv3 : g_InR v3) (h : g_ok M → g_O M a0 0 ∧ ∃ b2, g_r M a0 1 = some b2 ∧ g_Call d 112 [.ref b2, g_n v1] M (g_qI fun r7 M4 => g_ext M M4 → g_ok M4 → g_InR r7 → g_Run d 8 13 [(0, .ref a0), (1, g_n v1), (2, .ref a2), (3, g_n v3), (4, g_n r7), (5, g_n 0)] [] M4 (g_qV Q))) : g_Call (d + 1) 8 [.ref a0, g_n v1, .ref a2, g_n v3] M (g_qV Q) := by
  refine g_Call.ok fun hok0 => ?_
  replace h := h hok0
  refine r_body rfl (lv := [(0, .ref a0), (1, g_n v1), (2, .ref a2), (3, g_n v3)]) rfl ?_
  refine g_Run.ok fun hok => ?_
  refine r_aload_n x_8_0 rfl ?_
  obtain ⟨hO1, h⟩ := h
  obtain ⟨b2, hb3, h⟩ := h
  refine r_getR x_8_1 rfl (ci := 0) (k := 1) (ns := 0) (by decide +kernel) (by decide) rfl (kz := 1) rfl hO1 hb3 ?_
  refine r_iload_n x_8_4 rfl ?_
  refine r_invS x_8_5 (z := 112) (ns := 1) (by decide +kernel) (as := [.ref b2, g_n v1]) (r := []) rfl rfl rfl ?_
  refine r_callI h fun r7 M4 hx5 hok6 hr8 h => ?_
  replace h := h hx5 hok6 hr8
  replace hO1 := hO1.up hx5
  refine r_istore x_8_8 (by decide +kernel) rfl (lv1 := [(0, .ref a0), (1, g_n v1), (2, .ref a2), (3, g_n v3), (4, g_n r7)]) rfl ?_
  refine r_iconst x_8_10 ?_
  refine r_istore x_8_11 (by decide +kernel) rfl (lv1 := [(0, .ref a0), (1, g_n v1), (2, .ref a2), (3, g_n v3), (4, g_n r7), (5, g_n 0)]) rfl ?_
  exact h
theorem s_X0_collect_13 {d : Nat} {M : g_M} {Q : g_M → Prop} {a0 : Nat} {v1 : Int} (hv1 : g_InR v1) {a2 : Nat} {v3 : Int} (hv3 : g_InR v3) {v4 : Int} (hv4 : g_InR v4) {v5 : Int} (hv5 : g_InR v5) (h : g_ok M → ((v5 < 2000 → g_O M a0 0 ∧ ∃ b2, g_r M a0 1 = some b2 ∧ g_Call d 108 [.ref b2, g_n v4] M (g_qI fun r7 M4 => g_ext M M4 → g_ok M4 → g_InR r7 → ((r7 = 0 → Q M4) ∧ (¬ r7 = 0 → ((v3 < 60 → ∃ b9, g_r M4 a0 1 = some b9 ∧ g_Call d 115 [.ref b9, g_n v4, .ref (4 * 60 + 1)] M4 (g_qI fun r14 M11 => g_ext M4 M11 → g_ok M11 → g_InR r14 → ((r14 = 0 → ∃ b16, g_r M11 a0 1 = some b16 ∧ g_O M11 a2 5 ∧ g_Call d 93 [.ref a2, .ref b16, g_n v4] M11 (g_qI fun r22 M19 => g_ext M11 M19 → g_ok M19 → g_InR r22 → ((r22 = 0 → ∃ b24, g_r M19 a0 1 = some b24 ∧ g_Call d 111 [.ref b24, g_n v4] M19 (g_qI fun r29 M26 => g_ext M19 M26 → g_ok M26 → g_InR r29 → g_InR (v5 + 1) ∧ g_Run d 8 13 [(0, .ref a0), (1, g_n v1), (2, .ref a2), (3, g_n v3), (4, g_n r29), (5, g_n (v5 + 1))] [] M26 (g_qV Q))) ∧ (¬ r22 = 0 → ∃ b32, g_r M19 a0 1 = some b32 ∧ g_Call d 40 [.ref b32, g_n v4] M19 (g_qI fun r37 M34 => g_ext M19 M34 → g_ok M34 → g_InR r37 → ((r37 = 0 → g_Run d 8 147 [(0, .ref a0), (1, g_n v1), (2, .ref a2), (3, g_n v3), (4, g_n v4), (5, g_n v5)] [g_n 1] M34 (g_qV Q)) ∧ (¬ r37 = 0 → g_Run d 8 147 [(0, .ref a0), (1, g_n v1), (2, .ref a2), (3, g_n v3), (4, g_n v4), (5, g_n v5)] [g_n 0] M34 (g_qV Q)))))))) ∧ (¬ r14 = 0 → ∃ b39, g_r M11 a0 1 = some b39 ∧ g_Call d 112 [.ref b39, g_n v4] M11 (g_qI fun r44 M41 => g_ext M11 M41 → g_ok M41 → g_InR r44 → g_Run d 8 67 [(0, .ref a0), (1, g_n v1), (2, .ref a2), (3, g_n v3), (4, g_n v4), (5, g_n v5), (6, g_n r44), (7, g_n 0)] [] M41 (g_qV Q)))))) ∧ (¬ v3 < 60 → Q M4)))))) ∧ (¬ v5 < 2000 → Q M))) : g_Run d 8 13 [(0, .ref a0), (1, g_n v1), (2, .ref a2), (3, g_n v3), (4, g_n v4), (5, g_n v5)] [] M (g_qV Q) := by
  refine g_Run.ok fun hok => ?_
  replace h := h hok
  refine r_iload x_8_13 rfl ?_
  refine r_sipush x_8_15 (x := 2000) rfl ?_
  refine r_ic_ge x_8_18 (t := 244) (by decide +kernel) hv5 (g_Rk rfl) (fun hc => ?_) (fun hc => ?_)
  · replace h := h.2 hc
    exact r_retV x_8_244 rfl h
  · replace h := h.1 hc
    refine r_aload_n x_8_21 rfl ?_
    obtain ⟨hO1, h⟩ := h
    obtain ⟨b2, hb3, h⟩ := h
    refine r_getR x_8_22 rfl (ci := 0) (k := 1) (ns := 0) (by decide +kernel) (by decide) rfl (kz := 1) rfl hO1 hb3 ?_
    refine r_iload x_8_25 rfl ?_
    refine r_invS x_8_27 (z := 108) (ns := 1) (by decide +kernel) (as := [.ref b2, g_n v4]) (r := []) rfl rfl rfl ?_
    refine r_callI h fun r7 M4 hx5 hok6 hr8 h => ?_
    replace h := h hx5 hok6 hr8
    replace hO1 := hO1.up hx5
    refine r_if_eq x_8_30 (t := 244) (by decide +kernel) hr8 (fun hc => ?_) (fun hc => ?_)
    · replace h := h.1 hc
      exact r_retV x_8_244 rfl h
    · replace h := h.2 hc
      refine r_iload_n x_8_33 rfl ?_
      refine r_bipush x_8_34 (x := 60) rfl ?_
      refine r_ic_ge x_8_36 (t := 244) (by decide +kernel) hv3 (g_Rk rfl) (fun hc => ?_) (fun hc => ?_)
      · replace h := h.2 hc
        exact r_retV x_8_244 rfl h
      · replace h := h.1 hc
        refine r_aload_n x_8_39 rfl ?_
        obtain ⟨b9, hb10, h⟩ := h
        refine r_getR x_8_40 rfl (ci := 0) (k := 1) (ns := 0) (by decide +kernel) (by decide) rfl (kz := 1) rfl hO1 hb10 ?_
        refine r_iload x_8_43 rfl ?_
        refine r_ldc x_8_45 (v := .ref (4 * 60 + 1)) rfl ?_
        refine r_invS x_8_47 (z := 115) (ns := 1) (by decide +kernel) (as := [.ref b9, g_n v4, .ref (4 * 60 + 1)]) (r := []) rfl rfl rfl ?_
        refine r_callI h fun r14 M11 hx12 hok13 hr15 h => ?_
        replace h := h hx12 hok13 hr15
        replace hO1 := hO1.up hx12
        refine r_if_eq x_8_50 (t := 117) (by decide +kernel) hr15 (fun hc => ?_) (fun hc => ?_)
        · replace h := h.1 hc
          refine r_aload_n x_8_117 rfl ?_
          refine r_aload_n x_8_118 rfl ?_
          obtain ⟨b16, hb17, h⟩ := h
          refine r_getR x_8_119 rfl (ci := 0) (k := 1) (ns := 0) (by decide +kernel) (by decide) rfl (kz := 1) rfl hO1 hb17 ?_
          refine r_iload x_8_122 rfl ?_
          obtain ⟨hO18, h⟩ := h
          refine r_invV x_8_124 (z := 93) (ns := 1) (by decide +kernel) (as := [.ref b16, g_n v4]) (r := []) rfl rfl rfl hO18 rfl rfl ?_
          refine r_callI h fun r22 M19 hx20 hok21 hr23 h => ?_
          replace h := h hx20 hok21 hr23
          replace hO1 := hO1.up hx20
          replace hO18 := hO18.up hx20
          refine r_if_eq x_8_127 (t := 227) (by decide +kernel) hr23 (fun hc => ?_) (fun hc => ?_)
          · replace h := h.1 hc
            refine r_aload_n x_8_227 rfl ?_
            obtain ⟨b24, hb25, h⟩ := h
            refine r_getR x_8_228 rfl (ci := 0) (k := 1) (ns := 0) (by decide +kernel) (by decide) rfl (kz := 1) rfl hO1 hb25 ?_
            refine r_iload x_8_231 rfl ?_
            refine r_invS x_8_233 (z := 111) (ns := 1) (by decide +kernel) (as := [.ref b24, g_n v4]) (r := []) rfl rfl rfl ?_
            refine r_callI h fun r29 M26 hx27 hok28 hr30 h => ?_
            replace h := h hx27 hok28 hr30
            replace hO1 := hO1.up hx27
            replace hO18 := hO18.up hx27
            refine r_istore x_8_236 (by decide +kernel) rfl (lv1 := [(0, .ref a0), (1, g_n v1), (2, .ref a2), (3, g_n v3), (4, g_n r29), (5, g_n v5)]) rfl ?_
            obtain ⟨h31, h⟩ := h
            refine r_iinc x_8_238 (by decide +kernel) rfl rfl (lv1 := [(0, .ref a0), (1, g_n v1), (2, .ref a2), (3, g_n v3), (4, g_n r29), (5, g_n (v5 + 1))]) rfl ?_
            refine r_goto x_8_241 (t := 13) (by decide +kernel) ?_
            exact h
          · replace h := h.2 hc
            refine r_aload_n x_8_130 rfl ?_
            obtain ⟨b32, hb33, h⟩ := h
            refine r_getR x_8_131 rfl (ci := 0) (k := 1) (ns := 0) (by decide +kernel) (by decide) rfl (kz := 1) rfl hO1 hb33 ?_
            refine r_iload x_8_134 rfl ?_
            refine r_invS x_8_136 (z := 40) (ns := 1) (by decide +kernel) (as := [.ref b32, g_n v4]) (r := []) rfl rfl rfl ?_
            refine r_callI h fun r37 M34 hx35 hok36 hr38 h => ?_
            replace h := h hx35 hok36 hr38
            replace hO1 := hO1.up hx35
            replace hO18 := hO18.up hx35
            refine r_if_ne x_8_139 (t := 146) (by decide +kernel) hr38 (fun hc => ?_) (fun hc => ?_)
            · replace h := h.2 hc
              refine r_iconst x_8_146 ?_
              exact h
            · replace h := h.1 hc
              refine r_iconst x_8_142 ?_
              refine r_goto x_8_143 (t := 147) (by decide +kernel) ?_
              exact h
        · replace h := h.2 hc
          refine r_aload_n x_8_53 rfl ?_
          obtain ⟨b39, hb40, h⟩ := h
          refine r_getR x_8_54 rfl (ci := 0) (k := 1) (ns := 0) (by decide +kernel) (by decide) rfl (kz := 1) rfl hO1 hb40 ?_
          refine r_iload x_8_57 rfl ?_
          refine r_invS x_8_59 (z := 112) (ns := 1) (by decide +kernel) (as := [.ref b39, g_n v4]) (r := []) rfl rfl rfl ?_
          refine r_callI h fun r44 M41 hx42 hok43 hr45 h => ?_
          replace h := h hx42 hok43 hr45
          replace hO1 := hO1.up hx42
          refine r_istore x_8_62 (by decide +kernel) rfl (lv1 := [(0, .ref a0), (1, g_n v1), (2, .ref a2), (3, g_n v3), (4, g_n v4), (5, g_n v5), (6, g_n r44)]) rfl ?_
          refine r_iconst x_8_64 ?_
          refine r_istore x_8_65 (by decide +kernel) rfl (lv1 := [(0, .ref a0), (1, g_n v1), (2, .ref a2), (3, g_n v3), (4, g_n v4), (5, g_n v5), (6, g_n r44), (7, g_n 0)]) rfl ?_
          exact h
theorem s_X0_collect_67 {d : Nat} {M : g_M} {Q : g_M → Prop} {a0 : Nat} {v1 : Int} (hv1 : g_InR v1) {a2 : Nat} {v3 : Int} (hv3 : g_InR v3) {v4 : Int} (hv4 : g_InR v4) {v5 : Int} (hv5 : g_InR v5) {v6 : Int} (hv6 : g_InR v6) {v7 : Int} (hv7 : g_InR v7) (h : g_ok M → ((v7 < 2000 → g_O M a0 0 ∧ ∃ b11, g_r M a0 1 = some b11 ∧ g_Call d 108 [.ref b11, g_n v6] M (g_qI fun r16 M13 => g_ext M M13 → g_ok M13 → g_InR r16 → ((r16 = 0 → ∃ b18, g_r M13 a0 1 = some b18 ∧ g_Call d 111 [.ref b18, g_n v4] M13 (g_qI fun r23 M20 => g_ext M13 M20 → g_ok M20 → g_InR r23 → g_InR (v5 + 1) ∧ g_Run d 8 13 [(0, .ref a0), (1, g_n v1), (2, .ref a2), (3, g_n v3), (4, g_n r23), (5, g_n (v5 + 1))] [] M20 (g_qV Q))) ∧ (¬ r16 = 0 → g_InR (v3 + 1) ∧ g_Call d 8 [.ref a0, g_n v6, .ref a2, g_n (v3 + 1)] M13 (g_qV fun M27 => g_ext M13 M27 → g_ok M27 → ∃ b30, g_r M27 a0 1 = some b30 ∧ g_Call d 111 [.ref b30, g_n v6] M27 (g_qI fun r35 M32 => g_ext M27 M32 → g_ok M32 → g_InR r35 → g_InR (v7 + 1) ∧ g_Run d 8 67 [(0, .ref a0), (1, g_n v1), (2, .ref a2), (3, g_n v3), (4, g_n v4), (5, g_n v5), (6, g_n r35), (7, g_n (v7 + 1))] [] M32 (g_qV Q))))))) ∧ (¬ v7 < 2000 → g_O M a0 0 ∧ ∃ b2, g_r M a0 1 = some b2 ∧ g_Call d 111 [.ref b2, g_n v4] M (g_qI fun r7 M4 => g_ext M M4 → g_ok M4 → g_InR r7 → g_InR (v5 + 1) ∧ g_Run d 8 13 [(0, .ref a0), (1, g_n v1), (2, .ref a2), (3, g_n v3), (4, g_n r7), (5, g_n (v5 + 1))] [] M4 (g_qV Q))))) : g_Run d 8 67 [(0, .ref a0), (1, g_n v1), (2, .ref a2), (3, g_n v3), (4, g_n v4), (5, g_n v5), (6, g_n v6), (7, g_n v7)] [] M (g_qV Q) := by
  refine g_Run.ok fun hok => ?_
  replace h := h hok
  refine r_iload x_8_67 rfl ?_
  refine r_sipush x_8_69 (x := 2000) rfl ?_
  refine r_ic_ge x_8_72 (t := 114) (by decide +kernel) hv7 (g_Rk rfl) (fun hc => ?_) (fun hc => ?_)
  · replace h := h.2 hc
    refine r_goto x_8_114 (t := 227) (by decide +kernel) ?_
    refine r_aload_n x_8_227 rfl ?_
    obtain ⟨hO1, h⟩ := h
    obtain ⟨b2, hb3, h⟩ := h
    refine r_getR x_8_228 rfl (ci := 0) (k := 1) (ns := 0) (by decide +kernel) (by decide) rfl (kz := 1) rfl hO1 hb3 ?_
    refine r_iload x_8_231 rfl ?_
    refine r_invS x_8_233 (z := 111) (ns := 1) (by decide +kernel) (as := [.ref b2, g_n v4]) (r := []) rfl rfl rfl ?_
    refine r_callI h fun r7 M4 hx5 hok6 hr8 h => ?_
    replace h := h hx5 hok6 hr8
    replace hO1 := hO1.up hx5
    refine r_istore x_8_236 (by decide +kernel) rfl (lv1 := [(0, .ref a0), (1, g_n v1), (2, .ref a2), (3, g_n v3), (4, g_n r7), (5, g_n v5), (6, g_n v6), (7, g_n v7)]) rfl ?_
    obtain ⟨h9, h⟩ := h
    refine r_iinc x_8_238 (by decide +kernel) rfl rfl (lv1 := [(0, .ref a0), (1, g_n v1), (2, .ref a2), (3, g_n v3), (4, g_n r7), (5, g_n (v5 + 1)), (6, g_n v6), (7, g_n v7)]) rfl ?_
    refine r_goto x_8_241 (t := 13) (by decide +kernel) ?_
    refine g_drop [0, 1, 2, 3, 4, 5] (lv1 := [(0, .ref a0), (1, g_n v1), (2, .ref a2), (3, g_n v3), (4, g_n r7), (5, g_n (v5 + 1))]) rfl ?_
    exact h
  · replace h := h.1 hc
    refine r_aload_n x_8_75 rfl ?_
    obtain ⟨hO10, h⟩ := h
    obtain ⟨b11, hb12, h⟩ := h
    refine r_getR x_8_76 rfl (ci := 0) (k := 1) (ns := 0) (by decide +kernel) (by decide) rfl (kz := 1) rfl hO10 hb12 ?_
    refine r_iload x_8_79 rfl ?_
    refine r_invS x_8_81 (z := 108) (ns := 1) (by decide +kernel) (as := [.ref b11, g_n v6]) (r := []) rfl rfl rfl ?_
    refine r_callI h fun r16 M13 hx14 hok15 hr17 h => ?_
    replace h := h hx14 hok15 hr17
    replace hO10 := hO10.up hx14
    refine r_if_eq x_8_84 (t := 114) (by decide +kernel) hr17 (fun hc => ?_) (fun hc => ?_)
    · replace h := h.1 hc
      refine r_goto x_8_114 (t := 227) (by decide +kernel) ?_
      refine r_aload_n x_8_227 rfl ?_
      obtain ⟨b18, hb19, h⟩ := h
      refine r_getR x_8_228 rfl (ci := 0) (k := 1) (ns := 0) (by decide +kernel) (by decide) rfl (kz := 1) rfl hO10 hb19 ?_
      refine r_iload x_8_231 rfl ?_
      refine r_invS x_8_233 (z := 111) (ns := 1) (by decide +kernel) (as := [.ref b18, g_n v4]) (r := []) rfl rfl rfl ?_
      refine r_callI h fun r23 M20 hx21 hok22 hr24 h => ?_
      replace h := h hx21 hok22 hr24
      replace hO10 := hO10.up hx21
      refine r_istore x_8_236 (by decide +kernel) rfl (lv1 := [(0, .ref a0), (1, g_n v1), (2, .ref a2), (3, g_n v3), (4, g_n r23), (5, g_n v5), (6, g_n v6), (7, g_n v7)]) rfl ?_
      obtain ⟨h25, h⟩ := h
      refine r_iinc x_8_238 (by decide +kernel) rfl rfl (lv1 := [(0, .ref a0), (1, g_n v1), (2, .ref a2), (3, g_n v3), (4, g_n r23), (5, g_n (v5 + 1)), (6, g_n v6), (7, g_n v7)]) rfl ?_
      refine r_goto x_8_241 (t := 13) (by decide +kernel) ?_
      refine g_drop [0, 1, 2, 3, 4, 5] (lv1 := [(0, .ref a0), (1, g_n v1), (2, .ref a2), (3, g_n v3), (4, g_n r23), (5, g_n (v5 + 1))]) rfl ?_
      exact h
    · replace h := h.2 hc
      refine r_aload_n x_8_87 rfl ?_
      refine r_iload x_8_88 rfl ?_
      refine r_aload_n x_8_90 rfl ?_
      refine r_iload_n x_8_91 rfl ?_
      refine r_iconst x_8_92 ?_
      refine r_iadd x_8_93 ?_
      obtain ⟨h26, h⟩ := h
      refine r_invV x_8_94 (z := 8) (ns := 0) (by decide +kernel) (as := [g_n v6, .ref a2, g_n (v3 + 1)]) (r := []) rfl rfl rfl hO10 rfl rfl ?_
      refine r_callV h fun M27 hx28 hok29 h => ?_
      replace h := h hx28 hok29
      replace hO10 := hO10.up hx28
      refine r_aload_n x_8_97 rfl ?_
      obtain ⟨b30, hb31, h⟩ := h
      refine r_getR x_8_98 rfl (ci := 0) (k := 1) (ns := 0) (by decide +kernel) (by decide) rfl (kz := 1) rfl hO10 hb31 ?_
      refine r_iload x_8_101 rfl ?_
      refine r_invS x_8_103 (z := 111) (ns := 1) (by decide +kernel) (as := [.ref b30, g_n v6]) (r := []) rfl rfl rfl ?_
      refine r_callI h fun r35 M32 hx33 hok34 hr36 h => ?_
      replace h := h hx33 hok34 hr36
      replace hO10 := hO10.up hx33
      refine r_istore x_8_106 (by decide +kernel) rfl (lv1 := [(0, .ref a0), (1, g_n v1), (2, .ref a2), (3, g_n v3), (4, g_n v4), (5, g_n v5), (6, g_n r35), (7, g_n v7)]) rfl ?_
      obtain ⟨h37, h⟩ := h
      refine r_iinc x_8_108 (by decide +kernel) rfl rfl (lv1 := [(0, .ref a0), (1, g_n v1), (2, .ref a2), (3, g_n v3), (4, g_n v4), (5, g_n v5), (6, g_n r35), (7, g_n (v7 + 1))]) rfl ?_
      refine r_goto x_8_111 (t := 67) (by decide +kernel) ?_
      exact h
theorem s_X0_collect_147 {d : Nat} {M : g_M} {Q : g_M → Prop} {a0 : Nat} {v1 : Int} (hv1 : g_InR v1) {a2 : Nat} {v3 : Int} (hv3 : g_InR v3) {v4 : Int} (hv4 : g_InR v4) {v5 : Int} (hv5 : g_InR v5) {w0 : Int} (hw0 : g_InR w0) (h : g_ok M → ((w0 = 0 → g_O M a0 0 ∧ ∃ b2, g_r M a0 1 = some b2 ∧ g_Call d 112 [.ref b2, g_n v4] M (g_qI fun r7 M4 => g_ext M M4 → g_ok M4 → g_InR r7 → g_Run d 8 173 [(0, .ref a0), (1, g_n v1), (2, .ref a2), (3, g_n v3), (4, g_n v4), (5, g_n v5), (6, g_n w0), (7, g_n r7), (8, g_n 0)] [] M4 (g_qV Q))) ∧ (¬ w0 = 0 → g_Run d 8 173 [(0, .ref a0), (1, g_n v1), (2, .ref a2), (3, g_n v3), (4, g_n v4), (5, g_n v5), (6, g_n w0), (7, g_n v4), (8, g_n 0)] [] M (g_qV Q)))) : g_Run d 8 147 [(0, .ref a0), (1, g_n v1), (2, .ref a2), (3, g_n v3), (4, g_n v4), (5, g_n v5)] [g_n w0] M (g_qV Q) := by
  refine g_Run.ok fun hok => ?_
  replace h := h hok
  refine r_istore x_8_147 (by decide +kernel) rfl (lv1 := [(0, .ref a0), (1, g_n v1), (2, .ref a2), (3, g_n v3), (4, g_n v4), (5, g_n v5), (6, g_n w0)]) rfl ?_
  refine r_iload x_8_149 rfl ?_
  refine r_if_eq x_8_151 (t := 159) (by decide +kernel) hw0 (fun hc => ?_) (fun hc => ?_)
  · replace h := h.1 hc
    refine r_aload_n x_8_159 rfl ?_
    obtain ⟨hO1, h⟩ := h
    obtain ⟨b2, hb3, h⟩ := h
    refine r_getR x_8_160 rfl (ci := 0) (k := 1) (ns := 0) (by decide +kernel) (by decide) rfl (kz := 1) rfl hO1 hb3 ?_
    refine r_iload x_8_163 rfl ?_
    refine r_invS x_8_165 (z := 112) (ns := 1) (by decide +kernel) (as := [.ref b2, g_n v4]) (r := []) rfl rfl rfl ?_
    refine r_callI h fun r7 M4 hx5 hok6 hr8 h => ?_
    replace h := h hx5 hok6 hr8
    replace hO1 := hO1.up hx5
    refine r_istore x_8_168 (by decide +kernel) rfl (lv1 := [(0, .ref a0), (1, g_n v1), (2, .ref a2), (3, g_n v3), (4, g_n v4), (5, g_n v5), (6, g_n w0), (7, g_n r7)]) rfl ?_
    refine r_iconst x_8_170 ?_
    refine r_istore x_8_171 (by decide +kernel) rfl (lv1 := [(0, .ref a0), (1, g_n v1), (2, .ref a2), (3, g_n v3), (4, g_n v4), (5, g_n v5), (6, g_n w0), (7, g_n r7), (8, g_n 0)]) rfl ?_
    exact h
  · replace h := h.2 hc
    refine r_iload x_8_154 rfl ?_
    refine r_goto x_8_156 (t := 168) (by decide +kernel) ?_
    refine r_istore x_8_168 (by decide +kernel) rfl (lv1 := [(0, .ref a0), (1, g_n v1), (2, .ref a2), (3, g_n v3), (4, g_n v4), (5, g_n v5), (6, g_n w0), (7, g_n v4)]) rfl ?_
    refine r_iconst x_8_170 ?_
    refine r_istore x_8_171 (by decide +kernel) rfl (lv1 := [(0, .ref a0), (1, g_n v1), (2, .ref a2), (3, g_n v3), (4, g_n v4), (5, g_n v5), (6, g_n w0), (7, g_n v4), (8, g_n 0)]) rfl ?_
    exact h
theorem s_X0_collect_173 {d : Nat} {M : g_M} {Q : g_M → Prop} {a0 : Nat} {v1 : Int} (hv1 : g_InR v1) {a2 : Nat} {v3 : Int} (hv3 : g_InR v3) {v4 : Int} (hv4 : g_InR v4) {v5 : Int} (hv5 : g_InR v5) {v6 : Int} (hv6 : g_InR v6) {v7 : Int} (hv7 : g_InR v7) {v8 : Int} (hv8 : g_InR v8) (h : g_ok M → ((v8 < 2000 → g_O M a0 0 ∧ ∃ b11, g_r M a0 1 = some b11 ∧ g_Call d 108 [.ref b11, g_n v7] M (g_qI fun r16 M13 => g_ext M M13 → g_ok M13 → g_InR r16 → ((r16 = 0 → ∃ b18, g_r M13 a0 1 = some b18 ∧ g_Call d 111 [.ref b18, g_n v4] M13 (g_qI fun r23 M20 => g_ext M13 M20 → g_ok M20 → g_InR r23 → g_InR (v5 + 1) ∧ g_Run d 8 13 [(0, .ref a0), (1, g_n v1), (2, .ref a2), (3, g_n v3), (4, g_n r23), (5, g_n (v5 + 1))] [] M20 (g_qV Q))) ∧ (¬ r16 = 0 → ∃ b26, g_r M13 a0 0 = some b26 ∧ g_O M13 b26 7 ∧ g_Call d 104 [.ref b26, g_n v7] M13 (g_qV fun M29 => g_ext M13 M29 → g_ok M29 → ((v6 = 0 → ∃ b32, g_r M29 a0 1 = some b32 ∧ g_Call d 111 [.ref b32, g_n v7] M29 (g_qI fun r37 M34 => g_ext M29 M34 → g_ok M34 → g_InR r37 → g_InR (v8 + 1) ∧ g_Run d 8 173 [(0, .ref a0), (1, g_n v1), (2, .ref a2), (3, g_n v3), (4, g_n v4), (5, g_n v5), (6, g_n v6), (7, g_n r37), (8, g_n (v8 + 1))] [] M34 (g_qV Q))) ∧ (¬ v6 = 0 → ∃ b40, g_r M29 a0 1 = some b40 ∧ g_Call d 111 [.ref b40, g_n v4] M29 (g_qI fun r45 M42 => g_ext M29 M42 → g_ok M42 → g_InR r45 → g_InR (v5 + 1) ∧ g_Run d 8 13 [(0, .ref a0), (1, g_n v1), (2, .ref a2), (3, g_n v3), (4, g_n r45), (5, g_n (v5 + 1))] [] M42 (g_qV Q))))))))) ∧ (¬ v8 < 2000 → g_O M a0 0 ∧ ∃ b2, g_r M a0 1 = some b2 ∧ g_Call d 111 [.ref b2, g_n v4] M (g_qI fun r7 M4 => g_ext M M4 → g_ok M4 → g_InR r7 → g_InR (v5 + 1) ∧ g_Run d 8 13 [(0, .ref a0), (1, g_n v1), (2, .ref a2), (3, g_n v3), (4, g_n r7), (5, g_n (v5 + 1))] [] M4 (g_qV Q))))) : g_Run d 8 173 [(0, .ref a0), (1, g_n v1), (2, .ref a2), (3, g_n v3), (4, g_n v4), (5, g_n v5), (6, g_n v6), (7, g_n v7), (8, g_n v8)] [] M (g_qV Q) := by
  refine g_Run.ok fun hok => ?_
  replace h := h hok
  refine r_iload x_8_173 rfl ?_
  refine r_sipush x_8_175 (x := 2000) rfl ?_
  refine r_ic_ge x_8_178 (t := 227) (by decide +kernel) hv8 (g_Rk rfl) (fun hc => ?_) (fun hc => ?_)
  · replace h := h.2 hc
    refine r_aload_n x_8_227 rfl ?_
    obtain ⟨hO1, h⟩ := h
    obtain ⟨b2, hb3, h⟩ := h
    refine r_getR x_8_228 rfl (ci := 0) (k := 1) (ns := 0) (by decide +kernel) (by decide) rfl (kz := 1) rfl hO1 hb3 ?_
    refine r_iload x_8_231 rfl ?_
    refine r_invS x_8_233 (z := 111) (ns := 1) (by decide +kernel) (as := [.ref b2, g_n v4]) (r := []) rfl rfl rfl ?_
    refine r_callI h fun r7 M4 hx5 hok6 hr8 h => ?_
    replace h := h hx5 hok6 hr8
    replace hO1 := hO1.up hx5
    refine r_istore x_8_236 (by decide +kernel) rfl (lv1 := [(0, .ref a0), (1, g_n v1), (2, .ref a2), (3, g_n v3), (4, g_n r7), (5, g_n v5), (6, g_n v6), (7, g_n v7), (8, g_n v8)]) rfl ?_
    obtain ⟨h9, h⟩ := h
    refine r_iinc x_8_238 (by decide +kernel) rfl rfl (lv1 := [(0, .ref a0), (1, g_n v1), (2, .ref a2), (3, g_n v3), (4, g_n r7), (5, g_n (v5 + 1)), (6, g_n v6), (7, g_n v7), (8, g_n v8)]) rfl ?_
    refine r_goto x_8_241 (t := 13) (by decide +kernel) ?_
    refine g_drop [0, 1, 2, 3, 4, 5] (lv1 := [(0, .ref a0), (1, g_n v1), (2, .ref a2), (3, g_n v3), (4, g_n r7), (5, g_n (v5 + 1))]) rfl ?_
    exact h
  · replace h := h.1 hc
    refine r_aload_n x_8_181 rfl ?_
    obtain ⟨hO10, h⟩ := h
    obtain ⟨b11, hb12, h⟩ := h
    refine r_getR x_8_182 rfl (ci := 0) (k := 1) (ns := 0) (by decide +kernel) (by decide) rfl (kz := 1) rfl hO10 hb12 ?_
    refine r_iload x_8_185 rfl ?_
    refine r_invS x_8_187 (z := 108) (ns := 1) (by decide +kernel) (as := [.ref b11, g_n v7]) (r := []) rfl rfl rfl ?_
    refine r_callI h fun r16 M13 hx14 hok15 hr17 h => ?_
    replace h := h hx14 hok15 hr17
    replace hO10 := hO10.up hx14
    refine r_if_eq x_8_190 (t := 227) (by decide +kernel) hr17 (fun hc => ?_) (fun hc => ?_)
    · replace h := h.1 hc
      refine r_aload_n x_8_227 rfl ?_
      obtain ⟨b18, hb19, h⟩ := h
      refine r_getR x_8_228 rfl (ci := 0) (k := 1) (ns := 0) (by decide +kernel) (by decide) rfl (kz := 1) rfl hO10 hb19 ?_
      refine r_iload x_8_231 rfl ?_
      refine r_invS x_8_233 (z := 111) (ns := 1) (by decide +kernel) (as := [.ref b18, g_n v4]) (r := []) rfl rfl rfl ?_
      refine r_callI h fun r23 M20 hx21 hok22 hr24 h => ?_
      replace h := h hx21 hok22 hr24
      replace hO10 := hO10.up hx21
      refine r_istore x_8_236 (by decide +kernel) rfl (lv1 := [(0, .ref a0), (1, g_n v1), (2, .ref a2), (3, g_n v3), (4, g_n r23), (5, g_n v5), (6, g_n v6), (7, g_n v7), (8, g_n v8)]) rfl ?_
      obtain ⟨h25, h⟩ := h
      refine r_iinc x_8_238 (by decide +kernel) rfl rfl (lv1 := [(0, .ref a0), (1, g_n v1), (2, .ref a2), (3, g_n v3), (4, g_n r23), (5, g_n (v5 + 1)), (6, g_n v6), (7, g_n v7), (8, g_n v8)]) rfl ?_
      refine r_goto x_8_241 (t := 13) (by decide +kernel) ?_
      refine g_drop [0, 1, 2, 3, 4, 5] (lv1 := [(0, .ref a0), (1, g_n v1), (2, .ref a2), (3, g_n v3), (4, g_n r23), (5, g_n (v5 + 1))]) rfl ?_
      exact h
    · replace h := h.2 hc
      refine r_aload_n x_8_193 rfl ?_
      obtain ⟨b26, hb27, h⟩ := h
      refine r_getR x_8_194 rfl (ci := 0) (k := 0) (ns := 0) (by decide +kernel) (by decide) rfl (kz := 0) rfl hO10 hb27 ?_
      refine r_iload x_8_197 rfl ?_
      obtain ⟨hO28, h⟩ := h
      refine r_invV x_8_199 (z := 104) (ns := 1) (by decide +kernel) (as := [g_n v7]) (r := []) rfl rfl rfl hO28 rfl rfl ?_
      refine r_callV h fun M29 hx30 hok31 h => ?_
      replace h := h hx30 hok31
      replace hO10 := hO10.up hx30
      replace hO28 := hO28.up hx30
      refine r_iload x_8_202 rfl ?_
      refine r_if_eq x_8_204 (t := 210) (by decide +kernel) hv6 (fun hc => ?_) (fun hc => ?_)
      · replace h := h.1 hc
        refine r_aload_n x_8_210 rfl ?_
        obtain ⟨b32, hb33, h⟩ := h
        refine r_getR x_8_211 rfl (ci := 0) (k := 1) (ns := 0) (by decide +kernel) (by decide) rfl (kz := 1) rfl hO10 hb33 ?_
        refine r_iload x_8_214 rfl ?_
        refine r_invS x_8_216 (z := 111) (ns := 1) (by decide +kernel) (as := [.ref b32, g_n v7]) (r := []) rfl rfl rfl ?_
        refine r_callI h fun r37 M34 hx35 hok36 hr38 h => ?_
        replace h := h hx35 hok36 hr38
        replace hO10 := hO10.up hx35
        replace hO28 := hO28.up hx35
        refine r_istore x_8_219 (by decide +kernel) rfl (lv1 := [(0, .ref a0), (1, g_n v1), (2, .ref a2), (3, g_n v3), (4, g_n v4), (5, g_n v5), (6, g_n v6), (7, g_n r37), (8, g_n v8)]) rfl ?_
        obtain ⟨h39, h⟩ := h
        refine r_iinc x_8_221 (by decide +kernel) rfl rfl (lv1 := [(0, .ref a0), (1, g_n v1), (2, .ref a2), (3, g_n v3), (4, g_n v4), (5, g_n v5), (6, g_n v6), (7, g_n r37), (8, g_n (v8 + 1))]) rfl ?_
        refine r_goto x_8_224 (t := 173) (by decide +kernel) ?_
        exact h
      · replace h := h.2 hc
        refine r_goto x_8_207 (t := 227) (by decide +kernel) ?_
        refine r_aload_n x_8_227 rfl ?_
        obtain ⟨b40, hb41, h⟩ := h
        refine r_getR x_8_228 rfl (ci := 0) (k := 1) (ns := 0) (by decide +kernel) (by decide) rfl (kz := 1) rfl hO10 hb41 ?_
        refine r_iload x_8_231 rfl ?_
        refine r_invS x_8_233 (z := 111) (ns := 1) (by decide +kernel) (as := [.ref b40, g_n v4]) (r := []) rfl rfl rfl ?_
        refine r_callI h fun r45 M42 hx43 hok44 hr46 h => ?_
        replace h := h hx43 hok44 hr46
        replace hO10 := hO10.up hx43
        replace hO28 := hO28.up hx43
        refine r_istore x_8_236 (by decide +kernel) rfl (lv1 := [(0, .ref a0), (1, g_n v1), (2, .ref a2), (3, g_n v3), (4, g_n r45), (5, g_n v5), (6, g_n v6), (7, g_n v7), (8, g_n v8)]) rfl ?_
        obtain ⟨h47, h⟩ := h
        refine r_iinc x_8_238 (by decide +kernel) rfl rfl (lv1 := [(0, .ref a0), (1, g_n v1), (2, .ref a2), (3, g_n v3), (4, g_n r45), (5, g_n (v5 + 1)), (6, g_n v6), (7, g_n v7), (8, g_n v8)]) rfl ?_
        refine r_goto x_8_241 (t := 13) (by decide +kernel) ?_
        refine g_drop [0, 1, 2, 3, 4, 5] (lv1 := [(0, .ref a0), (1, g_n v1), (2, .ref a2), (3, g_n v3), (4, g_n r45), (5, g_n (v5 + 1))]) rfl ?_
        exact h
theorem m_X0_bindElem {d : Nat} {M : g_M} {Q : Int → g_M → Prop} {a0 : Nat} {v1 : Int} (hv1 : g_InR v1) {v2 : Int} (hv2 : g_InR v2) (h : g_ok M → g_O M a0 0 ∧ ∃ b2, g_r M a0 1 = some b2 ∧ g_Call d 41 [.ref b2, g_n v1] M (g_qI fun r7 M4 => g_ext M M4 → g_ok M4 → g_InR r7 → ((r7 = 0 → Q 0 M4) ∧ (¬ r7 = 0 → ∃ b9, g_r M4 a0 1 = some b9 ∧ g_Call d 112 [.ref b9, g_n v1] M4 (g_qI fun r14 M11 => g_ext M4 M11 → g_ok M11 → g_InR r14 → g_Run d 9 28 [(0, .ref a0), (1, g_n v1), (2, g_n v2), (3, g_n 0), (4, g_n r14), (5, g_n 0)] [] M11 (g_qI Q)))))) : g_Call (d + 1) 9 [.ref a0, g_n v1, g_n v2] M (g_qI Q) := by
  refine g_Call.ok fun hok0 => ?_
  replace h := h hok0
  refine r_body rfl (lv := [(0, .ref a0), (1, g_n v1), (2, g_n v2)]) rfl ?_
  refine g_Run.ok fun hok => ?_
  refine r_aload_n x_9_0 rfl ?_
  obtain ⟨hO1, h⟩ := h
  obtain ⟨b2, hb3, h⟩ := h
  refine r_getR x_9_1 rfl (ci := 0) (k := 1) (ns := 0) (by decide +kernel) (by decide) rfl (kz := 1) rfl hO1 hb3 ?_
  refine r_iload_n x_9_4 rfl ?_
  refine r_invS x_9_5 (z := 41) (ns := 1) (by decide +kernel) (as := [.ref b2, g_n v1]) (r := []) rfl rfl rfl ?_
  refine r_callI h fun r7 M4 hx5 hok6 hr8 h => ?_
  replace h := h hx5 hok6 hr8
  replace hO1 := hO1.up hx5
  refine r_if_ne x_9_8 (t := 13) (by decide +kernel) hr8 (fun hc => ?_) (fun hc => ?_)
  · replace h := h.2 hc
    refine r_iconst x_9_13 ?_
    refine r_istore_n x_9_14 (by decide +kernel) rfl (lv1 := [(0, .ref a0), (1, g_n v1), (2, g_n v2), (3, g_n 0)]) rfl ?_
    refine r_aload_n x_9_15 rfl ?_
    obtain ⟨b9, hb10, h⟩ := h
    refine r_getR x_9_16 rfl (ci := 0) (k := 1) (ns := 0) (by decide +kernel) (by decide) rfl (kz := 1) rfl hO1 hb10 ?_
    refine r_iload_n x_9_19 rfl ?_
    refine r_invS x_9_20 (z := 112) (ns := 1) (by decide +kernel) (as := [.ref b9, g_n v1]) (r := []) rfl rfl rfl ?_
    refine r_callI h fun r14 M11 hx12 hok13 hr15 h => ?_
    replace h := h hx12 hok13 hr15
    replace hO1 := hO1.up hx12
    refine r_istore x_9_23 (by decide +kernel) rfl (lv1 := [(0, .ref a0), (1, g_n v1), (2, g_n v2), (3, g_n 0), (4, g_n r14)]) rfl ?_
    refine r_iconst x_9_25 ?_
    refine r_istore x_9_26 (by decide +kernel) rfl (lv1 := [(0, .ref a0), (1, g_n v1), (2, g_n v2), (3, g_n 0), (4, g_n r14), (5, g_n 0)]) rfl ?_
    exact h
  · replace h := h.1 hc
    refine r_iconst x_9_11 ?_
    exact r_retZ x_9_12 rfl (Or.inl rfl) h
theorem s_X0_bindElem_28 {d : Nat} {M : g_M} {Q : Int → g_M → Prop} {a0 : Nat} {v1 : Int} (hv1 : g_InR v1) {v2 : Int} (hv2 : g_InR v2) {v3 : Int} (hv3 : g_InR v3) {v4 : Int} (hv4 : g_InR v4) {v5 : Int} (hv5 : g_InR v5) (h : g_ok M → ((v5 < 2000 → g_O M a0 0 ∧ ∃ b2, g_r M a0 1 = some b2 ∧ g_Call d 108 [.ref b2, g_n v4] M (g_qI fun r7 M4 => g_ext M M4 → g_ok M4 → g_InR r7 → ((r7 = 0 → g_Run d 9 96 [(0, .ref a0), (1, g_n v1), (2, g_n v2), (3, g_n v3), (4, g_n v4), (5, g_n v5)] [] M4 (g_qI Q)) ∧ (¬ r7 = 0 → g_Call d 10 [.ref a0, g_n v4, g_n 3] M4 (g_qI fun r12 M9 => g_ext M4 M9 → g_ok M9 → g_InR r12 → ((r12 = 0 → ∃ b14, g_r M9 a0 1 = some b14 ∧ g_Call d 111 [.ref b14, g_n v4] M9 (g_qI fun r19 M16 => g_ext M9 M16 → g_ok M16 → g_InR r19 → g_InR (v5 + 1) ∧ g_Run d 9 28 [(0, .ref a0), (1, g_n v1), (2, g_n v2), (3, g_n v3), (4, g_n r19), (5, g_n (v5 + 1))] [] M16 (g_qI Q))) ∧ (¬ r12 = 0 → ((v3 = 0 → g_Call d 14 [.ref a0, g_n 3, g_n v2] M9 (g_qV fun M22 => g_ext M9 M22 → g_ok M22 → ∃ b25, g_r M22 a0 1 = some b25 ∧ g_Call d 111 [.ref b25, g_n v4] M22 (g_qI fun r30 M27 => g_ext M22 M27 → g_ok M27 → g_InR r30 → g_InR (v5 + 1) ∧ g_Run d 9 28 [(0, .ref a0), (1, g_n v1), (2, g_n v2), (3, g_n 1), (4, g_n r30), (5, g_n (v5 + 1))] [] M27 (g_qI Q)))) ∧ (¬ v3 = 0 → g_Call d 15 [.ref a0, g_n v2, g_n 3] M9 (g_qV fun M33 => g_ext M9 M33 → g_ok M33 → ∃ b36, g_r M33 a0 1 = some b36 ∧ g_Call d 111 [.ref b36, g_n v4] M33 (g_qI fun r41 M38 => g_ext M33 M38 → g_ok M38 → g_InR r41 → g_InR (v5 + 1) ∧ g_Run d 9 28 [(0, .ref a0), (1, g_n v1), (2, g_n v2), (3, g_n 1), (4, g_n r41), (5, g_n (v5 + 1))] [] M38 (g_qI Q)))))))))))) ∧ (¬ v5 < 2000 → g_Run d 9 96 [(0, .ref a0), (1, g_n v1), (2, g_n v2), (3, g_n v3), (4, g_n v4), (5, g_n v5)] [] M (g_qI Q)))) : g_Run d 9 28 [(0, .ref a0), (1, g_n v1), (2, g_n v2), (3, g_n v3), (4, g_n v4), (5, g_n v5)] [] M (g_qI Q) := by
  refine g_Run.ok fun hok => ?_
  replace h := h hok
  refine r_iload x_9_28 rfl ?_
  refine r_sipush x_9_30 (x := 2000) rfl ?_
  refine r_ic_ge x_9_33 (t := 96) (by decide +kernel) hv5 (g_Rk rfl) (fun hc => ?_) (fun hc => ?_)
  · replace h := h.2 hc
    exact h
  · replace h := h.1 hc
    refine r_aload_n x_9_36 rfl ?_
    obtain ⟨hO1, h⟩ := h
    obtain ⟨b2, hb3, h⟩ := h
    refine r_getR x_9_37 rfl (ci := 0) (k := 1) (ns := 0) (by decide +kernel) (by decide) rfl (kz := 1) rfl hO1 hb3 ?_
    refine r_iload x_9_40 rfl ?_
    refine r_invS x_9_42 (z := 108) (ns := 1) (by decide +kernel) (as := [.ref b2, g_n v4]) (r := []) rfl rfl rfl ?_
    refine r_callI h fun r7 M4 hx5 hok6 hr8 h => ?_
    replace h := h hx5 hok6 hr8
    replace hO1 := hO1.up hx5
    refine r_if_eq x_9_45 (t := 96) (by decide +kernel) hr8 (fun hc => ?_) (fun hc => ?_)
    · replace h := h.1 hc
      exact h
    · replace h := h.2 hc
      refine r_aload_n x_9_48 rfl ?_
      refine r_iload x_9_49 rfl ?_
      refine r_iconst x_9_51 ?_
      refine r_invV x_9_52 (z := 10) (ns := 0) (by decide +kernel) (as := [g_n v4, g_n 3]) (r := []) rfl rfl rfl hO1 rfl rfl ?_
      refine r_callI h fun r12 M9 hx10 hok11 hr13 h => ?_
      replace h := h hx10 hok11 hr13
      replace hO1 := hO1.up hx10
      refine r_if_eq x_9_55 (t := 79) (by decide +kernel) hr13 (fun hc => ?_) (fun hc => ?_)
      · replace h := h.1 hc
        refine r_aload_n x_9_79 rfl ?_
        obtain ⟨b14, hb15, h⟩ := h
        refine r_getR x_9_80 rfl (ci := 0) (k := 1) (ns := 0) (by decide +kernel) (by decide) rfl (kz := 1) rfl hO1 hb15 ?_
        refine r_iload x_9_83 rfl ?_
        refine r_invS x_9_85 (z := 111) (ns := 1) (by decide +kernel) (as := [.ref b14, g_n v4]) (r := []) rfl rfl rfl ?_
        refine r_callI h fun r19 M16 hx17 hok18 hr20 h => ?_
        replace h := h hx17 hok18 hr20
        replace hO1 := hO1.up hx17
        refine r_istore x_9_88 (by decide +kernel) rfl (lv1 := [(0, .ref a0), (1, g_n v1), (2, g_n v2), (3, g_n v3), (4, g_n r19), (5, g_n v5)]) rfl ?_
        obtain ⟨h21, h⟩ := h
        refine r_iinc x_9_90 (by decide +kernel) rfl rfl (lv1 := [(0, .ref a0), (1, g_n v1), (2, g_n v2), (3, g_n v3), (4, g_n r19), (5, g_n (v5 + 1))]) rfl ?_
        refine r_goto x_9_93 (t := 28) (by decide +kernel) ?_
        exact h
      · replace h := h.2 hc
        refine r_iload_n x_9_58 rfl ?_
        refine r_if_eq x_9_59 (t := 71) (by decide +kernel) hv3 (fun hc => ?_) (fun hc => ?_)
        · replace h := h.1 hc
          refine r_aload_n x_9_71 rfl ?_
          refine r_iconst x_9_72 ?_
          refine r_iload_n x_9_73 rfl ?_
          refine r_invV x_9_74 (z := 14) (ns := 0) (by decide +kernel) (as := [g_n 3, g_n v2]) (r := []) rfl rfl rfl hO1 rfl rfl ?_
          refine r_callV h fun M22 hx23 hok24 h => ?_
          replace h := h hx23 hok24
          replace hO1 := hO1.up hx23
          refine r_iconst x_9_77 ?_
          refine r_istore_n x_9_78 (by decide +kernel) rfl (lv1 := [(0, .ref a0), (1, g_n v1), (2, g_n v2), (3, g_n 1), (4, g_n v4), (5, g_n v5)]) rfl ?_
          refine r_aload_n x_9_79 rfl ?_
          obtain ⟨b25, hb26, h⟩ := h
          refine r_getR x_9_80 rfl (ci := 0) (k := 1) (ns := 0) (by decide +kernel) (by decide) rfl (kz := 1) rfl hO1 hb26 ?_
          refine r_iload x_9_83 rfl ?_
          refine r_invS x_9_85 (z := 111) (ns := 1) (by decide +kernel) (as := [.ref b25, g_n v4]) (r := []) rfl rfl rfl ?_
          refine r_callI h fun r30 M27 hx28 hok29 hr31 h => ?_
          replace h := h hx28 hok29 hr31
          replace hO1 := hO1.up hx28
          refine r_istore x_9_88 (by decide +kernel) rfl (lv1 := [(0, .ref a0), (1, g_n v1), (2, g_n v2), (3, g_n 1), (4, g_n r30), (5, g_n v5)]) rfl ?_
          obtain ⟨h32, h⟩ := h
          refine r_iinc x_9_90 (by decide +kernel) rfl rfl (lv1 := [(0, .ref a0), (1, g_n v1), (2, g_n v2), (3, g_n 1), (4, g_n r30), (5, g_n (v5 + 1))]) rfl ?_
          refine r_goto x_9_93 (t := 28) (by decide +kernel) ?_
          exact h
        · replace h := h.2 hc
          refine r_aload_n x_9_62 rfl ?_
          refine r_iload_n x_9_63 rfl ?_
          refine r_iconst x_9_64 ?_
          refine r_invV x_9_65 (z := 15) (ns := 0) (by decide +kernel) (as := [g_n v2, g_n 3]) (r := []) rfl rfl rfl hO1 rfl rfl ?_
          refine r_callV h fun M33 hx34 hok35 h => ?_
          replace h := h hx34 hok35
          replace hO1 := hO1.up hx34
          refine r_goto x_9_68 (t := 77) (by decide +kernel) ?_
          refine r_iconst x_9_77 ?_
          refine r_istore_n x_9_78 (by decide +kernel) rfl (lv1 := [(0, .ref a0), (1, g_n v1), (2, g_n v2), (3, g_n 1), (4, g_n v4), (5, g_n v5)]) rfl ?_
          refine r_aload_n x_9_79 rfl ?_
          obtain ⟨b36, hb37, h⟩ := h
          refine r_getR x_9_80 rfl (ci := 0) (k := 1) (ns := 0) (by decide +kernel) (by decide) rfl (kz := 1) rfl hO1 hb37 ?_
          refine r_iload x_9_83 rfl ?_
          refine r_invS x_9_85 (z := 111) (ns := 1) (by decide +kernel) (as := [.ref b36, g_n v4]) (r := []) rfl rfl rfl ?_
          refine r_callI h fun r41 M38 hx39 hok40 hr42 h => ?_
          replace h := h hx39 hok40 hr42
          replace hO1 := hO1.up hx39
          refine r_istore x_9_88 (by decide +kernel) rfl (lv1 := [(0, .ref a0), (1, g_n v1), (2, g_n v2), (3, g_n 1), (4, g_n r41), (5, g_n v5)]) rfl ?_
          obtain ⟨h43, h⟩ := h
          refine r_iinc x_9_90 (by decide +kernel) rfl rfl (lv1 := [(0, .ref a0), (1, g_n v1), (2, g_n v2), (3, g_n 1), (4, g_n r41), (5, g_n (v5 + 1))]) rfl ?_
          refine r_goto x_9_93 (t := 28) (by decide +kernel) ?_
          exact h
theorem s_X0_bindElem_96 {d : Nat} {M : g_M} {Q : Int → g_M → Prop} {a0 : Nat} {v1 : Int} (hv1 : g_InR v1) {v2 : Int} (hv2 : g_InR v2) {v3 : Int} (hv3 : g_InR v3) {v4 : Int} (hv4 : g_InR v4) {v5 : Int} (hv5 : g_InR v5) (h : g_ok M → ((v3 = 0 → (v3 = 0 ∨ v3 = 1) ∧ Q v3 M) ∧ (¬ v3 = 0 → g_O M a0 0 ∧ g_Call d 13 [.ref a0, g_n v2, g_n 5, g_n ((-1)), g_n ((-1)), g_n 0] M (g_qV fun M2 => g_ext M M2 → g_ok M2 → (v3 = 0 ∨ v3 = 1) ∧ Q v3 M2)))) : g_Run d 9 96 [(0, .ref a0), (1, g_n v1), (2, g_n v2), (3, g_n v3), (4, g_n v4), (5, g_n v5)] [] M (g_qI Q) := by
  refine g_Run.ok fun hok => ?_
  replace h := h hok
  refine r_iload_n x_9_96 rfl ?_
  refine r_if_eq x_9_97 (t := 109) (by decide +kernel) hv3 (fun hc => ?_) (fun hc => ?_)
  · replace h := h.1 hc
    refine r_iload_n x_9_109 rfl ?_
    obtain ⟨hz, h⟩ := h
    exact r_retZ x_9_110 rfl hz h
  · replace h := h.2 hc
    refine r_aload_n x_9_100 rfl ?_
    refine r_iload_n x_9_101 rfl ?_
    refine r_iconst x_9_102 ?_
    refine r_iconst x_9_103 ?_
    refine r_iconst x_9_104 ?_
    refine r_iconst x_9_105 ?_
    obtain ⟨hO1, h⟩ := h
    refine r_invV x_9_106 (z := 13) (ns := 0) (by decide +kernel) (as := [g_n v2, g_n 5, g_n ((-1)), g_n ((-1)), g_n 0]) (r := []) rfl rfl rfl hO1 rfl rfl ?_
    refine r_callV h fun M2 hx3 hok4 h => ?_
    replace h := h hx3 hok4
    replace hO1 := hO1.up hx3
    refine r_iload_n x_9_109 rfl ?_
    obtain ⟨hz, h⟩ := h
    exact r_retZ x_9_110 rfl hz h
theorem m_X0_bindOne {d : Nat} {M : g_M} {Q : Int → g_M → Prop} {a0 : Nat} {v1 : Int} (hv1 : g_InR v1) {v2 : Int} (hv2 : g_InR v2) (h : g_ok M → g_O M a0 0 ∧ ∃ b2, g_r M a0 1 = some b2 ∧ g_Call d 38 [.ref b2, g_n v1] M (g_qI fun r7 M4 => g_ext M M4 → g_ok M4 → g_InR r7 → ∃ b9, g_r M4 a0 3 = some b9 ∧ ∃ n11, g_A M4 b9 1 n11 ∧ ((0 : Int) ≤ v2 ∧ (v2 : Int) < n11) ∧ (∀ M14, M14 = g_wi M4 b9 v2 0 → g_ok M14 → ((r7 = 3 → ∃ b18, g_r M14 a0 1 = some b18 ∧ g_Call d 112 [.ref b18, g_n v1] M14 (g_qI fun r23 M20 => g_ext M14 M20 → g_ok M20 → g_InR r23 → g_Run d 10 42 [(0, .ref a0), (1, g_n v1), (2, g_n v2), (3, g_n r7), (4, g_n r23), (5, g_n 0)] [] M20 (g_qI Q))) ∧ (¬ r7 = 3 → g_Call d 11 [.ref a0, g_n r7, g_n v1, g_n v2] M14 (g_qI fun r28 M25 => g_ext M14 M25 → g_ok M25 → g_InR r28 → (r28 = 0 ∨ r28 = 1) ∧ Q r28 M25)))))) : g_Call (d + 1) 10 [.ref a0, g_n v1, g_n v2] M (g_qI Q) := by
  refine g_Call.ok fun hok0 => ?_
  replace h := h hok0
  refine r_body rfl (lv := [(0, .ref a0), (1, g_n v1), (2, g_n v2)]) rfl ?_
  refine g_Run.ok fun hok => ?_
  refine r_aload_n x_10_0 rfl ?_
  obtain ⟨hO1, h⟩ := h
  obtain ⟨b2, hb3, h⟩ := h
  refine r_getR x_10_1 rfl (ci := 0) (k := 1) (ns := 0) (by decide +kernel) (by decide) rfl (kz := 1) rfl hO1 hb3 ?_
  refine r_iload_n x_10_4 rfl ?_
  refine r_invS x_10_5 (z := 38) (ns := 1) (by decide +kernel) (as := [.ref b2, g_n v1]) (r := []) rfl rfl rfl ?_
  refine r_callI h fun r7 M4 hx5 hok6 hr8 h => ?_
  replace h := h hx5 hok6 hr8
  replace hO1 := hO1.up hx5
  refine r_istore_n x_10_8 (by decide +kernel) rfl (lv1 := [(0, .ref a0), (1, g_n v1), (2, g_n v2), (3, g_n r7)]) rfl ?_
  refine r_aload_n x_10_9 rfl ?_
  obtain ⟨b9, hb10, h⟩ := h
  refine r_getR x_10_10 rfl (ci := 0) (k := 3) (ns := 0) (by decide +kernel) (by decide) rfl (kz := 3) rfl hO1 hb10 ?_
  refine r_iload_n x_10_13 rfl ?_
  refine r_iconst x_10_14 ?_
  obtain ⟨n11, hA12, h⟩ := h
  obtain ⟨h13, h⟩ := h
  refine r_iast x_10_15 hA12 hv2 h13.1 h13.2 (g_Rk rfl) ?_
  obtain ⟨M14, hM15⟩ : ∃ Mz, Mz = g_wi M4 b9 v2 0 := ⟨_, rfl⟩
  rw [← hM15]
  refine g_Run.ok fun hok16 => ?_
  replace h := h M14 hM15 hok16
  have hx17 := g_extW hM15
  replace hO1 := hO1.up hx17
  replace hA12 := hA12.up hx17
  refine r_iload_n x_10_16 rfl ?_
  refine r_iconst x_10_17 ?_
  refine r_ic_eq x_10_18 (t := 29) (by decide +kernel) hr8 (g_Rk rfl) (fun hc => ?_) (fun hc => ?_)
  · replace h := h.1 hc
    refine r_aload_n x_10_29 rfl ?_
    obtain ⟨b18, hb19, h⟩ := h
    refine r_getR x_10_30 rfl (ci := 0) (k := 1) (ns := 0) (by decide +kernel) (by decide) rfl (kz := 1) rfl hO1 hb19 ?_
    refine r_iload_n x_10_33 rfl ?_
    refine r_invS x_10_34 (z := 112) (ns := 1) (by decide +kernel) (as := [.ref b18, g_n v1]) (r := []) rfl rfl rfl ?_
    refine r_callI h fun r23 M20 hx21 hok22 hr24 h => ?_
    replace h := h hx21 hok22 hr24
    replace hO1 := hO1.up hx21
    replace hA12 := hA12.up hx21
    refine r_istore x_10_37 (by decide +kernel) rfl (lv1 := [(0, .ref a0), (1, g_n v1), (2, g_n v2), (3, g_n r7), (4, g_n r23)]) rfl ?_
    refine r_iconst x_10_39 ?_
    refine r_istore x_10_40 (by decide +kernel) rfl (lv1 := [(0, .ref a0), (1, g_n v1), (2, g_n v2), (3, g_n r7), (4, g_n r23), (5, g_n 0)]) rfl ?_
    exact h
  · replace h := h.2 hc
    refine r_aload_n x_10_21 rfl ?_
    refine r_iload_n x_10_22 rfl ?_
    refine r_iload_n x_10_23 rfl ?_
    refine r_iload_n x_10_24 rfl ?_
    refine r_invV x_10_25 (z := 11) (ns := 0) (by decide +kernel) (as := [g_n r7, g_n v1, g_n v2]) (r := []) rfl rfl rfl hO1 rfl rfl ?_
    refine r_callI h fun r28 M25 hx26 hok27 hr29 h => ?_
    replace h := h hx26 hok27 hr29
    replace hO1 := hO1.up hx26
    replace hA12 := hA12.up hx26
    obtain ⟨hz, h⟩ := h
    exact r_retZ x_10_28 rfl hz h
theorem s_X0_bindOne_42 {d : Nat} {M : g_M} {Q : Int → g_M → Prop} {a0 : Nat} {v1 : Int} (hv1 : g_InR v1) {v2 : Int} (hv2 : g_InR v2) {v3 : Int} (hv3 : g_InR v3) {v4 : Int} (hv4 : g_InR v4) {v5 : Int} (hv5 : g_InR v5) (h : g_ok M → ((v5 < 2000 → g_O M a0 0 ∧ ∃ b2, g_r M a0 1 = some b2 ∧ g_Call d 108 [.ref b2, g_n v4] M (g_qI fun r7 M4 => g_ext M M4 → g_ok M4 → g_InR r7 → ((r7 = 0 → Q 1 M4) ∧ (¬ r7 = 0 → ∃ b9, g_r M4 a0 1 = some b9 ∧ g_Call d 108 [.ref b9, g_n v4] M4 (g_qI fun r14 M11 => g_ext M4 M11 → g_ok M11 → g_InR r14 → ((r14 = 4 → Q 0 M11) ∧ (¬ r14 = 4 → g_Run d 10 83 [(0, .ref a0), (1, g_n v1), (2, g_n v2), (3, g_n v3), (4, g_n v4), (5, g_n v5), (6, g_n 0), (7, g_n 0)] [] M11 (g_qI Q)))))))) ∧ (¬ v5 < 2000 → Q 1 M))) : g_Run d 10 42 [(0, .ref a0), (1, g_n v1), (2, g_n v2), (3, g_n v3), (4, g_n v4), (5, g_n v5)] [] M (g_qI Q) := by
  refine g_Run.ok fun hok => ?_
  replace h := h hok
  refine r_iload x_10_42 rfl ?_
  refine r_sipush x_10_44 (x := 2000) rfl ?_
  refine r_ic_ge x_10_47 (t := 171) (by decide +kernel) hv5 (g_Rk rfl) (fun hc => ?_) (fun hc => ?_)
  · replace h := h.2 hc
    refine r_iconst x_10_171 ?_
    exact r_retZ x_10_172 rfl (Or.inr rfl) h
  · replace h := h.1 hc
    refine r_aload_n x_10_50 rfl ?_
    obtain ⟨hO1, h⟩ := h
    obtain ⟨b2, hb3, h⟩ := h
    refine r_getR x_10_51 rfl (ci := 0) (k := 1) (ns := 0) (by decide +kernel) (by decide) rfl (kz := 1) rfl hO1 hb3 ?_
    refine r_iload x_10_54 rfl ?_
    refine r_invS x_10_56 (z := 108) (ns := 1) (by decide +kernel) (as := [.ref b2, g_n v4]) (r := []) rfl rfl rfl ?_
    refine r_callI h fun r7 M4 hx5 hok6 hr8 h => ?_
    replace h := h hx5 hok6 hr8
    replace hO1 := hO1.up hx5
    refine r_if_eq x_10_59 (t := 171) (by decide +kernel) hr8 (fun hc => ?_) (fun hc => ?_)
    · replace h := h.1 hc
      refine r_iconst x_10_171 ?_
      exact r_retZ x_10_172 rfl (Or.inr rfl) h
    · replace h := h.2 hc
      refine r_aload_n x_10_62 rfl ?_
      obtain ⟨b9, hb10, h⟩ := h
      refine r_getR x_10_63 rfl (ci := 0) (k := 1) (ns := 0) (by decide +kernel) (by decide) rfl (kz := 1) rfl hO1 hb10 ?_
      refine r_iload x_10_66 rfl ?_
      refine r_invS x_10_68 (z := 108) (ns := 1) (by decide +kernel) (as := [.ref b9, g_n v4]) (r := []) rfl rfl rfl ?_
      refine r_callI h fun r14 M11 hx12 hok13 hr15 h => ?_
      replace h := h hx12 hok13 hr15
      replace hO1 := hO1.up hx12
      refine r_iconst x_10_71 ?_
      refine r_ic_ne x_10_72 (t := 77) (by decide +kernel) hr15 (g_Rk rfl) (fun hc => ?_) (fun hc => ?_)
      · replace h := h.2 hc
        refine r_iconst x_10_77 ?_
        refine r_istore x_10_78 (by decide +kernel) rfl (lv1 := [(0, .ref a0), (1, g_n v1), (2, g_n v2), (3, g_n v3), (4, g_n v4), (5, g_n v5), (6, g_n 0)]) rfl ?_
        refine r_iconst x_10_80 ?_
        refine r_istore x_10_81 (by decide +kernel) rfl (lv1 := [(0, .ref a0), (1, g_n v1), (2, g_n v2), (3, g_n v3), (4, g_n v4), (5, g_n v5), (6, g_n 0), (7, g_n 0)]) rfl ?_
        exact h
      · replace h := h.1 hc
        refine r_iconst x_10_75 ?_
        exact r_retZ x_10_76 rfl (Or.inl rfl) h
theorem s_X0_bindOne_83 {d : Nat} {M : g_M} {Q : Int → g_M → Prop} {a0 : Nat} {v1 : Int} (hv1 : g_InR v1) {v2 : Int} (hv2 : g_InR v2) {v3 : Int} (hv3 : g_InR v3) {v4 : Int} (hv4 : g_InR v4) {v5 : Int} (hv5 : g_InR v5) {v6 : Int} (hv6 : g_InR v6) {v7 : Int} (hv7 : g_InR v7) (h : g_ok M → g_O M a0 0 ∧ ∃ b2, g_r M a0 3 = some b2 ∧ ∃ n4, g_A M b2 1 n4 ∧ ((0 : Int) ≤ v2 ∧ (v2 : Int) < n4) ∧ ((v7 < g_i M b2 v2 → ((v6 = 0 → ∃ b7, g_r M a0 1 = some b7 ∧ ∃ b9, g_r M a0 1 = some b9 ∧ ∃ b11, g_r M a0 2 = some b11 ∧ ∃ n13, g_A M b11 5 n13 ∧ ((0 : Int) ≤ v2 ∧ (v2 : Int) < n13) ∧ ∃ b16, g_r M b11 v2 = some b16 ∧ g_InR (v7 * 4) ∧ g_InR ((v7 * 4) + 1) ∧ ∃ n20, g_A M b16 1 n20 ∧ ((0 : Int) ≤ (v7 * 4) + 1 ∧ ((v7 * 4) + 1 : Int) < n20) ∧ g_Call d 121 [.ref b7, g_n v4, .ref b9, g_n (g_i M b16 ((v7 * 4) + 1)), g_n 0] M (g_qI fun r26 M23 => g_ext M M23 → g_ok M23 → g_InR r26 → ((r26 = 0 → g_InR (v7 + 1) ∧ g_Run d 10 83 [(0, .ref a0), (1, g_n v1), (2, g_n v2), (3, g_n v3), (4, g_n v4), (5, g_n v5), (6, g_n 1), (7, g_n (v7 + 1))] [] M23 (g_qI Q)) ∧ (¬ r26 = 0 → g_InR (v7 + 1) ∧ g_Run d 10 83 [(0, .ref a0), (1, g_n v1), (2, g_n v2), (3, g_n v3), (4, g_n v4), (5, g_n v5), (6, g_n 0), (7, g_n (v7 + 1))] [] M23 (g_qI Q))))) ∧ (¬ v6 = 0 → g_Run d 10 142 [(0, .ref a0), (1, g_n v1), (2, g_n v2), (3, g_n v3), (4, g_n v4), (5, g_n v5), (6, g_n v6), (7, g_n v7)] [] M (g_qI Q)))) ∧ (¬ v7 < g_i M b2 v2 → g_Run d 10 142 [(0, .ref a0), (1, g_n v1), (2, g_n v2), (3, g_n v3), (4, g_n v4), (5, g_n v5), (6, g_n v6), (7, g_n v7)] [] M (g_qI Q)))) : g_Run d 10 83 [(0, .ref a0), (1, g_n v1), (2, g_n v2), (3, g_n v3), (4, g_n v4), (5, g_n v5), (6, g_n v6), (7, g_n v7)] [] M (g_qI Q) := by
  refine g_Run.ok fun hok => ?_
  replace h := h hok
  refine r_iload x_10_83 rfl ?_
  refine r_aload_n x_10_85 rfl ?_
  obtain ⟨hO1, h⟩ := h
  obtain ⟨b2, hb3, h⟩ := h
  refine r_getR x_10_86 rfl (ci := 0) (k := 3) (ns := 0) (by decide +kernel) (by decide) rfl (kz := 3) rfl hO1 hb3 ?_
  refine r_iload_n x_10_89 rfl ?_
  obtain ⟨n4, hA5, h⟩ := h
  obtain ⟨h6, h⟩ := h
  refine r_iald x_10_90 hA5 hv2 h6.1 h6.2 ?_
  refine r_ic_ge x_10_91 (t := 142) (by decide +kernel) hv7 (hok.1 _ _) (fun hc => ?_) (fun hc => ?_)
  · replace h := h.2 hc
    exact h
  · replace h := h.1 hc
    refine r_iload x_10_94 rfl ?_
    refine r_if_ne x_10_96 (t := 142) (by decide +kernel) hv6 (fun hc => ?_) (fun hc => ?_)
    · replace h := h.2 hc
      exact h
    · replace h := h.1 hc
      refine r_aload_n x_10_99 rfl ?_
      obtain ⟨b7, hb8, h⟩ := h
      refine r_getR x_10_100 rfl (ci := 0) (k := 1) (ns := 0) (by decide +kernel) (by decide) rfl (kz := 1) rfl hO1 hb8 ?_
      refine r_iload x_10_103 rfl ?_
      refine r_aload_n x_10_105 rfl ?_
      obtain ⟨b9, hb10, h⟩ := h
      refine r_getR x_10_106 rfl (ci := 0) (k := 1) (ns := 0) (by decide +kernel) (by decide) rfl (kz := 1) rfl hO1 hb10 ?_
      refine r_aload_n x_10_109 rfl ?_
      obtain ⟨b11, hb12, h⟩ := h
      refine r_getR x_10_110 rfl (ci := 0) (k := 2) (ns := 0) (by decide +kernel) (by decide) rfl (kz := 2) rfl hO1 hb12 ?_
      refine r_iload_n x_10_113 rfl ?_
      obtain ⟨n13, hA14, h⟩ := h
      obtain ⟨h15, h⟩ := h
      obtain ⟨b16, hb17, h⟩ := h
      refine r_aald x_10_114 (by decide) hA14 hv2 h15.1 h15.2 hb17 ?_
      refine r_iload x_10_115 rfl ?_
      refine r_iconst x_10_117 ?_
      refine r_imul x_10_118 ?_
      obtain ⟨h18, h⟩ := h
      refine r_iconst x_10_119 ?_
      refine r_iadd x_10_120 ?_
      obtain ⟨h19, h⟩ := h
      obtain ⟨n20, hA21, h⟩ := h
      obtain ⟨h22, h⟩ := h
      refine r_iald x_10_121 hA21 h19 h22.1 h22.2 ?_
      refine r_iconst x_10_122 ?_
      refine r_invS x_10_123 (z := 121) (ns := 1) (by decide +kernel) (as := [.ref b7, g_n v4, .ref b9, g_n (g_i M b16 ((v7 * 4) + 1)), g_n 0]) (r := []) rfl rfl rfl ?_
      refine r_callI h fun r26 M23 hx24 hok25 hr27 h => ?_
      replace h := h hx24 hok25 hr27
      replace hO1 := hO1.up hx24
      replace hA5 := hA5.up hx24
      replace hA14 := hA14.up hx24
      replace hA21 := hA21.up hx24
      refine r_if_ne x_10_126 (t := 133) (by decide +kernel) hr27 (fun hc => ?_) (fun hc => ?_)
      · replace h := h.2 hc
        refine r_iconst x_10_133 ?_
        refine r_istore x_10_134 (by decide +kernel) rfl (lv1 := [(0, .ref a0), (1, g_n v1), (2, g_n v2), (3, g_n v3), (4, g_n v4), (5, g_n v5), (6, g_n 0), (7, g_n v7)]) rfl ?_
        obtain ⟨h28, h⟩ := h
        refine r_iinc x_10_136 (by decide +kernel) rfl rfl (lv1 := [(0, .ref a0), (1, g_n v1), (2, g_n v2), (3, g_n v3), (4, g_n v4), (5, g_n v5), (6, g_n 0), (7, g_n (v7 + 1))]) rfl ?_
        refine r_goto x_10_139 (t := 83) (by decide +kernel) ?_
        exact h
      · replace h := h.1 hc
        refine r_iconst x_10_129 ?_
        refine r_goto x_10_130 (t := 134) (by decide +kernel) ?_
        refine r_istore x_10_134 (by decide +kernel) rfl (lv1 := [(0, .ref a0), (1, g_n v1), (2, g_n v2), (3, g_n v3), (4, g_n v4), (5, g_n v5), (6, g_n 1), (7, g_n v7)]) rfl ?_
        obtain ⟨h29, h⟩ := h
        refine r_iinc x_10_136 (by decide +kernel) rfl rfl (lv1 := [(0, .ref a0), (1, g_n v1), (2, g_n v2), (3, g_n v3), (4, g_n v4), (5, g_n v5), (6, g_n 1), (7, g_n (v7 + 1))]) rfl ?_
        refine r_goto x_10_139 (t := 83) (by decide +kernel) ?_
        exact h
theorem s_X0_bindOne_142 {d : Nat} {M : g_M} {Q : Int → g_M → Prop} {a0 : Nat} {v1 : Int} (hv1 : g_InR v1) {v2 : Int} (hv2 : g_InR v2) {v3 : Int} (hv3 : g_InR v3) {v4 : Int} (hv4 : g_InR v4) {v5 : Int} (hv5 : g_InR v5) {v6 : Int} (hv6 : g_InR v6) {v7 : Int} (hv7 : g_InR v7) (h : g_ok M → ((v6 = 0 → g_O M a0 0 ∧ g_Call d 12 [.ref a0, g_n v2, g_n v4] M (g_qV fun M11 => g_ext M M11 → g_ok M11 → ∃ b14, g_r M11 a0 1 = some b14 ∧ g_Call d 111 [.ref b14, g_n v4] M11 (g_qI fun r19 M16 => g_ext M11 M16 → g_ok M16 → g_InR r19 → g_InR (v5 + 1) ∧ g_Run d 10 42 [(0, .ref a0), (1, g_n v1), (2, g_n v2), (3, g_n v3), (4, g_n r19), (5, g_n (v5 + 1))] [] M16 (g_qI Q)))) ∧ (¬ v6 = 0 → g_O M a0 0 ∧ ∃ b2, g_r M a0 1 = some b2 ∧ g_Call d 111 [.ref b2, g_n v4] M (g_qI fun r7 M4 => g_ext M M4 → g_ok M4 → g_InR r7 → g_InR (v5 + 1) ∧ g_Run d 10 42 [(0, .ref a0), (1, g_n v1), (2, g_n v2), (3, g_n v3), (4, g_n r7), (5, g_n (v5 + 1))] [] M4 (g_qI Q))))) : g_Run d 10 142 [(0, .ref a0), (1, g_n v1), (2, g_n v2), (3, g_n v3), (4, g_n v4), (5, g_n v5), (6, g_n v6), (7, g_n v7)] [] M (g_qI Q) := by
  refine g_Run.ok fun hok => ?_
  replace h := h hok
  refine r_iload x_10_142 rfl ?_
  refine r_if_ne x_10_144 (t := 154) (by decide +kernel) hv6 (fun hc => ?_) (fun hc => ?_)
  · replace h := h.2 hc
    refine r_aload_n x_10_154 rfl ?_
    obtain ⟨hO1, h⟩ := h
    obtain ⟨b2, hb3, h⟩ := h
    refine r_getR x_10_155 rfl (ci := 0) (k := 1) (ns := 0) (by decide +kernel) (by decide) rfl (kz := 1) rfl hO1 hb3 ?_
    refine r_iload x_10_158 rfl ?_
    refine r_invS x_10_160 (z := 111) (ns := 1) (by decide +kernel) (as := [.ref b2, g_n v4]) (r := []) rfl rfl rfl ?_
    refine r_callI h fun r7 M4 hx5 hok6 hr8 h => ?_
    replace h := h hx5 hok6 hr8
    replace hO1 := hO1.up hx5
    refine r_istore x_10_163 (by decide +kernel) rfl (lv1 := [(0, .ref a0), (1, g_n v1), (2, g_n v2), (3, g_n v3), (4, g_n r7), (5, g_n v5), (6, g_n v6), (7, g_n v7)]) rfl ?_
    obtain ⟨h9, h⟩ := h
    refine r_iinc x_10_165 (by decide +kernel) rfl rfl (lv1 := [(0, .ref a0), (1, g_n v1), (2, g_n v2), (3, g_n v3), (4, g_n r7), (5, g_n (v5 + 1)), (6, g_n v6), (7, g_n v7)]) rfl ?_
    refine r_goto x_10_168 (t := 42) (by decide +kernel) ?_
    refine g_drop [0, 1, 2, 3, 4, 5] (lv1 := [(0, .ref a0), (1, g_n v1), (2, g_n v2), (3, g_n v3), (4, g_n r7), (5, g_n (v5 + 1))]) rfl ?_
    exact h
  · replace h := h.1 hc
    refine r_aload_n x_10_147 rfl ?_
    refine r_iload_n x_10_148 rfl ?_
    refine r_iload x_10_149 rfl ?_
    obtain ⟨hO10, h⟩ := h
    refine r_invV x_10_151 (z := 12) (ns := 0) (by decide +kernel) (as := [g_n v2, g_n v4]) (r := []) rfl rfl rfl hO10 rfl rfl ?_
    refine r_callV h fun M11 hx12 hok13 h => ?_
    replace h := h hx12 hok13
    replace hO10 := hO10.up hx12
    refine r_aload_n x_10_154 rfl ?_
    obtain ⟨b14, hb15, h⟩ := h
    refine r_getR x_10_155 rfl (ci := 0) (k := 1) (ns := 0) (by decide +kernel) (by decide) rfl (kz := 1) rfl hO10 hb15 ?_
    refine r_iload x_10_158 rfl ?_
    refine r_invS x_10_160 (z := 111) (ns := 1) (by decide +kernel) (as := [.ref b14, g_n v4]) (r := []) rfl rfl rfl ?_
    refine r_callI h fun r19 M16 hx17 hok18 hr20 h => ?_
    replace h := h hx17 hok18 hr20
    replace hO10 := hO10.up hx17
    refine r_istore x_10_163 (by decide +kernel) rfl (lv1 := [(0, .ref a0), (1, g_n v1), (2, g_n v2), (3, g_n v3), (4, g_n r19), (5, g_n v5), (6, g_n v6), (7, g_n v7)]) rfl ?_
    obtain ⟨h21, h⟩ := h
    refine r_iinc x_10_165 (by decide +kernel) rfl rfl (lv1 := [(0, .ref a0), (1, g_n v1), (2, g_n v2), (3, g_n v3), (4, g_n r19), (5, g_n (v5 + 1)), (6, g_n v6), (7, g_n v7)]) rfl ?_
    refine r_goto x_10_168 (t := 42) (by decide +kernel) ?_
    refine g_drop [0, 1, 2, 3, 4, 5] (lv1 := [(0, .ref a0), (1, g_n v1), (2, g_n v2), (3, g_n v3), (4, g_n r19), (5, g_n (v5 + 1))]) rfl ?_
    exact h
theorem m_X0_bindSimple {d : Nat} {M : g_M} {Q : Int → g_M → Prop} {a0 : Nat} {v1 : Int} (hv1 : g_InR v1) {v2 : Int} (hv2 : g_InR v2) {v3 : Int} (hv3 : g_InR v3) (h : g_ok M → g_O M a0 0 ∧ ∃ b2, g_r M a0 1 = some b2 ∧ g_Call d 108 [.ref b2, g_n v2] M (g_qI fun r7 M4 => g_ext M M4 → g_ok M4 → g_InR r7 → ((v1 = 0 → g_Run d 11 24 [(0, .ref a0), (1, g_n v1), (2, g_n v2), (3, g_n v3), (4, g_n r7)] [g_n 1] M4 (g_qI Q)) ∧ (¬ v1 = 0 → ((v1 = 1 → g_Run d 11 24 [(0, .ref a0), (1, g_n v1), (2, g_n v2), (3, g_n v3), (4, g_n r7)] [g_n 1] M4 (g_qI Q)) ∧ (¬ v1 = 1 → g_Run d 11 24 [(0, .ref a0), (1, g_n v1), (2, g_n v2), (3, g_n v3), (4, g_n r7)] [g_n 0] M4 (g_qI Q))))))) : g_Call (d + 1) 11 [.ref a0, g_n v1, g_n v2, g_n v3] M (g_qI Q) := by
  refine g_Call.ok fun hok0 => ?_
  replace h := h hok0
  refine r_body rfl (lv := [(0, .ref a0), (1, g_n v1), (2, g_n v2), (3, g_n v3)]) rfl ?_
  refine g_Run.ok fun hok => ?_
  refine r_aload_n x_11_0 rfl ?_
  obtain ⟨hO1, h⟩ := h
  obtain ⟨b2, hb3, h⟩ := h
  refine r_getR x_11_1 rfl (ci := 0) (k := 1) (ns := 0) (by decide +kernel) (by decide) rfl (kz := 1) rfl hO1 hb3 ?_
  refine r_iload_n x_11_4 rfl ?_
  refine r_invS x_11_5 (z := 108) (ns := 1) (by decide +kernel) (as := [.ref b2, g_n v2]) (r := []) rfl rfl rfl ?_
  refine r_callI h fun r7 M4 hx5 hok6 hr8 h => ?_
  replace h := h hx5 hok6 hr8
  replace hO1 := hO1.up hx5
  refine r_istore x_11_8 (by decide +kernel) rfl (lv1 := [(0, .ref a0), (1, g_n v1), (2, g_n v2), (3, g_n v3), (4, g_n r7)]) rfl ?_
  refine r_iload_n x_11_10 rfl ?_
  refine r_if_eq x_11_11 (t := 19) (by decide +kernel) hv1 (fun hc => ?_) (fun hc => ?_)
  · replace h := h.1 hc
    refine r_iconst x_11_19 ?_
    refine r_goto x_11_20 (t := 24) (by decide +kernel) ?_
    exact h
  · replace h := h.2 hc
    refine r_iload_n x_11_14 rfl ?_
    refine r_iconst x_11_15 ?_
    refine r_ic_ne x_11_16 (t := 23) (by decide +kernel) hv1 (g_Rk rfl) (fun hc => ?_) (fun hc => ?_)
    · replace h := h.2 hc
      refine r_iconst x_11_23 ?_
      exact h
    · replace h := h.1 hc
      refine r_iconst x_11_19 ?_
      refine r_goto x_11_20 (t := 24) (by decide +kernel) ?_
      exact h
theorem s_X0_bindSimple_24 {d : Nat} {M : g_M} {Q : Int → g_M → Prop} {a0 : Nat} {v1 : Int} (hv1 : g_InR v1) {v2 : Int} (hv2 : g_InR v2) {v3 : Int} (hv3 : g_InR v3) {v4 : Int} (hv4 : g_InR v4) {w0 : Int} (hw0 : g_InR w0) (h : g_ok M → ((v1 = 5 → g_Run d 11 42 [(0, .ref a0), (1, g_n v1), (2, g_n v2), (3, g_n v3), (4, g_n v4), (5, g_n w0)] [g_n 1] M (g_qI Q)) ∧ (¬ v1 = 5 → ((v1 = 6 → g_Run d 11 42 [(0, .ref a0), (1, g_n v1), (2, g_n v2), (3, g_n v3), (4, g_n v4), (5, g_n w0)] [g_n 1] M (g_qI Q)) ∧ (¬ v1 = 6 → g_Run d 11 42 [(0, .ref a0), (1, g_n v1), (2, g_n v2), (3, g_n v3), (4, g_n v4), (5, g_n w0)] [g_n 0] M (g_qI Q)))))) : g_Run d 11 24 [(0, .ref a0), (1, g_n v1), (2, g_n v2), (3, g_n v3), (4, g_n v4)] [g_n w0] M (g_qI Q) := by
  refine g_Run.ok fun hok => ?_
  replace h := h hok
  refine r_istore x_11_24 (by decide +kernel) rfl (lv1 := [(0, .ref a0), (1, g_n v1), (2, g_n v2), (3, g_n v3), (4, g_n v4), (5, g_n w0)]) rfl ?_
  refine r_iload_n x_11_26 rfl ?_
  refine r_iconst x_11_27 ?_
  refine r_ic_eq x_11_28 (t := 37) (by decide +kernel) hv1 (g_Rk rfl) (fun hc => ?_) (fun hc => ?_)
  · replace h := h.1 hc
    refine r_iconst x_11_37 ?_
    refine r_goto x_11_38 (t := 42) (by decide +kernel) ?_
    exact h
  · replace h := h.2 hc
    refine r_iload_n x_11_31 rfl ?_
    refine r_bipush x_11_32 (x := 6) rfl ?_
    refine r_ic_ne x_11_34 (t := 41) (by decide +kernel) hv1 (g_Rk rfl) (fun hc => ?_) (fun hc => ?_)
    · replace h := h.2 hc
      refine r_iconst x_11_41 ?_
      exact h
    · replace h := h.1 hc
      refine r_iconst x_11_37 ?_
      refine r_goto x_11_38 (t := 42) (by decide +kernel) ?_
      exact h
theorem s_X0_bindSimple_42 {d : Nat} {M : g_M} {Q : Int → g_M → Prop} {a0 : Nat} {v1 : Int} (hv1 : g_InR v1) {v2 : Int} (hv2 : g_InR v2) {v3 : Int} (hv3 : g_InR v3) {v4 : Int} (hv4 : g_InR v4) {v5 : Int} (hv5 : g_InR v5) {w0 : Int} (hw0 : g_InR w0) (h : g_ok M → ((v1 = 7 → g_Run d 11 61 [(0, .ref a0), (1, g_n v1), (2, g_n v2), (3, g_n v3), (4, g_n v4), (5, g_n v5), (6, g_n w0)] [g_n 1] M (g_qI Q)) ∧ (¬ v1 = 7 → ((v1 = 8 → g_Run d 11 61 [(0, .ref a0), (1, g_n v1), (2, g_n v2), (3, g_n v3), (4, g_n v4), (5, g_n v5), (6, g_n w0)] [g_n 1] M (g_qI Q)) ∧ (¬ v1 = 8 → g_Run d 11 61 [(0, .ref a0), (1, g_n v1), (2, g_n v2), (3, g_n v3), (4, g_n v4), (5, g_n v5), (6, g_n w0)] [g_n 0] M (g_qI Q)))))) : g_Run d 11 42 [(0, .ref a0), (1, g_n v1), (2, g_n v2), (3, g_n v3), (4, g_n v4), (5, g_n v5)] [g_n w0] M (g_qI Q) := by
  refine g_Run.ok fun hok => ?_
  replace h := h hok
  refine r_istore x_11_42 (by decide +kernel) rfl (lv1 := [(0, .ref a0), (1, g_n v1), (2, g_n v2), (3, g_n v3), (4, g_n v4), (5, g_n v5), (6, g_n w0)]) rfl ?_
  refine r_iload_n x_11_44 rfl ?_
  refine r_bipush x_11_45 (x := 7) rfl ?_
  refine r_ic_eq x_11_47 (t := 56) (by decide +kernel) hv1 (g_Rk rfl) (fun hc => ?_) (fun hc => ?_)
  · replace h := h.1 hc
    refine r_iconst x_11_56 ?_
    refine r_goto x_11_57 (t := 61) (by decide +kernel) ?_
    exact h
  · replace h := h.2 hc
    refine r_iload_n x_11_50 rfl ?_
    refine r_bipush x_11_51 (x := 8) rfl ?_
    refine r_ic_ne x_11_53 (t := 60) (by decide +kernel) hv1 (g_Rk rfl) (fun hc => ?_) (fun hc => ?_)
    · replace h := h.2 hc
      refine r_iconst x_11_60 ?_
      exact h
    · replace h := h.1 hc
      refine r_iconst x_11_56 ?_
      refine r_goto x_11_57 (t := 61) (by decide +kernel) ?_
      exact h
theorem s_X0_bindSimple_61 {d : Nat} {M : g_M} {Q : Int → g_M → Prop} {a0 : Nat} {v1 : Int} (hv1 : g_InR v1) {v2 : Int} (hv2 : g_InR v2) {v3 : Int} (hv3 : g_InR v3) {v4 : Int} (hv4 : g_InR v4) {v5 : Int} (hv5 : g_InR v5) {v6 : Int} (hv6 : g_InR v6) {w0 : Int} (hw0 : g_InR w0) (h : g_ok M → ((v5 = 0 → ((v1 = 6 → g_Run d 11 85 [(0, .ref a0), (1, g_n v1), (2, g_n v2), (3, g_n v3), (4, g_n v4), (5, g_n v5), (6, g_n v6), (7, g_n w0)] [g_n 1] M (g_qI Q)) ∧ (¬ v1 = 6 → ((v1 = 8 → g_Run d 11 85 [(0, .ref a0), (1, g_n v1), (2, g_n v2), (3, g_n v3), (4, g_n v4), (5, g_n v5), (6, g_n v6), (7, g_n w0)] [g_n 1] M (g_qI Q)) ∧ (¬ v1 = 8 → g_Run d 11 85 [(0, .ref a0), (1, g_n v1), (2, g_n v2), (3, g_n v3), (4, g_n v4), (5, g_n v5), (6, g_n v6), (7, g_n w0)] [g_n 0] M (g_qI Q)))))) ∧ (¬ v5 = 0 → g_Run d 11 85 [(0, .ref a0), (1, g_n v1), (2, g_n v2), (3, g_n v3), (4, g_n v4), (5, g_n v5), (6, g_n v6), (7, g_n w0)] [g_n 1] M (g_qI Q)))) : g_Run d 11 61 [(0, .ref a0), (1, g_n v1), (2, g_n v2), (3, g_n v3), (4, g_n v4), (5, g_n v5), (6, g_n v6)] [g_n w0] M (g_qI Q) := by
  refine g_Run.ok fun hok => ?_
  replace h := h hok
  refine r_istore x_11_61 (by decide +kernel) rfl (lv1 := [(0, .ref a0), (1, g_n v1), (2, g_n v2), (3, g_n v3), (4, g_n v4), (5, g_n v5), (6, g_n v6), (7, g_n w0)]) rfl ?_
  refine r_iload x_11_63 rfl ?_
  refine r_if_ne x_11_65 (t := 80) (by decide +kernel) hv5 (fun hc => ?_) (fun hc => ?_)
  · replace h := h.2 hc
    refine r_iconst x_11_80 ?_
    refine r_goto x_11_81 (t := 85) (by decide +kernel) ?_
    exact h
  · replace h := h.1 hc
    refine r_iload_n x_11_68 rfl ?_
    refine r_bipush x_11_69 (x := 6) rfl ?_
    refine r_ic_eq x_11_71 (t := 80) (by decide +kernel) hv1 (g_Rk rfl) (fun hc => ?_) (fun hc => ?_)
    · replace h := h.1 hc
      refine r_iconst x_11_80 ?_
      refine r_goto x_11_81 (t := 85) (by decide +kernel) ?_
      exact h
    · replace h := h.2 hc
      refine r_iload_n x_11_74 rfl ?_
      refine r_bipush x_11_75 (x := 8) rfl ?_
      refine r_ic_ne x_11_77 (t := 84) (by decide +kernel) hv1 (g_Rk rfl) (fun hc => ?_) (fun hc => ?_)
      · replace h := h.2 hc
        refine r_iconst x_11_84 ?_
        exact h
      · replace h := h.1 hc
        refine r_iconst x_11_80 ?_
        refine r_goto x_11_81 (t := 85) (by decide +kernel) ?_
        exact h
theorem s_X0_bindSimple_85 {d : Nat} {M : g_M} {Q : Int → g_M → Prop} {a0 : Nat} {v1 : Int} (hv1 : g_InR v1) {v2 : Int} (hv2 : g_InR v2) {v3 : Int} (hv3 : g_InR v3) {v4 : Int} (hv4 : g_InR v4) {v5 : Int} (hv5 : g_InR v5) {v6 : Int} (hv6 : g_InR v6) {v7 : Int} (hv7 : g_InR v7) {w0 : Int} (hw0 : g_InR w0) (h : g_ok M → ((v4 = 4 → Q 0 M) ∧ (¬ v4 = 4 → ((v6 = 0 → ((v7 = 0 → ((w0 = 0 → Q 0 M) ∧ (¬ w0 = 0 → g_Run d 11 110 [(0, .ref a0), (1, g_n v1), (2, g_n v2), (3, g_n v3), (4, g_n v4), (5, g_n v5), (6, g_n v6), (7, g_n v7), (8, g_n w0)] [] M (g_qI Q)))) ∧ (¬ v7 = 0 → g_Run d 11 110 [(0, .ref a0), (1, g_n v1), (2, g_n v2), (3, g_n v3), (4, g_n v4), (5, g_n v5), (6, g_n v6), (7, g_n v7), (8, g_n w0)] [] M (g_qI Q)))) ∧ (¬ v6 = 0 → g_Run d 11 110 [(0, .ref a0), (1, g_n v1), (2, g_n v2), (3, g_n v3), (4, g_n v4), (5, g_n v5), (6, g_n v6), (7, g_n v7), (8, g_n w0)] [] M (g_qI Q)))))) : g_Run d 11 85 [(0, .ref a0), (1, g_n v1), (2, g_n v2), (3, g_n v3), (4, g_n v4), (5, g_n v5), (6, g_n v6), (7, g_n v7)] [g_n w0] M (g_qI Q) := by
  refine g_Run.ok fun hok => ?_
  replace h := h hok
  refine r_istore x_11_85 (by decide +kernel) rfl (lv1 := [(0, .ref a0), (1, g_n v1), (2, g_n v2), (3, g_n v3), (4, g_n v4), (5, g_n v5), (6, g_n v6), (7, g_n v7), (8, g_n w0)]) rfl ?_
  refine r_iload x_11_87 rfl ?_
  refine r_iconst x_11_89 ?_
  refine r_ic_eq x_11_90 (t := 108) (by decide +kernel) hv4 (g_Rk rfl) (fun hc => ?_) (fun hc => ?_)
  · replace h := h.1 hc
    refine r_iconst x_11_108 ?_
    exact r_retZ x_11_109 rfl (Or.inl rfl) h
  · replace h := h.2 hc
    refine r_iload x_11_93 rfl ?_
    refine r_if_ne x_11_95 (t := 110) (by decide +kernel) hv6 (fun hc => ?_) (fun hc => ?_)
    · replace h := h.2 hc
      exact h
    · replace h := h.1 hc
      refine r_iload x_11_98 rfl ?_
      refine r_if_ne x_11_100 (t := 110) (by decide +kernel) hv7 (fun hc => ?_) (fun hc => ?_)
      · replace h := h.2 hc
        exact h
      · replace h := h.1 hc
        refine r_iload x_11_103 rfl ?_
        refine r_if_ne x_11_105 (t := 110) (by decide +kernel) hw0 (fun hc => ?_) (fun hc => ?_)
        · replace h := h.2 hc
          exact h
        · replace h := h.1 hc
          refine r_iconst x_11_108 ?_
          exact r_retZ x_11_109 rfl (Or.inl rfl) h
theorem s_X0_bindSimple_110 {d : Nat} {M : g_M} {Q : Int → g_M → Prop} {a0 : Nat} {v1 : Int} (hv1 : g_InR v1) {v2 : Int} (hv2 : g_InR v2) {v3 : Int} (hv3 : g_InR v3) {v4 : Int} (hv4 : g_InR v4) {v5 : Int} (hv5 : g_InR v5) {v6 : Int} (hv6 : g_InR v6) {v7 : Int} (hv7 : g_InR v7) {v8 : Int} (hv8 : g_InR v8) (h : g_ok M → ((v4 = 10 → ((v8 = 0 → Q 1 M) ∧ (¬ v8 = 0 → g_O M a0 0 ∧ g_Call d 12 [.ref a0, g_n v3, g_n v2] M (g_qV fun M2 => g_ext M M2 → g_ok M2 → Q 1 M2)))) ∧ (¬ v4 = 10 → ((v5 = 0 → ((v6 = 0 → g_O M a0 0 ∧ ∃ b6, g_r M a0 1 = some b6 ∧ g_Call d 120 [.ref b6, g_n v2] M (g_qI fun r11 M8 => g_ext M M8 → g_ok M8 → g_InR r11 → ((v8 = 0 → g_Call d 13 [.ref a0, g_n v3, g_n r11, g_n v2, g_n ((-1)), g_n 0] M8 (g_qV fun M13 => g_ext M8 M13 → g_ok M13 → Q 1 M13)) ∧ (¬ v8 = 0 → g_Call d 13 [.ref a0, g_n v3, g_n r11, g_n v2, g_n ((-1)), g_n 1] M8 (g_qV fun M16 => g_ext M8 M16 → g_ok M16 → Q 1 M16))))) ∧ (¬ v6 = 0 → g_O M a0 0 ∧ ∃ b20, g_r M a0 1 = some b20 ∧ g_Call d 120 [.ref b20, g_n v2] M (g_qI fun r25 M22 => g_ext M M22 → g_ok M22 → g_InR r25 → ((v8 = 0 → g_Call d 13 [.ref a0, g_n v3, g_n r25, g_n ((-1)), g_n v2, g_n 0] M22 (g_qV fun M27 => g_ext M22 M27 → g_ok M27 → Q 1 M27)) ∧ (¬ v8 = 0 → g_Call d 13 [.ref a0, g_n v3, g_n r25, g_n ((-1)), g_n v2, g_n 2] M22 (g_qV fun M30 => g_ext M22 M30 → g_ok M30 → Q 1 M30))))))) ∧ (¬ v5 = 0 → ((v8 = 0 → Q 1 M) ∧ (¬ v8 = 0 → g_O M a0 0 ∧ g_Call d 12 [.ref a0, g_n v3, g_n v2] M (g_qV fun M34 => g_ext M M34 → g_ok M34 → Q 1 M34)))))))) : g_Run d 11 110 [(0, .ref a0), (1, g_n v1), (2, g_n v2), (3, g_n v3), (4, g_n v4), (5, g_n v5), (6, g_n v6), (7, g_n v7), (8, g_n v8)] [] M (g_qI Q) := by
  refine g_Run.ok fun hok => ?_
  replace h := h hok
  refine r_iload x_11_110 rfl ?_
  refine r_bipush x_11_112 (x := 10) rfl ?_
  refine r_ic_eq x_11_114 (t := 122) (by decide +kernel) hv4 (g_Rk rfl) (fun hc => ?_) (fun hc => ?_)
  · replace h := h.1 hc
    refine r_iload x_11_122 rfl ?_
    refine r_if_eq x_11_124 (t := 194) (by decide +kernel) hv8 (fun hc => ?_) (fun hc => ?_)
    · replace h := h.1 hc
      refine r_iconst x_11_194 ?_
      exact r_retZ x_11_195 rfl (Or.inr rfl) h
    · replace h := h.2 hc
      refine r_aload_n x_11_127 rfl ?_
      refine r_iload_n x_11_128 rfl ?_
      refine r_iload_n x_11_129 rfl ?_
      obtain ⟨hO1, h⟩ := h
      refine r_invV x_11_130 (z := 12) (ns := 0) (by decide +kernel) (as := [g_n v3, g_n v2]) (r := []) rfl rfl rfl hO1 rfl rfl ?_
      refine r_callV h fun M2 hx3 hok4 h => ?_
      replace h := h hx3 hok4
      replace hO1 := hO1.up hx3
      refine r_goto x_11_133 (t := 194) (by decide +kernel) ?_
      refine r_iconst x_11_194 ?_
      exact r_retZ x_11_195 rfl (Or.inr rfl) h
  · replace h := h.2 hc
    refine r_iload x_11_117 rfl ?_
    refine r_if_eq x_11_119 (t := 136) (by decide +kernel) hv5 (fun hc => ?_) (fun hc => ?_)
    · replace h := h.1 hc
      refine r_iload x_11_136 rfl ?_
      refine r_if_eq x_11_138 (t := 169) (by decide +kernel) hv6 (fun hc => ?_) (fun hc => ?_)
      · replace h := h.1 hc
        refine r_aload_n x_11_169 rfl ?_
        refine r_iload_n x_11_170 rfl ?_
        refine r_aload_n x_11_171 rfl ?_
        obtain ⟨hO5, h⟩ := h
        obtain ⟨b6, hb7, h⟩ := h
        refine r_getR x_11_172 rfl (ci := 0) (k := 1) (ns := 0) (by decide +kernel) (by decide) rfl (kz := 1) rfl hO5 hb7 ?_
        refine r_iload_n x_11_175 rfl ?_
        refine r_invS x_11_176 (z := 120) (ns := 1) (by decide +kernel) (as := [.ref b6, g_n v2]) (r := [g_n v3, .ref a0]) rfl rfl rfl ?_
        refine r_callI h fun r11 M8 hx9 hok10 hr12 h => ?_
        replace h := h hx9 hok10 hr12
        replace hO5 := hO5.up hx9
        refine r_iload_n x_11_179 rfl ?_
        refine r_iconst x_11_180 ?_
        refine r_iload x_11_181 rfl ?_
        refine r_if_eq x_11_183 (t := 190) (by decide +kernel) hv8 (fun hc => ?_) (fun hc => ?_)
        · replace h := h.1 hc
          refine r_iconst x_11_190 ?_
          refine r_invV x_11_191 (z := 13) (ns := 0) (by decide +kernel) (as := [g_n v3, g_n r11, g_n v2, g_n ((-1)), g_n 0]) (r := []) rfl rfl rfl hO5 rfl rfl ?_
          refine r_callV h fun M13 hx14 hok15 h => ?_
          replace h := h hx14 hok15
          replace hO5 := hO5.up hx14
          refine r_iconst x_11_194 ?_
          exact r_retZ x_11_195 rfl (Or.inr rfl) h
        · replace h := h.2 hc
          refine r_iconst x_11_186 ?_
          refine r_goto x_11_187 (t := 191) (by decide +kernel) ?_
          refine r_invV x_11_191 (z := 13) (ns := 0) (by decide +kernel) (as := [g_n v3, g_n r11, g_n v2, g_n ((-1)), g_n 1]) (r := []) rfl rfl rfl hO5 rfl rfl ?_
          refine r_callV h fun M16 hx17 hok18 h => ?_
          replace h := h hx17 hok18
          replace hO5 := hO5.up hx17
          refine r_iconst x_11_194 ?_
          exact r_retZ x_11_195 rfl (Or.inr rfl) h
      · replace h := h.2 hc
        refine r_aload_n x_11_141 rfl ?_
        refine r_iload_n x_11_142 rfl ?_
        refine r_aload_n x_11_143 rfl ?_
        obtain ⟨hO19, h⟩ := h
        obtain ⟨b20, hb21, h⟩ := h
        refine r_getR x_11_144 rfl (ci := 0) (k := 1) (ns := 0) (by decide +kernel) (by decide) rfl (kz := 1) rfl hO19 hb21 ?_
        refine r_iload_n x_11_147 rfl ?_
        refine r_invS x_11_148 (z := 120) (ns := 1) (by decide +kernel) (as := [.ref b20, g_n v2]) (r := [g_n v3, .ref a0]) rfl rfl rfl ?_
        refine r_callI h fun r25 M22 hx23 hok24 hr26 h => ?_
        replace h := h hx23 hok24 hr26
        replace hO19 := hO19.up hx23
        refine r_iconst x_11_151 ?_
        refine r_iload_n x_11_152 rfl ?_
        refine r_iload x_11_153 rfl ?_
        refine r_if_eq x_11_155 (t := 162) (by decide +kernel) hv8 (fun hc => ?_) (fun hc => ?_)
        · replace h := h.1 hc
          refine r_iconst x_11_162 ?_
          refine r_invV x_11_163 (z := 13) (ns := 0) (by decide +kernel) (as := [g_n v3, g_n r25, g_n ((-1)), g_n v2, g_n 0]) (r := []) rfl rfl rfl hO19 rfl rfl ?_
          refine r_callV h fun M27 hx28 hok29 h => ?_
          replace h := h hx28 hok29
          replace hO19 := hO19.up hx28
          refine r_goto x_11_166 (t := 194) (by decide +kernel) ?_
          refine r_iconst x_11_194 ?_
          exact r_retZ x_11_195 rfl (Or.inr rfl) h
        · replace h := h.2 hc
          refine r_iconst x_11_158 ?_
          refine r_goto x_11_159 (t := 163) (by decide +kernel) ?_
          refine r_invV x_11_163 (z := 13) (ns := 0) (by decide +kernel) (as := [g_n v3, g_n r25, g_n ((-1)), g_n v2, g_n 2]) (r := []) rfl rfl rfl hO19 rfl rfl ?_
          refine r_callV h fun M30 hx31 hok32 h => ?_
          replace h := h hx31 hok32
          replace hO19 := hO19.up hx31
          refine r_goto x_11_166 (t := 194) (by decide +kernel) ?_
          refine r_iconst x_11_194 ?_
          exact r_retZ x_11_195 rfl (Or.inr rfl) h
    · replace h := h.2 hc
      refine r_iload x_11_122 rfl ?_
      refine r_if_eq x_11_124 (t := 194) (by decide +kernel) hv8 (fun hc => ?_) (fun hc => ?_)
      · replace h := h.1 hc
        refine r_iconst x_11_194 ?_
        exact r_retZ x_11_195 rfl (Or.inr rfl) h
      · replace h := h.2 hc
        refine r_aload_n x_11_127 rfl ?_
        refine r_iload_n x_11_128 rfl ?_
        refine r_iload_n x_11_129 rfl ?_
        obtain ⟨hO33, h⟩ := h
        refine r_invV x_11_130 (z := 12) (ns := 0) (by decide +kernel) (as := [g_n v3, g_n v2]) (r := []) rfl rfl rfl hO33 rfl rfl ?_
        refine r_callV h fun M34 hx35 hok36 h => ?_
        replace h := h hx35 hok36
        replace hO33 := hO33.up hx35
        refine r_goto x_11_133 (t := 194) (by decide +kernel) ?_
        refine r_iconst x_11_194 ?_
        exact r_retZ x_11_195 rfl (Or.inr rfl) h
theorem m_X0_addPoint {d : Nat} {M : g_M} {Q : g_M → Prop} {a0 : Nat} {v1 : Int} (hv1 : g_InR v1) {v2 : Int} (hv2 : g_InR v2) (h : g_ok M → g_O M a0 0 ∧ ∃ b2, g_r M a0 1 = some b2 ∧ g_Call d 120 [.ref b2, g_n v2] M (g_qI fun r7 M4 => g_ext M M4 → g_ok M4 → g_InR r7 → g_Call d 13 [.ref a0, g_n v1, g_n r7, g_n v2, g_n v2, g_n 3] M4 (g_qV fun M9 => g_ext M4 M9 → g_ok M9 → Q M9))) : g_Call (d + 1) 12 [.ref a0, g_n v1, g_n v2] M (g_qV Q) := by
  refine g_Call.ok fun hok0 => ?_
  replace h := h hok0
  refine r_body rfl (lv := [(0, .ref a0), (1, g_n v1), (2, g_n v2)]) rfl ?_
  refine g_Run.ok fun hok => ?_
  refine r_aload_n x_12_0 rfl ?_
  refine r_iload_n x_12_1 rfl ?_
  refine r_aload_n x_12_2 rfl ?_
  obtain ⟨hO1, h⟩ := h
  obtain ⟨b2, hb3, h⟩ := h
  refine r_getR x_12_3 rfl (ci := 0) (k := 1) (ns := 0) (by decide +kernel) (by decide) rfl (kz := 1) rfl hO1 hb3 ?_
  refine r_iload_n x_12_6 rfl ?_
  refine r_invS x_12_7 (z := 120) (ns := 1) (by decide +kernel) (as := [.ref b2, g_n v2]) (r := [g_n v1, .ref a0]) rfl rfl rfl ?_
  refine r_callI h fun r7 M4 hx5 hok6 hr8 h => ?_
  replace h := h hx5 hok6 hr8
  replace hO1 := hO1.up hx5
  refine r_iload_n x_12_10 rfl ?_
  refine r_iload_n x_12_11 rfl ?_
  refine r_iconst x_12_12 ?_
  refine r_invV x_12_13 (z := 13) (ns := 0) (by decide +kernel) (as := [g_n v1, g_n r7, g_n v2, g_n v2, g_n 3]) (r := []) rfl rfl rfl hO1 rfl rfl ?_
  refine r_callV h fun M9 hx10 hok11 h => ?_
  replace h := h hx10 hok11
  replace hO1 := hO1.up hx10
  exact r_retV x_12_16 rfl h
theorem m_X0_addTo {d : Nat} {M : g_M} {Q : g_M → Prop} {a0 : Nat} {v1 : Int} (hv1 : g_InR v1) {v2 : Int} (hv2 : g_InR v2) {v3 : Int} (hv3 : g_InR v3) {v4 : Int} (hv4 : g_InR v4) {v5 : Int} (hv5 : g_InR v5) (h : g_ok M → g_O M a0 0 ∧ ∃ b2, g_r M a0 3 = some b2 ∧ ∃ n4, g_A M b2 1 n4 ∧ ((0 : Int) ≤ v1 ∧ (v1 : Int) < n4) ∧ g_InR ((g_i M b2 v1) * 4) ∧ ∃ b8, g_r M a0 2 = some b8 ∧ ∃ n10, g_A M b8 5 n10 ∧ ((0 : Int) ≤ v1 ∧ (v1 : Int) < n10) ∧ ∃ b13, g_r M b8 v1 = some b13 ∧ g_InR (((g_i M b2 v1) * 4) + 4) ∧ ∃ n16, g_A M b13 1 n16 ∧ g_InR n16 ∧ ((n16 < ((g_i M b2 v1) * 4) + 4 → Q M) ∧ (¬ n16 < ((g_i M b2 v1) * 4) + 4 → ((0 : Int) ≤ (g_i M b2 v1) * 4 ∧ ((g_i M b2 v1) * 4 : Int) < n16) ∧ (∀ M20, M20 = g_wi M b13 ((g_i M b2 v1) * 4) v2 → g_ok M20 → g_InR (((g_i M b2 v1) * 4) + 1) ∧ ((0 : Int) ≤ ((g_i M b2 v1) * 4) + 1 ∧ (((g_i M b2 v1) * 4) + 1 : Int) < n16) ∧ (∀ M26, M26 = g_wi M20 b13 (((g_i M b2 v1) * 4) + 1) v3 → g_ok M26 → g_InR (((g_i M b2 v1) * 4) + 2) ∧ ((0 : Int) ≤ ((g_i M b2 v1) * 4) + 2 ∧ (((g_i M b2 v1) * 4) + 2 : Int) < n16) ∧ (∀ M32, M32 = g_wi M26 b13 (((g_i M b2 v1) * 4) + 2) v4 → g_ok M32 → g_InR (((g_i M b2 v1) * 4) + 3) ∧ ((0 : Int) ≤ ((g_i M b2 v1) * 4) + 3 ∧ (((g_i M b2 v1) * 4) + 3 : Int) < n16) ∧ (∀ M38, M38 = g_wi M32 b13 (((g_i M b2 v1) * 4) + 3) v5 → g_ok M38 → ∃ b42, g_r M38 a0 3 = some b42 ∧ ∃ n44, g_A M38 b42 1 n44 ∧ ((0 : Int) ≤ v1 ∧ (v1 : Int) < n44) ∧ g_InR ((g_i M38 b42 v1) + 1) ∧ ((0 : Int) ≤ v1 ∧ (v1 : Int) < n44) ∧ (∀ M49, M49 = g_wi M38 b42 v1 ((g_i M38 b42 v1) + 1) → g_ok M49 → Q M49)))))))) : g_Call (d + 1) 13 [.ref a0, g_n v1, g_n v2, g_n v3, g_n v4, g_n v5] M (g_qV Q) := by
  refine g_Call.ok fun hok0 => ?_
  replace h := h hok0
  refine r_body rfl (lv := [(0, .ref a0), (1, g_n v1), (2, g_n v2), (3, g_n v3), (4, g_n v4), (5, g_n v5)]) rfl ?_
  refine g_Run.ok fun hok => ?_
  refine r_aload_n x_13_0 rfl ?_
  obtain ⟨hO1, h⟩ := h
  obtain ⟨b2, hb3, h⟩ := h
  refine r_getR x_13_1 rfl (ci := 0) (k := 3) (ns := 0) (by decide +kernel) (by decide) rfl (kz := 3) rfl hO1 hb3 ?_
  refine r_iload_n x_13_4 rfl ?_
  obtain ⟨n4, hA5, h⟩ := h
  obtain ⟨h6, h⟩ := h
  refine r_iald x_13_5 hA5 hv1 h6.1 h6.2 ?_
  refine r_iconst x_13_6 ?_
  refine r_imul x_13_7 ?_
  obtain ⟨h7, h⟩ := h
  refine r_istore x_13_8 (by decide +kernel) rfl (lv1 := [(0, .ref a0), (1, g_n v1), (2, g_n v2), (3, g_n v3), (4, g_n v4), (5, g_n v5), (6, g_n ((g_i M b2 v1) * 4))]) rfl ?_
  refine r_aload_n x_13_10 rfl ?_
  obtain ⟨b8, hb9, h⟩ := h
  refine r_getR x_13_11 rfl (ci := 0) (k := 2) (ns := 0) (by decide +kernel) (by decide) rfl (kz := 2) rfl hO1 hb9 ?_
  refine r_iload_n x_13_14 rfl ?_
  obtain ⟨n10, hA11, h⟩ := h
  obtain ⟨h12, h⟩ := h
  obtain ⟨b13, hb14, h⟩ := h
  refine r_aald x_13_15 (by decide) hA11 hv1 h12.1 h12.2 hb14 ?_
  refine r_astore x_13_16 (o := (some b13)) (by decide +kernel) rfl (lv1 := [(0, .ref a0), (1, g_n v1), (2, g_n v2), (3, g_n v3), (4, g_n v4), (5, g_n v5), (6, g_n ((g_i M b2 v1) * 4)), (7, .ref b13)]) rfl ?_
  refine r_iload x_13_18 rfl ?_
  refine r_iconst x_13_20 ?_
  refine r_iadd x_13_21 ?_
  obtain ⟨h15, h⟩ := h
  refine r_aload x_13_22 rfl ?_
  obtain ⟨n16, hA17, h⟩ := h
  refine r_alen x_13_24 hA17 ?_
  obtain ⟨h18, h⟩ := h
  refine r_ic_le x_13_25 (t := 29) (by decide +kernel) h15 h18 (fun hc => ?_) (fun hc => ?_)
  · replace h := h.2 hc
    refine r_aload x_13_29 rfl ?_
    refine r_iload x_13_31 rfl ?_
    refine r_iload_n x_13_33 rfl ?_
    obtain ⟨h19, h⟩ := h
    refine r_iast x_13_34 hA17 h7 h19.1 h19.2 hv2 ?_
    obtain ⟨M20, hM21⟩ : ∃ Mz, Mz = g_wi M b13 ((g_i M b2 v1) * 4) v2 := ⟨_, rfl⟩
    rw [← hM21]
    refine g_Run.ok fun hok22 => ?_
    replace h := h M20 hM21 hok22
    have hx23 := g_extW hM21
    replace hO1 := hO1.up hx23
    replace hA5 := hA5.up hx23
    replace hA11 := hA11.up hx23
    replace hA17 := hA17.up hx23
    refine r_aload x_13_35 rfl ?_
    refine r_iload x_13_37 rfl ?_
    refine r_iconst x_13_39 ?_
    refine r_iadd x_13_40 ?_
    obtain ⟨h24, h⟩ := h
    refine r_iload_n x_13_41 rfl ?_
    obtain ⟨h25, h⟩ := h
    refine r_iast x_13_42 hA17 h24 h25.1 h25.2 hv3 ?_
    obtain ⟨M26, hM27⟩ : ∃ Mz, Mz = g_wi M20 b13 (((g_i M b2 v1) * 4) + 1) v3 := ⟨_, rfl⟩
    rw [← hM27]
    refine g_Run.ok fun hok28 => ?_
    replace h := h M26 hM27 hok28
    have hx29 := g_extW hM27
    replace hO1 := hO1.up hx29
    replace hA5 := hA5.up hx29
    replace hA11 := hA11.up hx29
    replace hA17 := hA17.up hx29
    refine r_aload x_13_43 rfl ?_
    refine r_iload x_13_45 rfl ?_
    refine r_iconst x_13_47 ?_
    refine r_iadd x_13_48 ?_
    obtain ⟨h30, h⟩ := h
    refine r_iload x_13_49 rfl ?_
    obtain ⟨h31, h⟩ := h
    refine r_iast x_13_51 hA17 h30 h31.1 h31.2 hv4 ?_
    obtain ⟨M32, hM33⟩ : ∃ Mz, Mz = g_wi M26 b13 (((g_i M b2 v1) * 4) + 2) v4 := ⟨_, rfl⟩
    rw [← hM33]
    refine g_Run.ok fun hok34 => ?_
    replace h := h M32 hM33 hok34
    have hx35 := g_extW hM33
    replace hO1 := hO1.up hx35
    replace hA5 := hA5.up hx35
    replace hA11 := hA11.up hx35
    replace hA17 := hA17.up hx35
    refine r_aload x_13_52 rfl ?_
    refine r_iload x_13_54 rfl ?_
    refine r_iconst x_13_56 ?_
    refine r_iadd x_13_57 ?_
    obtain ⟨h36, h⟩ := h
    refine r_iload x_13_58 rfl ?_
    obtain ⟨h37, h⟩ := h
    refine r_iast x_13_60 hA17 h36 h37.1 h37.2 hv5 ?_
    obtain ⟨M38, hM39⟩ : ∃ Mz, Mz = g_wi M32 b13 (((g_i M b2 v1) * 4) + 3) v5 := ⟨_, rfl⟩
    rw [← hM39]
    refine g_Run.ok fun hok40 => ?_
    replace h := h M38 hM39 hok40
    have hx41 := g_extW hM39
    replace hO1 := hO1.up hx41
    replace hA5 := hA5.up hx41
    replace hA11 := hA11.up hx41
    replace hA17 := hA17.up hx41
    refine r_aload_n x_13_61 rfl ?_
    obtain ⟨b42, hb43, h⟩ := h
    refine r_getR x_13_62 rfl (ci := 0) (k := 3) (ns := 0) (by decide +kernel) (by decide) rfl (kz := 3) rfl hO1 hb43 ?_
    refine r_iload_n x_13_65 rfl ?_
    refine r_dup2 x_13_66 rfl rfl ?_
    obtain ⟨n44, hA45, h⟩ := h
    obtain ⟨h46, h⟩ := h
    refine r_iald x_13_67 hA45 hv1 h46.1 h46.2 ?_
    refine r_iconst x_13_68 ?_
    refine r_iadd x_13_69 ?_
    obtain ⟨h47, h⟩ := h
    obtain ⟨h48, h⟩ := h
    refine r_iast x_13_70 hA45 hv1 h48.1 h48.2 h47 ?_
    obtain ⟨M49, hM50⟩ : ∃ Mz, Mz = g_wi M38 b42 v1 ((g_i M38 b42 v1) + 1) := ⟨_, rfl⟩
    rw [← hM50]
    refine g_Run.ok fun hok51 => ?_
    replace h := h M49 hM50 hok51
    have hx52 := g_extW hM50
    replace hO1 := hO1.up hx52
    replace hA5 := hA5.up hx52
    replace hA11 := hA11.up hx52
    replace hA17 := hA17.up hx52
    replace hA45 := hA45.up hx52
    exact r_retV x_13_71 rfl h
  · replace h := h.1 hc
    exact r_retV x_13_28 rfl h
theorem m_X0_copy {d : Nat} {M : g_M} {Q : g_M → Prop} {a0 : Nat} {v1 : Int} (hv1 : g_InR v1) {v2 : Int} (hv2 : g_InR v2) (h : g_ok M → g_O M a0 0 ∧ ∃ b2, g_r M a0 2 = some b2 ∧ ∃ n4, g_A M b2 5 n4 ∧ ((0 : Int) ≤ v1 ∧ (v1 : Int) < n4) ∧ ∃ b7, g_r M b2 v1 = some b7 ∧ ∃ b9, g_r M a0 2 = some b9 ∧ ∃ n11, g_A M b9 5 n11 ∧ ((0 : Int) ≤ v2 ∧ (v2 : Int) < n11) ∧ ∃ b14, g_r M b9 v2 = some b14 ∧ ∃ b16, g_r M a0 3 = some b16 ∧ ∃ n18, g_A M b16 1 n18 ∧ ((0 : Int) ≤ v1 ∧ (v1 : Int) < n18) ∧ g_InR ((g_i M b16 v1) * 4) ∧ ∃ n22, g_A M b7 1 n22 ∧ ∃ n24, g_A M b14 1 n24 ∧ ((0 : Int) ≤ 0 ∧ (0 : Int) ≤ 0 ∧ (0 : Int) ≤ (g_i M b16 v1) * 4 ∧ (0 : Int) + ((g_i M b16 v1) * 4) ≤ n22 ∧ (0 : Int) + ((g_i M b16 v1) * 4) ≤ n24) ∧ (∀ M27, M27 = g_cp M b7 b14 0 0 ((g_i M b16 v1) * 4) → g_ok M27 → ∃ b31, g_r M27 a0 3 = some b31 ∧ ∃ b33, g_r M27 a0 3 = some b33 ∧ ∃ n35, g_A M27 b33 1 n35 ∧ ((0 : Int) ≤ v1 ∧ (v1 : Int) < n35) ∧ ∃ n38, g_A M27 b31 1 n38 ∧ ((0 : Int) ≤ v2 ∧ (v2 : Int) < n38) ∧ (∀ M41, M41 = g_wi M27 b31 v2 (g_i M27 b33 v1) → g_ok M41 → Q M41))) : g_Call (d + 1) 14 [.ref a0, g_n v1, g_n v2] M (g_qV Q) := by
  refine g_Call.ok fun hok0 => ?_
  replace h := h hok0
  refine r_body rfl (lv := [(0, .ref a0), (1, g_n v1), (2, g_n v2)]) rfl ?_
  refine g_Run.ok fun hok => ?_
  refine r_aload_n x_14_0 rfl ?_
  obtain ⟨hO1, h⟩ := h
  obtain ⟨b2, hb3, h⟩ := h
  refine r_getR x_14_1 rfl (ci := 0) (k := 2) (ns := 0) (by decide +kernel) (by decide) rfl (kz := 2) rfl hO1 hb3 ?_
  refine r_iload_n x_14_4 rfl ?_
  obtain ⟨n4, hA5, h⟩ := h
  obtain ⟨h6, h⟩ := h
  obtain ⟨b7, hb8, h⟩ := h
  refine r_aald x_14_5 (by decide) hA5 hv1 h6.1 h6.2 hb8 ?_
  refine r_iconst x_14_6 ?_
  refine r_aload_n x_14_7 rfl ?_
  obtain ⟨b9, hb10, h⟩ := h
  refine r_getR x_14_8 rfl (ci := 0) (k := 2) (ns := 0) (by decide +kernel) (by decide) rfl (kz := 2) rfl hO1 hb10 ?_
  refine r_iload_n x_14_11 rfl ?_
  obtain ⟨n11, hA12, h⟩ := h
  obtain ⟨h13, h⟩ := h
  obtain ⟨b14, hb15, h⟩ := h
  refine r_aald x_14_12 (by decide) hA12 hv2 h13.1 h13.2 hb15 ?_
  refine r_iconst x_14_13 ?_
  refine r_aload_n x_14_14 rfl ?_
  obtain ⟨b16, hb17, h⟩ := h
  refine r_getR x_14_15 rfl (ci := 0) (k := 3) (ns := 0) (by decide +kernel) (by decide) rfl (kz := 3) rfl hO1 hb17 ?_
  refine r_iload_n x_14_18 rfl ?_
  obtain ⟨n18, hA19, h⟩ := h
  obtain ⟨h20, h⟩ := h
  refine r_iald x_14_19 hA19 hv1 h20.1 h20.2 ?_
  refine r_iconst x_14_20 ?_
  refine r_imul x_14_21 ?_
  obtain ⟨h21, h⟩ := h
  obtain ⟨n22, hA23, h⟩ := h
  obtain ⟨n24, hA25, h⟩ := h
  obtain ⟨h26, h⟩ := h
  refine r_copy x_14_22 rfl rfl rfl rfl rfl rfl (by decide) hA23 hA25 (g_Rk rfl) (g_Rk rfl) h21 h26.1 h26.2.1 h26.2.2.1 h26.2.2.2.1 h26.2.2.2.2 ?_
  obtain ⟨M27, hM28⟩ : ∃ Mz, Mz = g_cp M b7 b14 0 0 ((g_i M b16 v1) * 4) := ⟨_, rfl⟩
  rw [← hM28]
  refine g_Run.ok fun hok29 => ?_
  replace h := h M27 hM28 hok29
  have hx30 := g_extC hM28
  replace hO1 := hO1.up hx30
  replace hA5 := hA5.up hx30
  replace hA12 := hA12.up hx30
  replace hA19 := hA19.up hx30
  replace hA23 := hA23.up hx30
  replace hA25 := hA25.up hx30
  refine r_aload_n x_14_25 rfl ?_
  obtain ⟨b31, hb32, h⟩ := h
  refine r_getR x_14_26 rfl (ci := 0) (k := 3) (ns := 0) (by decide +kernel) (by decide) rfl (kz := 3) rfl hO1 hb32 ?_
  refine r_iload_n x_14_29 rfl ?_
  refine r_aload_n x_14_30 rfl ?_
  obtain ⟨b33, hb34, h⟩ := h
  refine r_getR x_14_31 rfl (ci := 0) (k := 3) (ns := 0) (by decide +kernel) (by decide) rfl (kz := 3) rfl hO1 hb34 ?_
  refine r_iload_n x_14_34 rfl ?_
  obtain ⟨n35, hA36, h⟩ := h
  obtain ⟨h37, h⟩ := h
  refine r_iald x_14_35 hA36 hv1 h37.1 h37.2 ?_
  obtain ⟨n38, hA39, h⟩ := h
  obtain ⟨h40, h⟩ := h
  refine r_iast x_14_36 hA39 hv2 h40.1 h40.2 (hok29.1 _ _) ?_
  obtain ⟨M41, hM42⟩ : ∃ Mz, Mz = g_wi M27 b31 v2 (g_i M27 b33 v1) := ⟨_, rfl⟩
  rw [← hM42]
  refine g_Run.ok fun hok43 => ?_
  replace h := h M41 hM42 hok43
  have hx44 := g_extW hM42
  replace hO1 := hO1.up hx44
  replace hA5 := hA5.up hx44
  replace hA12 := hA12.up hx44
  replace hA19 := hA19.up hx44
  replace hA23 := hA23.up hx44
  replace hA25 := hA25.up hx44
  replace hA36 := hA36.up hx44
  replace hA39 := hA39.up hx44
  exact r_retV x_14_37 rfl h
theorem m_X0_meet {d : Nat} {M : g_M} {Q : g_M → Prop} {a0 : Nat} {v1 : Int} (hv1 : g_InR v1) {v2 : Int} (hv2 : g_InR v2) (h : g_ok M → g_O M a0 0 ∧ ∃ b2, g_r M a0 3 = some b2 ∧ ∃ n4, g_A M b2 1 n4 ∧ ((0 : Int) ≤ 4 ∧ (4 : Int) < n4) ∧ (∀ M7, M7 = g_wi M b2 4 0 → g_ok M7 → g_Run d 15 9 [(0, .ref a0), (1, g_n v1), (2, g_n v2), (3, g_n 0)] [] M7 (g_qV Q))) : g_Call (d + 1) 15 [.ref a0, g_n v1, g_n v2] M (g_qV Q) := by
  refine g_Call.ok fun hok0 => ?_
  replace h := h hok0
  refine r_body rfl (lv := [(0, .ref a0), (1, g_n v1), (2, g_n v2)]) rfl ?_
  refine g_Run.ok fun hok => ?_
  refine r_aload_n x_15_0 rfl ?_
  obtain ⟨hO1, h⟩ := h
  obtain ⟨b2, hb3, h⟩ := h
  refine r_getR x_15_1 rfl (ci := 0) (k := 3) (ns := 0) (by decide +kernel) (by decide) rfl (kz := 3) rfl hO1 hb3 ?_
  refine r_iconst x_15_4 ?_
  refine r_iconst x_15_5 ?_
  obtain ⟨n4, hA5, h⟩ := h
  obtain ⟨h6, h⟩ := h
  refine r_iast x_15_6 hA5 (g_Rk rfl) h6.1 h6.2 (g_Rk rfl) ?_
  obtain ⟨M7, hM8⟩ : ∃ Mz, Mz = g_wi M b2 4 0 := ⟨_, rfl⟩
  rw [← hM8]
  refine g_Run.ok fun hok9 => ?_
  replace h := h M7 hM8 hok9
  have hx10 := g_extW hM8
  replace hO1 := hO1.up hx10
  replace hA5 := hA5.up hx10
  refine r_iconst x_15_7 ?_
  refine r_istore_n x_15_8 (by decide +kernel) rfl (lv1 := [(0, .ref a0), (1, g_n v1), (2, g_n v2), (3, g_n 0)]) rfl ?_
  exact h
theorem s_X0_meet_9 {d : Nat} {M : g_M} {Q : g_M → Prop} {a0 : Nat} {v1 : Int} (hv1 : g_InR v1) {v2 : Int} (hv2 : g_InR v2) {v3 : Int} (hv3 : g_InR v3) (h : g_ok M → g_O M a0 0 ∧ ∃ b2, g_r M a0 3 = some b2 ∧ ∃ n4, g_A M b2 1 n4 ∧ ((0 : Int) ≤ v1 ∧ (v1 : Int) < n4) ∧ ((v3 < g_i M b2 v1 → g_Run d 15 22 [(0, .ref a0), (1, g_n v1), (2, g_n v2), (3, g_n v3), (4, g_n 0)] [] M (g_qV Q)) ∧ (¬ v3 < g_i M b2 v1 → g_Call d 14 [.ref a0, g_n 4, g_n v1] M (g_qV fun M7 => g_ext M M7 → g_ok M7 → Q M7)))) : g_Run d 15 9 [(0, .ref a0), (1, g_n v1), (2, g_n v2), (3, g_n v3)] [] M (g_qV Q) := by
  refine g_Run.ok fun hok => ?_
  replace h := h hok
  refine r_iload_n x_15_9 rfl ?_
  refine r_aload_n x_15_10 rfl ?_
  obtain ⟨hO1, h⟩ := h
  obtain ⟨b2, hb3, h⟩ := h
  refine r_getR x_15_11 rfl (ci := 0) (k := 3) (ns := 0) (by decide +kernel) (by decide) rfl (kz := 3) rfl hO1 hb3 ?_
  refine r_iload_n x_15_14 rfl ?_
  obtain ⟨n4, hA5, h⟩ := h
  obtain ⟨h6, h⟩ := h
  refine r_iald x_15_15 hA5 hv1 h6.1 h6.2 ?_
  refine r_ic_ge x_15_16 (t := 68) (by decide +kernel) hv3 (hok.1 _ _) (fun hc => ?_) (fun hc => ?_)
  · replace h := h.2 hc
    refine r_aload_n x_15_68 rfl ?_
    refine r_iconst x_15_69 ?_
    refine r_iload_n x_15_70 rfl ?_
    refine r_invV x_15_71 (z := 14) (ns := 0) (by decide +kernel) (as := [g_n 4, g_n v1]) (r := []) rfl rfl rfl hO1 rfl rfl ?_
    refine r_callV h fun M7 hx8 hok9 h => ?_
    replace h := h hx8 hok9
    replace hO1 := hO1.up hx8
    replace hA5 := hA5.up hx8
    exact r_retV x_15_74 rfl h
  · replace h := h.1 hc
    refine r_iconst x_15_19 ?_
    refine r_istore x_15_20 (by decide +kernel) rfl (lv1 := [(0, .ref a0), (1, g_n v1), (2, g_n v2), (3, g_n v3), (4, g_n 0)]) rfl ?_
    exact h
theorem s_X0_meet_22 {d : Nat} {M : g_M} {Q : g_M → Prop} {a0 : Nat} {v1 : Int} (hv1 : g_InR v1) {v2 : Int} (hv2 : g_InR v2) {v3 : Int} (hv3 : g_InR v3) {v4 : Int} (hv4 : g_InR v4) (h : g_ok M → g_O M a0 0 ∧ ∃ b2, g_r M a0 3 = some b2 ∧ ∃ n4, g_A M b2 1 n4 ∧ ((0 : Int) ≤ v2 ∧ (v2 : Int) < n4) ∧ ((v4 < g_i M b2 v2 → ∃ b8, g_r M a0 2 = some b8 ∧ ∃ n10, g_A M b8 5 n10 ∧ ((0 : Int) ≤ v1 ∧ (v1 : Int) < n10) ∧ ∃ b13, g_r M b8 v1 = some b13 ∧ g_InR (v3 * 4) ∧ ∃ b16, g_r M a0 2 = some b16 ∧ ∃ n18, g_A M b16 5 n18 ∧ ((0 : Int) ≤ v2 ∧ (v2 : Int) < n18) ∧ ∃ b21, g_r M b16 v2 = some b21 ∧ g_InR (v4 * 4) ∧ g_Call d 16 [.ref a0, .ref b13, g_n (v3 * 4), .ref b21, g_n (v4 * 4)] M (g_qV fun M24 => g_ext M M24 → g_ok M24 → g_InR (v4 + 1) ∧ g_Run d 15 22 [(0, .ref a0), (1, g_n v1), (2, g_n v2), (3, g_n v3), (4, g_n (v4 + 1))] [] M24 (g_qV Q))) ∧ (¬ v4 < g_i M b2 v2 → g_InR (v3 + 1) ∧ g_Run d 15 9 [(0, .ref a0), (1, g_n v1), (2, g_n v2), (3, g_n (v3 + 1))] [] M (g_qV Q)))) : g_Run d 15 22 [(0, .ref a0), (1, g_n v1), (2, g_n v2), (3, g_n v3), (4, g_n v4)] [] M (g_qV Q) := by
  refine g_Run.ok fun hok => ?_
  replace h := h hok
  refine r_iload x_15_22 rfl ?_
  refine r_aload_n x_15_24 rfl ?_
  obtain ⟨hO1, h⟩ := h
  obtain ⟨b2, hb3, h⟩ := h
  refine r_getR x_15_25 rfl (ci := 0) (k := 3) (ns := 0) (by decide +kernel) (by decide) rfl (kz := 3) rfl hO1 hb3 ?_
  refine r_iload_n x_15_28 rfl ?_
  obtain ⟨n4, hA5, h⟩ := h
  obtain ⟨h6, h⟩ := h
  refine r_iald x_15_29 hA5 hv2 h6.1 h6.2 ?_
  refine r_ic_ge x_15_30 (t := 62) (by decide +kernel) hv4 (hok.1 _ _) (fun hc => ?_) (fun hc => ?_)
  · replace h := h.2 hc
    obtain ⟨h7, h⟩ := h
    refine r_iinc x_15_62 (by decide +kernel) rfl rfl (lv1 := [(0, .ref a0), (1, g_n v1), (2, g_n v2), (3, g_n (v3 + 1)), (4, g_n v4)]) rfl ?_
    refine r_goto x_15_65 (t := 9) (by decide +kernel) ?_
    refine g_drop [0, 1, 2, 3] (lv1 := [(0, .ref a0), (1, g_n v1), (2, g_n v2), (3, g_n (v3 + 1))]) rfl ?_
    exact h
  · replace h := h.1 hc
    refine r_aload_n x_15_33 rfl ?_
    refine r_aload_n x_15_34 rfl ?_
    obtain ⟨b8, hb9, h⟩ := h
    refine r_getR x_15_35 rfl (ci := 0) (k := 2) (ns := 0) (by decide +kernel) (by decide) rfl (kz := 2) rfl hO1 hb9 ?_
    refine r_iload_n x_15_38 rfl ?_
    obtain ⟨n10, hA11, h⟩ := h
    obtain ⟨h12, h⟩ := h
    obtain ⟨b13, hb14, h⟩ := h
    refine r_aald x_15_39 (by decide) hA11 hv1 h12.1 h12.2 hb14 ?_
    refine r_iload_n x_15_40 rfl ?_
    refine r_iconst x_15_41 ?_
    refine r_imul x_15_42 ?_
    obtain ⟨h15, h⟩ := h
    refine r_aload_n x_15_43 rfl ?_
    obtain ⟨b16, hb17, h⟩ := h
    refine r_getR x_15_44 rfl (ci := 0) (k := 2) (ns := 0) (by decide +kernel) (by decide) rfl (kz := 2) rfl hO1 hb17 ?_
    refine r_iload_n x_15_47 rfl ?_
    obtain ⟨n18, hA19, h⟩ := h
    obtain ⟨h20, h⟩ := h
    obtain ⟨b21, hb22, h⟩ := h
    refine r_aald x_15_48 (by decide) hA19 hv2 h20.1 h20.2 hb22 ?_
    refine r_iload x_15_49 rfl ?_
    refine r_iconst x_15_51 ?_
    refine r_imul x_15_52 ?_
    obtain ⟨h23, h⟩ := h
    refine r_invV x_15_53 (z := 16) (ns := 0) (by decide +kernel) (as := [.ref b13, g_n (v3 * 4), .ref b21, g_n (v4 * 4)]) (r := []) rfl rfl rfl hO1 rfl rfl ?_
    refine r_callV h fun M24 hx25 hok26 h => ?_
    replace h := h hx25 hok26
    replace hO1 := hO1.up hx25
    replace hA5 := hA5.up hx25
    replace hA11 := hA11.up hx25
    replace hA19 := hA19.up hx25
    obtain ⟨h27, h⟩ := h
    refine r_iinc x_15_56 (by decide +kernel) rfl rfl (lv1 := [(0, .ref a0), (1, g_n v1), (2, g_n v2), (3, g_n v3), (4, g_n (v4 + 1))]) rfl ?_
    refine r_goto x_15_59 (t := 22) (by decide +kernel) ?_
    exact h
theorem m_X0_meetOne {d : Nat} {M : g_M} {Q : g_M → Prop} {a0 : Nat} {a1 : Nat} {v2 : Int} (hv2 : g_InR v2) {a3 : Nat} {v4 : Int} (hv4 : g_InR v4) (h : g_ok M → ∃ n1, g_A M a1 1 n1 ∧ ((0 : Int) ≤ v2 ∧ (v2 : Int) < n1) ∧ ∃ n4, g_A M a3 1 n4 ∧ ((0 : Int) ≤ v4 ∧ (v4 : Int) < n4) ∧ ((g_i M a1 v2 = g_i M a3 v4 → g_Run d 16 23 [(0, .ref a0), (1, .ref a1), (2, g_n v2), (3, .ref a3), (4, g_n v4), (5, g_n ((-1))), (6, g_n ((-1))), (7, g_n 0), (8, g_n 1)] [] M (g_qV Q)) ∧ (¬ g_i M a1 v2 = g_i M a3 v4 → Q M))) : g_Call (d + 1) 16 [.ref a0, .ref a1, g_n v2, .ref a3, g_n v4] M (g_qV Q) := by
  refine g_Call.ok fun hok0 => ?_
  replace h := h hok0
  refine r_body rfl (lv := [(0, .ref a0), (1, .ref a1), (2, g_n v2), (3, .ref a3), (4, g_n v4)]) rfl ?_
  refine g_Run.ok fun hok => ?_
  refine r_aload_n x_16_0 rfl ?_
  refine r_iload_n x_16_1 rfl ?_
  obtain ⟨n1, hA2, h⟩ := h
  obtain ⟨h3, h⟩ := h
  refine r_iald x_16_2 hA2 hv2 h3.1 h3.2 ?_
  refine r_aload_n x_16_3 rfl ?_
  refine r_iload x_16_4 rfl ?_
  obtain ⟨n4, hA5, h⟩ := h
  obtain ⟨h6, h⟩ := h
  refine r_iald x_16_6 hA5 hv4 h6.1 h6.2 ?_
  refine r_ic_eq x_16_7 (t := 11) (by decide +kernel) (hok.1 _ _) (hok.1 _ _) (fun hc => ?_) (fun hc => ?_)
  · replace h := h.1 hc
    refine r_iconst x_16_11 ?_
    refine r_istore x_16_12 (by decide +kernel) rfl (lv1 := [(0, .ref a0), (1, .ref a1), (2, g_n v2), (3, .ref a3), (4, g_n v4), (5, g_n ((-1)))]) rfl ?_
    refine r_iconst x_16_14 ?_
    refine r_istore x_16_15 (by decide +kernel) rfl (lv1 := [(0, .ref a0), (1, .ref a1), (2, g_n v2), (3, .ref a3), (4, g_n v4), (5, g_n ((-1))), (6, g_n ((-1)))]) rfl ?_
    refine r_iconst x_16_17 ?_
    refine r_istore x_16_18 (by decide +kernel) rfl (lv1 := [(0, .ref a0), (1, .ref a1), (2, g_n v2), (3, .ref a3), (4, g_n v4), (5, g_n ((-1))), (6, g_n ((-1))), (7, g_n 0)]) rfl ?_
    refine r_iconst x_16_20 ?_
    refine r_istore x_16_21 (by decide +kernel) rfl (lv1 := [(0, .ref a0), (1, .ref a1), (2, g_n v2), (3, .ref a3), (4, g_n v4), (5, g_n ((-1))), (6, g_n ((-1))), (7, g_n 0), (8, g_n 1)]) rfl ?_
    exact h
  · replace h := h.2 hc
    exact r_retV x_16_10 rfl h
theorem s_X0_meetOne_23 {d : Nat} {M : g_M} {Q : g_M → Prop} {a0 : Nat} {a1 : Nat} {v2 : Int} (hv2 : g_InR v2) {a3 : Nat} {v4 : Int} (hv4 : g_InR v4) {v5 : Int} (hv5 : g_InR v5) {v6 : Int} (hv6 : g_InR v6) {v7 : Int} (hv7 : g_InR v7) {v8 : Int} (hv8 : g_InR v8) (h : g_ok M → ((2 < v8 → ((v5 < 0 → g_Run d 16 223 [(0, .ref a0), (1, .ref a1), (2, g_n v2), (3, .ref a3), (4, g_n v4), (5, g_n v5), (6, g_n v6), (7, g_n v7), (8, g_n v8)] [] M (g_qV Q)) ∧ (¬ v5 < 0 → ((v6 < 0 → g_Run d 16 223 [(0, .ref a0), (1, .ref a1), (2, g_n v2), (3, .ref a3), (4, g_n v4), (5, g_n v5), (6, g_n v6), (7, g_n v7), (8, g_n v8)] [] M (g_qV Q)) ∧ (¬ v6 < 0 → g_O M a0 0 ∧ ∃ b2, g_r M a0 1 = some b2 ∧ ∃ b4, g_r M a0 1 = some b4 ∧ g_Call d 121 [.ref b2, g_n v5, .ref b4, g_n v6, g_n 0] M (g_qI fun r9 M6 => g_ext M M6 → g_ok M6 → g_InR r9 → ((r9 < 0 → g_Run d 16 261 [(0, .ref a0), (1, .ref a1), (2, g_n v2), (3, .ref a3), (4, g_n v4), (5, g_n v5), (6, g_n v6), (7, g_n v7), (8, g_n r9)] [] M6 (g_qV Q)) ∧ (¬ r9 < 0 → ((r9 = 0 → ((v7 = 3 → g_Run d 16 261 [(0, .ref a0), (1, .ref a1), (2, g_n v2), (3, .ref a3), (4, g_n v4), (5, g_n v5), (6, g_n v6), (7, g_n v7), (8, g_n r9)] [] M6 (g_qV Q)) ∧ (¬ v7 = 3 → Q M6))) ∧ (¬ r9 = 0 → Q M6)))))))))) ∧ (¬ 2 < v8 → g_InR (v2 + v8) ∧ ∃ n12, g_A M a1 1 n12 ∧ ((0 : Int) ≤ v2 + v8 ∧ (v2 + v8 : Int) < n12) ∧ g_InR (v4 + v8) ∧ ∃ n16, g_A M a3 1 n16 ∧ ((0 : Int) ≤ v4 + v8 ∧ (v4 + v8 : Int) < n16) ∧ g_Call d 440 [g_n (min (g_i M a1 (v2 + v8)) 0), g_n (min (g_i M a3 (v4 + v8)) 0)] M (g_qI fun r22 M19 => g_ext M M19 → g_ok M19 → g_InR r22 → ((g_i M a1 (v2 + v8) < 0 → g_Run d 16 103 [(0, .ref a0), (1, .ref a1), (2, g_n v2), (3, .ref a3), (4, g_n v4), (5, g_n v5), (6, g_n v6), (7, g_n v7), (8, g_n v8), (9, g_n (g_i M a1 (v2 + v8))), (10, g_n (g_i M a3 (v4 + v8))), (11, g_n r22)] [] M19 (g_qV Q)) ∧ (¬ g_i M a1 (v2 + v8) < 0 → ((g_i M a3 (v4 + v8) < 0 → g_Run d 16 103 [(0, .ref a0), (1, .ref a1), (2, g_n v2), (3, .ref a3), (4, g_n v4), (5, g_n v5), (6, g_n v6), (7, g_n v7), (8, g_n v8), (9, g_n (g_i M a1 (v2 + v8))), (10, g_n (g_i M a3 (v4 + v8))), (11, g_n r22)] [] M19 (g_qV Q)) ∧ (¬ g_i M a3 (v4 + v8) < 0 → g_O M19 a0 0 ∧ ∃ b25, g_r M19 a0 1 = some b25 ∧ ∃ b27, g_r M19 a0 1 = some b27 ∧ g_Call d 121 [.ref b25, g_n (g_i M a1 (v2 + v8)), .ref b27, g_n (g_i M a3 (v4 + v8)), g_n 0] M19 (g_qI fun r32 M29 => g_ext M19 M29 → g_ok M29 → g_InR r32 → ((v8 = 1 → g_InR (r32 * 1) ∧ g_Run d 16 103 [(0, .ref a0), (1, .ref a1), (2, g_n v2), (3, .ref a3), (4, g_n v4), (5, g_n v5), (6, g_n v6), (7, g_n v7), (8, g_n v8), (9, g_n (g_i M a1 (v2 + v8))), (10, g_n (g_i M a3 (v4 + v8))), (11, g_n (r32 * 1))] [] M29 (g_qV Q)) ∧ (¬ v8 = 1 → g_InR (r32 * ((-1))) ∧ g_Run d 16 103 [(0, .ref a0), (1, .ref a1), (2, g_n v2), (3, .ref a3), (4, g_n v4), (5, g_n v5), (6, g_n v6), (7, g_n v7), (8, g_n v8), (9, g_n (g_i M a1 (v2 + v8))), (10, g_n (g_i M a3 (v4 + v8))), (11, g_n (r32 * ((-1))))] [] M29 (g_qV Q)))))))))))) : g_Run d 16 23 [(0, .ref a0), (1, .ref a1), (2, g_n v2), (3, .ref a3), (4, g_n v4), (5, g_n v5), (6, g_n v6), (7, g_n v7), (8, g_n v8)] [] M (g_qV Q) := by
  refine g_Run.ok fun hok => ?_
  replace h := h hok
  refine r_iload x_16_23 rfl ?_
  refine r_iconst x_16_25 ?_
  refine r_ic_gt x_16_26 (t := 213) (by decide +kernel) hv8 (g_Rk rfl) (fun hc => ?_) (fun hc => ?_)
  · replace h := h.1 hc
    refine r_iload x_16_213 rfl ?_
    refine r_if_lt x_16_215 (t := 223) (by decide +kernel) hv5 (fun hc => ?_) (fun hc => ?_)
    · replace h := h.1 hc
      exact h
    · replace h := h.2 hc
      refine r_iload x_16_218 rfl ?_
      refine r_if_ge x_16_220 (t := 227) (by decide +kernel) hv6 (fun hc => ?_) (fun hc => ?_)
      · replace h := h.2 hc
        refine r_aload_n x_16_227 rfl ?_
        obtain ⟨hO1, h⟩ := h
        obtain ⟨b2, hb3, h⟩ := h
        refine r_getR x_16_228 rfl (ci := 0) (k := 1) (ns := 0) (by decide +kernel) (by decide) rfl (kz := 1) rfl hO1 hb3 ?_
        refine r_iload x_16_231 rfl ?_
        refine r_aload_n x_16_233 rfl ?_
        obtain ⟨b4, hb5, h⟩ := h
        refine r_getR x_16_234 rfl (ci := 0) (k := 1) (ns := 0) (by decide +kernel) (by decide) rfl (kz := 1) rfl hO1 hb5 ?_
        refine r_iload x_16_237 rfl ?_
        refine r_iconst x_16_239 ?_
        refine r_invS x_16_240 (z := 121) (ns := 1) (by decide +kernel) (as := [.ref b2, g_n v5, .ref b4, g_n v6, g_n 0]) (r := []) rfl rfl rfl ?_
        refine r_callI h fun r9 M6 hx7 hok8 hr10 h => ?_
        replace h := h hx7 hok8 hr10
        replace hO1 := hO1.up hx7
        refine r_istore x_16_243 (by decide +kernel) rfl (lv1 := [(0, .ref a0), (1, .ref a1), (2, g_n v2), (3, .ref a3), (4, g_n v4), (5, g_n v5), (6, g_n v6), (7, g_n v7), (8, g_n r9)]) rfl ?_
        refine r_iload x_16_245 rfl ?_
        refine r_if_lt x_16_247 (t := 261) (by decide +kernel) hr10 (fun hc => ?_) (fun hc => ?_)
        · replace h := h.1 hc
          exact h
        · replace h := h.2 hc
          refine r_iload x_16_250 rfl ?_
          refine r_if_ne x_16_252 (t := 275) (by decide +kernel) hr10 (fun hc => ?_) (fun hc => ?_)
          · replace h := h.2 hc
            exact r_retV x_16_275 rfl h
          · replace h := h.1 hc
            refine r_iload x_16_255 rfl ?_
            refine r_iconst x_16_257 ?_
            refine r_ic_ne x_16_258 (t := 275) (by decide +kernel) hv7 (g_Rk rfl) (fun hc => ?_) (fun hc => ?_)
            · replace h := h.2 hc
              exact r_retV x_16_275 rfl h
            · replace h := h.1 hc
              exact h
      · replace h := h.1 hc
        exact h
  · replace h := h.2 hc
    refine r_aload_n x_16_29 rfl ?_
    refine r_iload_n x_16_30 rfl ?_
    refine r_iload x_16_31 rfl ?_
    refine r_iadd x_16_33 ?_
    obtain ⟨h11, h⟩ := h
    obtain ⟨n12, hA13, h⟩ := h
    obtain ⟨h14, h⟩ := h
    refine r_iald x_16_34 hA13 h11 h14.1 h14.2 ?_
    refine r_istore x_16_35 (by decide +kernel) rfl (lv1 := [(0, .ref a0), (1, .ref a1), (2, g_n v2), (3, .ref a3), (4, g_n v4), (5, g_n v5), (6, g_n v6), (7, g_n v7), (8, g_n v8), (9, g_n (g_i M a1 (v2 + v8)))]) rfl ?_
    refine r_aload_n x_16_37 rfl ?_
    refine r_iload x_16_38 rfl ?_
    refine r_iload x_16_40 rfl ?_
    refine r_iadd x_16_42 ?_
    obtain ⟨h15, h⟩ := h
    obtain ⟨n16, hA17, h⟩ := h
    obtain ⟨h18, h⟩ := h
    refine r_iald x_16_43 hA17 h15 h18.1 h18.2 ?_
    refine r_istore x_16_44 (by decide +kernel) rfl (lv1 := [(0, .ref a0), (1, .ref a1), (2, g_n v2), (3, .ref a3), (4, g_n v4), (5, g_n v5), (6, g_n v6), (7, g_n v7), (8, g_n v8), (9, g_n (g_i M a1 (v2 + v8))), (10, g_n (g_i M a3 (v4 + v8)))]) rfl ?_
    refine r_iload x_16_46 rfl ?_
    refine r_iconst x_16_48 ?_
    refine r_min x_16_49 rfl rfl rfl rfl (hok.1 _ _) (g_Rk rfl) ?_
    refine r_iload x_16_52 rfl ?_
    refine r_iconst x_16_54 ?_
    refine r_min x_16_55 rfl rfl rfl rfl (hok.1 _ _) (g_Rk rfl) ?_
    refine r_invS x_16_58 (z := 440) (ns := 0) (by decide +kernel) (as := [g_n (min (g_i M a1 (v2 + v8)) 0), g_n (min (g_i M a3 (v4 + v8)) 0)]) (r := []) rfl rfl rfl ?_
    refine r_callI h fun r22 M19 hx20 hok21 hr23 h => ?_
    replace h := h hx20 hok21 hr23
    replace hA13 := hA13.up hx20
    replace hA17 := hA17.up hx20
    refine r_istore x_16_61 (by decide +kernel) rfl (lv1 := [(0, .ref a0), (1, .ref a1), (2, g_n v2), (3, .ref a3), (4, g_n v4), (5, g_n v5), (6, g_n v6), (7, g_n v7), (8, g_n v8), (9, g_n (g_i M a1 (v2 + v8))), (10, g_n (g_i M a3 (v4 + v8))), (11, g_n r22)]) rfl ?_
    refine r_iload x_16_63 rfl ?_
    refine r_if_lt x_16_65 (t := 103) (by decide +kernel) (hok.1 _ _) (fun hc => ?_) (fun hc => ?_)
    · replace h := h.1 hc
      exact h
    · replace h := h.2 hc
      refine r_iload x_16_68 rfl ?_
      refine r_if_lt x_16_70 (t := 103) (by decide +kernel) (hok.1 _ _) (fun hc => ?_) (fun hc => ?_)
      · replace h := h.1 hc
        exact h
      · replace h := h.2 hc
        refine r_aload_n x_16_73 rfl ?_
        obtain ⟨hO24, h⟩ := h
        obtain ⟨b25, hb26, h⟩ := h
        refine r_getR x_16_74 rfl (ci := 0) (k := 1) (ns := 0) (by decide +kernel) (by decide) rfl (kz := 1) rfl hO24 hb26 ?_
        refine r_iload x_16_77 rfl ?_
        refine r_aload_n x_16_79 rfl ?_
        obtain ⟨b27, hb28, h⟩ := h
        refine r_getR x_16_80 rfl (ci := 0) (k := 1) (ns := 0) (by decide +kernel) (by decide) rfl (kz := 1) rfl hO24 hb28 ?_
        refine r_iload x_16_83 rfl ?_
        refine r_iconst x_16_85 ?_
        refine r_invS x_16_86 (z := 121) (ns := 1) (by decide +kernel) (as := [.ref b25, g_n (g_i M a1 (v2 + v8)), .ref b27, g_n (g_i M a3 (v4 + v8)), g_n 0]) (r := []) rfl rfl rfl ?_
        refine r_callI h fun r32 M29 hx30 hok31 hr33 h => ?_
        replace h := h hx30 hok31 hr33
        replace hO24 := hO24.up hx30
        replace hA13 := hA13.up hx30
        replace hA17 := hA17.up hx30
        refine r_iload x_16_89 rfl ?_
        refine r_iconst x_16_91 ?_
        refine r_ic_ne x_16_92 (t := 99) (by decide +kernel) hv8 (g_Rk rfl) (fun hc => ?_) (fun hc => ?_)
        · replace h := h.2 hc
          refine r_iconst x_16_99 ?_
          refine r_imul x_16_100 ?_
          obtain ⟨h34, h⟩ := h
          refine r_istore x_16_101 (by decide +kernel) rfl (lv1 := [(0, .ref a0), (1, .ref a1), (2, g_n v2), (3, .ref a3), (4, g_n v4), (5, g_n v5), (6, g_n v6), (7, g_n v7), (8, g_n v8), (9, g_n (g_i M a1 (v2 + v8))), (10, g_n (g_i M a3 (v4 + v8))), (11, g_n (r32 * ((-1))))]) rfl ?_
          exact h
        · replace h := h.1 hc
          refine r_iconst x_16_95 ?_
          refine r_goto x_16_96 (t := 100) (by decide +kernel) ?_
          refine r_imul x_16_100 ?_
          obtain ⟨h35, h⟩ := h
          refine r_istore x_16_101 (by decide +kernel) rfl (lv1 := [(0, .ref a0), (1, .ref a1), (2, g_n v2), (3, .ref a3), (4, g_n v4), (5, g_n v5), (6, g_n v6), (7, g_n v7), (8, g_n v8), (9, g_n (g_i M a1 (v2 + v8))), (10, g_n (g_i M a3 (v4 + v8))), (11, g_n (r32 * 1))]) rfl ?_
          exact h
theorem s_X0_meetOne_103 {d : Nat} {M : g_M} {Q : g_M → Prop} {a0 : Nat} {a1 : Nat} {v2 : Int} (hv2 : g_InR v2) {a3 : Nat} {v4 : Int} (hv4 : g_InR v4) {v5 : Int} (hv5 : g_InR v5) {v6 : Int} (hv6 : g_InR v6) {v7 : Int} (hv7 : g_InR v7) {v8 : Int} (hv8 : g_InR v8) {v9 : Int} (hv9 : g_InR v9) {v10 : Int} (hv10 : g_InR v10) {v11 : Int} (hv11 : g_InR v11) (h : g_ok M → ((0 < v11 → g_Run d 16 141 [(0, .ref a0), (1, .ref a1), (2, g_n v2), (3, .ref a3), (4, g_n v4), (5, g_n v5), (6, g_n v6), (7, g_n v7), (8, g_n v8), (9, g_n v9), (10, g_n v10), (11, g_n v11)] [g_n 1] M (g_qV Q)) ∧ (¬ 0 < v11 → ((v11 = 0 → g_InR (v2 + 3) ∧ ∃ n2, g_A M a1 1 n2 ∧ ((0 : Int) ≤ v2 + 3 ∧ (v2 + 3 : Int) < n2) ∧ ((g_and (g_i M a1 (v2 + 3)) v8 = 0 → g_Run d 16 141 [(0, .ref a0), (1, .ref a1), (2, g_n v2), (3, .ref a3), (4, g_n v4), (5, g_n v5), (6, g_n v6), (7, g_n v7), (8, g_n v8), (9, g_n v9), (10, g_n v10), (11, g_n v11)] [g_n 1] M (g_qV Q)) ∧ (¬ g_and (g_i M a1 (v2 + 3)) v8 = 0 → g_InR (v4 + 3) ∧ ∃ n6, g_A M a3 1 n6 ∧ ((0 : Int) ≤ v4 + 3 ∧ (v4 + 3 : Int) < n6) ∧ ((g_and (g_i M a3 (v4 + 3)) v8 = 0 → g_Run d 16 141 [(0, .ref a0), (1, .ref a1), (2, g_n v2), (3, .ref a3), (4, g_n v4), (5, g_n v5), (6, g_n v6), (7, g_n v7), (8, g_n v8), (9, g_n v9), (10, g_n v10), (11, g_n v11)] [g_n 0] M (g_qV Q)) ∧ (¬ g_and (g_i M a3 (v4 + 3)) v8 = 0 → g_Run d 16 141 [(0, .ref a0), (1, .ref a1), (2, g_n v2), (3, .ref a3), (4, g_n v4), (5, g_n v5), (6, g_n v6), (7, g_n v7), (8, g_n v8), (9, g_n v9), (10, g_n v10), (11, g_n v11)] [g_n 1] M (g_qV Q)))))) ∧ (¬ v11 = 0 → g_Run d 16 141 [(0, .ref a0), (1, .ref a1), (2, g_n v2), (3, .ref a3), (4, g_n v4), (5, g_n v5), (6, g_n v6), (7, g_n v7), (8, g_n v8), (9, g_n v9), (10, g_n v10), (11, g_n v11)] [g_n 0] M (g_qV Q)))))) : g_Run d 16 103 [(0, .ref a0), (1, .ref a1), (2, g_n v2), (3, .ref a3), (4, g_n v4), (5, g_n v5), (6, g_n v6), (7, g_n v7), (8, g_n v8), (9, g_n v9), (10, g_n v10), (11, g_n v11)] [] M (g_qV Q) := by
  refine g_Run.ok fun hok => ?_
  replace h := h hok
  refine r_iload x_16_103 rfl ?_
  refine r_if_gt x_16_105 (t := 136) (by decide +kernel) hv11 (fun hc => ?_) (fun hc => ?_)
  · replace h := h.1 hc
    refine r_iconst x_16_136 ?_
    refine r_goto x_16_137 (t := 141) (by decide +kernel) ?_
    exact h
  · replace h := h.2 hc
    refine r_iload x_16_108 rfl ?_
    refine r_if_ne x_16_110 (t := 140) (by decide +kernel) hv11 (fun hc => ?_) (fun hc => ?_)
    · replace h := h.2 hc
      refine r_iconst x_16_140 ?_
      exact h
    · replace h := h.1 hc
      refine r_aload_n x_16_113 rfl ?_
      refine r_iload_n x_16_114 rfl ?_
      refine r_iconst x_16_115 ?_
      refine r_iadd x_16_116 ?_
      obtain ⟨h1, h⟩ := h
      obtain ⟨n2, hA3, h⟩ := h
      obtain ⟨h4, h⟩ := h
      refine r_iald x_16_117 hA3 h1 h4.1 h4.2 ?_
      refine r_iload x_16_118 rfl ?_
      refine r_iand x_16_120 ?_
      refine r_if_eq x_16_121 (t := 136) (by decide +kernel) (g_InR_toInt _) (fun hc => ?_) (fun hc => ?_)
      · replace h := h.1 hc
        refine r_iconst x_16_136 ?_
        refine r_goto x_16_137 (t := 141) (by decide +kernel) ?_
        exact h
      · replace h := h.2 hc
        refine r_aload_n x_16_124 rfl ?_
        refine r_iload x_16_125 rfl ?_
        refine r_iconst x_16_127 ?_
        refine r_iadd x_16_128 ?_
        obtain ⟨h5, h⟩ := h
        obtain ⟨n6, hA7, h⟩ := h
        obtain ⟨h8, h⟩ := h
        refine r_iald x_16_129 hA7 h5 h8.1 h8.2 ?_
        refine r_iload x_16_130 rfl ?_
        refine r_iand x_16_132 ?_
        refine r_if_eq x_16_133 (t := 140) (by decide +kernel) (g_InR_toInt _) (fun hc => ?_) (fun hc => ?_)
        · replace h := h.1 hc
          refine r_iconst x_16_140 ?_
          exact h
        · replace h := h.2 hc
          refine r_iconst x_16_136 ?_
          refine r_goto x_16_137 (t := 141) (by decide +kernel) ?_
          exact h
theorem s_X0_meetOne_141 {d : Nat} {M : g_M} {Q : g_M → Prop} {a0 : Nat} {a1 : Nat} {v2 : Int} (hv2 : g_InR v2) {a3 : Nat} {v4 : Int} (hv4 : g_InR v4) {v5 : Int} (hv5 : g_InR v5) {v6 : Int} (hv6 : g_InR v6) {v7 : Int} (hv7 : g_InR v7) {v8 : Int} (hv8 : g_InR v8) {v9 : Int} (hv9 : g_InR v9) {v10 : Int} (hv10 : g_InR v10) {v11 : Int} (hv11 : g_InR v11) {w0 : Int} (hw0 : g_InR w0) (h : g_ok M → ((w0 = 0 → g_InR (v4 + 3) ∧ ∃ n2, g_A M a3 1 n2 ∧ ((0 : Int) ≤ v4 + 3 ∧ (v4 + 3 : Int) < n2) ∧ g_Run d 16 164 [(0, .ref a0), (1, .ref a1), (2, g_n v2), (3, .ref a3), (4, g_n v4), (5, g_n v5), (6, g_n v6), (7, g_n v7), (8, g_n v8), (9, g_n v9), (10, g_n v10), (11, g_n v11), (12, g_n w0)] [g_n (g_i M a3 (v4 + 3)), g_n v7] M (g_qV Q)) ∧ (¬ w0 = 0 → g_InR (v2 + 3) ∧ ∃ n6, g_A M a1 1 n6 ∧ ((0 : Int) ≤ v2 + 3 ∧ (v2 + 3 : Int) < n6) ∧ g_Run d 16 164 [(0, .ref a0), (1, .ref a1), (2, g_n v2), (3, .ref a3), (4, g_n v4), (5, g_n v5), (6, g_n v6), (7, g_n v7), (8, g_n v8), (9, g_n v9), (10, g_n v10), (11, g_n v11), (12, g_n w0)] [g_n (g_i M a1 (v2 + 3)), g_n v7] M (g_qV Q)))) : g_Run d 16 141 [(0, .ref a0), (1, .ref a1), (2, g_n v2), (3, .ref a3), (4, g_n v4), (5, g_n v5), (6, g_n v6), (7, g_n v7), (8, g_n v8), (9, g_n v9), (10, g_n v10), (11, g_n v11)] [g_n w0] M (g_qV Q) := by
  refine g_Run.ok fun hok => ?_
  replace h := h hok
  refine r_istore x_16_141 (by decide +kernel) rfl (lv1 := [(0, .ref a0), (1, .ref a1), (2, g_n v2), (3, .ref a3), (4, g_n v4), (5, g_n v5), (6, g_n v6), (7, g_n v7), (8, g_n v8), (9, g_n v9), (10, g_n v10), (11, g_n v11), (12, g_n w0)]) rfl ?_
  refine r_iload x_16_143 rfl ?_
  refine r_iload x_16_145 rfl ?_
  refine r_if_eq x_16_147 (t := 158) (by decide +kernel) hw0 (fun hc => ?_) (fun hc => ?_)
  · replace h := h.1 hc
    refine r_aload_n x_16_158 rfl ?_
    refine r_iload x_16_159 rfl ?_
    refine r_iconst x_16_161 ?_
    refine r_iadd x_16_162 ?_
    obtain ⟨h1, h⟩ := h
    obtain ⟨n2, hA3, h⟩ := h
    obtain ⟨h4, h⟩ := h
    refine r_iald x_16_163 hA3 h1 h4.1 h4.2 ?_
    exact h
  · replace h := h.2 hc
    refine r_aload_n x_16_150 rfl ?_
    refine r_iload_n x_16_151 rfl ?_
    refine r_iconst x_16_152 ?_
    refine r_iadd x_16_153 ?_
    obtain ⟨h5, h⟩ := h
    obtain ⟨n6, hA7, h⟩ := h
    obtain ⟨h8, h⟩ := h
    refine r_iald x_16_154 hA7 h5 h8.1 h8.2 ?_
    refine r_goto x_16_155 (t := 164) (by decide +kernel) ?_
    exact h
theorem s_X0_meetOne_164 {d : Nat} {M : g_M} {Q : g_M → Prop} {a0 : Nat} {a1 : Nat} {v2 : Int} (hv2 : g_InR v2) {a3 : Nat} {v4 : Int} (hv4 : g_InR v4) {v5 : Int} (hv5 : g_InR v5) {v6 : Int} (hv6 : g_InR v6) {v7 : Int} (hv7 : g_InR v7) {v8 : Int} (hv8 : g_InR v8) {v9 : Int} (hv9 : g_InR v9) {v10 : Int} (hv10 : g_InR v10) {v11 : Int} (hv11 : g_InR v11) {v12 : Int} (hv12 : g_InR v12) {w0 : Int} (hw0 : g_InR w0) {w1 : Int} (hw1 : g_InR w1) (h : g_ok M → ((v8 = 1 → ((v12 = 0 → g_InR (v8 + 1) ∧ g_Run d 16 23 [(0, .ref a0), (1, .ref a1), (2, g_n v2), (3, .ref a3), (4, g_n v4), (5, g_n v10), (6, g_n v6), (7, g_n (g_or w1 (g_and w0 v8))), (8, g_n (v8 + 1))] [] M (g_qV Q)) ∧ (¬ v12 = 0 → g_InR (v8 + 1) ∧ g_Run d 16 23 [(0, .ref a0), (1, .ref a1), (2, g_n v2), (3, .ref a3), (4, g_n v4), (5, g_n v9), (6, g_n v6), (7, g_n (g_or w1 (g_and w0 v8))), (8, g_n (v8 + 1))] [] M (g_qV Q)))) ∧ (¬ v8 = 1 → ((v12 = 0 → g_InR (v8 + 1) ∧ g_Run d 16 23 [(0, .ref a0), (1, .ref a1), (2, g_n v2), (3, .ref a3), (4, g_n v4), (5, g_n v5), (6, g_n v10), (7, g_n (g_or w1 (g_and w0 v8))), (8, g_n (v8 + 1))] [] M (g_qV Q)) ∧ (¬ v12 = 0 → g_InR (v8 + 1) ∧ g_Run d 16 23 [(0, .ref a0), (1, .ref a1), (2, g_n v2), (3, .ref a3), (4, g_n v4), (5, g_n v5), (6, g_n v9), (7, g_n (g_or w1 (g_and w0 v8))), (8, g_n (v8 + 1))] [] M (g_qV Q)))))) : g_Run d 16 164 [(0, .ref a0), (1, .ref a1), (2, g_n v2), (3, .ref a3), (4, g_n v4), (5, g_n v5), (6, g_n v6), (7, g_n v7), (8, g_n v8), (9, g_n v9), (10, g_n v10), (11, g_n v11), (12, g_n v12)] [g_n w0, g_n w1] M (g_qV Q) := by
  refine g_Run.ok fun hok => ?_
  replace h := h hok
  refine r_iload x_16_164 rfl ?_
  refine r_iand x_16_166 ?_
  refine r_ior x_16_167 ?_
  refine r_istore x_16_168 (by decide +kernel) rfl (lv1 := [(0, .ref a0), (1, .ref a1), (2, g_n v2), (3, .ref a3), (4, g_n v4), (5, g_n v5), (6, g_n v6), (7, g_n (g_or w1 (g_and w0 v8))), (8, g_n v8), (9, g_n v9), (10, g_n v10), (11, g_n v11), (12, g_n v12)]) rfl ?_
  refine r_iload x_16_170 rfl ?_
  refine r_iconst x_16_172 ?_
  refine r_ic_ne x_16_173 (t := 193) (by decide +kernel) hv8 (g_Rk rfl) (fun hc => ?_) (fun hc => ?_)
  · replace h := h.2 hc
    refine r_iload x_16_193 rfl ?_
    refine r_if_eq x_16_195 (t := 203) (by decide +kernel) hv12 (fun hc => ?_) (fun hc => ?_)
    · replace h := h.1 hc
      refine r_iload x_16_203 rfl ?_
      refine r_istore x_16_205 (by decide +kernel) rfl (lv1 := [(0, .ref a0), (1, .ref a1), (2, g_n v2), (3, .ref a3), (4, g_n v4), (5, g_n v5), (6, g_n v10), (7, g_n (g_or w1 (g_and w0 v8))), (8, g_n v8), (9, g_n v9), (10, g_n v10), (11, g_n v11), (12, g_n v12)]) rfl ?_
      obtain ⟨h1, h⟩ := h
      refine r_iinc x_16_207 (by decide +kernel) rfl rfl (lv1 := [(0, .ref a0), (1, .ref a1), (2, g_n v2), (3, .ref a3), (4, g_n v4), (5, g_n v5), (6, g_n v10), (7, g_n (g_or w1 (g_and w0 v8))), (8, g_n (v8 + 1)), (9, g_n v9), (10, g_n v10), (11, g_n v11), (12, g_n v12)]) rfl ?_
      refine r_goto x_16_210 (t := 23) (by decide +kernel) ?_
      refine g_drop [0, 1, 2, 3, 4, 5, 6, 7, 8] (lv1 := [(0, .ref a0), (1, .ref a1), (2, g_n v2), (3, .ref a3), (4, g_n v4), (5, g_n v5), (6, g_n v10), (7, g_n (g_or w1 (g_and w0 v8))), (8, g_n (v8 + 1))]) rfl ?_
      exact h
    · replace h := h.2 hc
      refine r_iload x_16_198 rfl ?_
      refine r_goto x_16_200 (t := 205) (by decide +kernel) ?_
      refine r_istore x_16_205 (by decide +kernel) rfl (lv1 := [(0, .ref a0), (1, .ref a1), (2, g_n v2), (3, .ref a3), (4, g_n v4), (5, g_n v5), (6, g_n v9), (7, g_n (g_or w1 (g_and w0 v8))), (8, g_n v8), (9, g_n v9), (10, g_n v10), (11, g_n v11), (12, g_n v12)]) rfl ?_
      obtain ⟨h2, h⟩ := h
      refine r_iinc x_16_207 (by decide +kernel) rfl rfl (lv1 := [(0, .ref a0), (1, .ref a1), (2, g_n v2), (3, .ref a3), (4, g_n v4), (5, g_n v5), (6, g_n v9), (7, g_n (g_or w1 (g_and w0 v8))), (8, g_n (v8 + 1)), (9, g_n v9), (10, g_n v10), (11, g_n v11), (12, g_n v12)]) rfl ?_
      refine r_goto x_16_210 (t := 23) (by decide +kernel) ?_
      refine g_drop [0, 1, 2, 3, 4, 5, 6, 7, 8] (lv1 := [(0, .ref a0), (1, .ref a1), (2, g_n v2), (3, .ref a3), (4, g_n v4), (5, g_n v5), (6, g_n v9), (7, g_n (g_or w1 (g_and w0 v8))), (8, g_n (v8 + 1))]) rfl ?_
      exact h
  · replace h := h.1 hc
    refine r_iload x_16_176 rfl ?_
    refine r_if_eq x_16_178 (t := 186) (by decide +kernel) hv12 (fun hc => ?_) (fun hc => ?_)
    · replace h := h.1 hc
      refine r_iload x_16_186 rfl ?_
      refine r_istore x_16_188 (by decide +kernel) rfl (lv1 := [(0, .ref a0), (1, .ref a1), (2, g_n v2), (3, .ref a3), (4, g_n v4), (5, g_n v10), (6, g_n v6), (7, g_n (g_or w1 (g_and w0 v8))), (8, g_n v8), (9, g_n v9), (10, g_n v10), (11, g_n v11), (12, g_n v12)]) rfl ?_
      refine r_goto x_16_190 (t := 207) (by decide +kernel) ?_
      obtain ⟨h3, h⟩ := h
      refine r_iinc x_16_207 (by decide +kernel) rfl rfl (lv1 := [(0, .ref a0), (1, .ref a1), (2, g_n v2), (3, .ref a3), (4, g_n v4), (5, g_n v10), (6, g_n v6), (7, g_n (g_or w1 (g_and w0 v8))), (8, g_n (v8 + 1)), (9, g_n v9), (10, g_n v10), (11, g_n v11), (12, g_n v12)]) rfl ?_
      refine r_goto x_16_210 (t := 23) (by decide +kernel) ?_
      refine g_drop [0, 1, 2, 3, 4, 5, 6, 7, 8] (lv1 := [(0, .ref a0), (1, .ref a1), (2, g_n v2), (3, .ref a3), (4, g_n v4), (5, g_n v10), (6, g_n v6), (7, g_n (g_or w1 (g_and w0 v8))), (8, g_n (v8 + 1))]) rfl ?_
      exact h
    · replace h := h.2 hc
      refine r_iload x_16_181 rfl ?_
      refine r_goto x_16_183 (t := 188) (by decide +kernel) ?_
      refine r_istore x_16_188 (by decide +kernel) rfl (lv1 := [(0, .ref a0), (1, .ref a1), (2, g_n v2), (3, .ref a3), (4, g_n v4), (5, g_n v9), (6, g_n v6), (7, g_n (g_or w1 (g_and w0 v8))), (8, g_n v8), (9, g_n v9), (10, g_n v10), (11, g_n v11), (12, g_n v12)]) rfl ?_
      refine r_goto x_16_190 (t := 207) (by decide +kernel) ?_
      obtain ⟨h4, h⟩ := h
      refine r_iinc x_16_207 (by decide +kernel) rfl rfl (lv1 := [(0, .ref a0), (1, .ref a1), (2, g_n v2), (3, .ref a3), (4, g_n v4), (5, g_n v9), (6, g_n v6), (7, g_n (g_or w1 (g_and w0 v8))), (8, g_n (v8 + 1)), (9, g_n v9), (10, g_n v10), (11, g_n v11), (12, g_n v12)]) rfl ?_
      refine r_goto x_16_210 (t := 23) (by decide +kernel) ?_
      refine g_drop [0, 1, 2, 3, 4, 5, 6, 7, 8] (lv1 := [(0, .ref a0), (1, .ref a1), (2, g_n v2), (3, .ref a3), (4, g_n v4), (5, g_n v9), (6, g_n v6), (7, g_n (g_or w1 (g_and w0 v8))), (8, g_n (v8 + 1))]) rfl ?_
      exact h
theorem s_X0_meetOne_223 {d : Nat} {M : g_M} {Q : g_M → Prop} {a0 : Nat} {a1 : Nat} {v2 : Int} (hv2 : g_InR v2) {a3 : Nat} {v4 : Int} (hv4 : g_InR v4) {v5 : Int} (hv5 : g_InR v5) {v6 : Int} (hv6 : g_InR v6) {v7 : Int} (hv7 : g_InR v7) {v8 : Int} (hv8 : g_InR v8) (h : g_ok M → g_Run d 16 261 [(0, .ref a0), (1, .ref a1), (2, g_n v2), (3, .ref a3), (4, g_n v4), (5, g_n v5), (6, g_n v6), (7, g_n v7), (8, g_n ((-1)))] [] M (g_qV Q)) : g_Run d 16 223 [(0, .ref a0), (1, .ref a1), (2, g_n v2), (3, .ref a3), (4, g_n v4), (5, g_n v5), (6, g_n v6), (7, g_n v7), (8, g_n v8)] [] M (g_qV Q) := by
  refine g_Run.ok fun hok => ?_
  replace h := h hok
  refine r_iconst x_16_223 ?_
  refine r_goto x_16_224 (t := 243) (by decide +kernel) ?_
  refine r_istore x_16_243 (by decide +kernel) rfl (lv1 := [(0, .ref a0), (1, .ref a1), (2, g_n v2), (3, .ref a3), (4, g_n v4), (5, g_n v5), (6, g_n v6), (7, g_n v7), (8, g_n ((-1)))]) rfl ?_
  refine r_iload x_16_245 rfl ?_
  refine r_if_lt x_16_247 (t := 261) (by decide +kernel) (g_Rk rfl) (fun hc => ?_) (fun hc => ?_)
  · skip
    exact h
  · exfalso; omega
theorem s_X0_meetOne_261 {d : Nat} {M : g_M} {Q : g_M → Prop} {a0 : Nat} {a1 : Nat} {v2 : Int} (hv2 : g_InR v2) {a3 : Nat} {v4 : Int} (hv4 : g_InR v4) {v5 : Int} (hv5 : g_InR v5) {v6 : Int} (hv6 : g_InR v6) {v7 : Int} (hv7 : g_InR v7) {v8 : Int} (hv8 : g_InR v8) (h : g_ok M → ∃ n1, g_A M a1 1 n1 ∧ ((0 : Int) ≤ v2 ∧ (v2 : Int) < n1) ∧ g_O M a0 0 ∧ g_Call d 13 [.ref a0, g_n 4, g_n (g_i M a1 v2), g_n v5, g_n v6, g_n v7] M (g_qV fun M5 => g_ext M M5 → g_ok M5 → Q M5)) : g_Run d 16 261 [(0, .ref a0), (1, .ref a1), (2, g_n v2), (3, .ref a3), (4, g_n v4), (5, g_n v5), (6, g_n v6), (7, g_n v7), (8, g_n v8)] [] M (g_qV Q) := by
  refine g_Run.ok fun hok => ?_
  replace h := h hok
  refine r_aload_n x_16_261 rfl ?_
  refine r_iconst x_16_262 ?_
  refine r_aload_n x_16_263 rfl ?_
  refine r_iload_n x_16_264 rfl ?_
  obtain ⟨n1, hA2, h⟩ := h
  obtain ⟨h3, h⟩ := h
  refine r_iald x_16_265 hA2 hv2 h3.1 h3.2 ?_
  refine r_iload x_16_266 rfl ?_
  refine r_iload x_16_268 rfl ?_
  refine r_iload x_16_270 rfl ?_
  obtain ⟨hO4, h⟩ := h
  refine r_invV x_16_272 (z := 13) (ns := 0) (by decide +kernel) (as := [g_n 4, g_n (g_i M a1 v2), g_n v5, g_n v6, g_n v7]) (r := []) rfl rfl rfl hO4 rfl rfl ?_
  refine r_callV h fun M5 hx6 hok7 h => ?_
  replace h := h hx6 hok7
  replace hO4 := hO4.up hx6
  replace hA2 := hA2.up hx6
  exact r_retV x_16_275 rfl h
