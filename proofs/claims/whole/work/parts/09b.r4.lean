theorem x_75_0 : decode (q_code 75) 0 = .ok (.aload_n 0, 1) := by decide +kernel
theorem x_75_1 : decode (q_code 75) 1 = .ok (.iload_n 1, 1) := by decide +kernel
theorem x_75_2 : decode (q_code 75) 2 = .ok (.iconst 0, 1) := by decide +kernel
theorem x_75_3 : decode (q_code 75) 3 = .ok (.invokestatic 22, 3) := by decide +kernel
theorem x_75_6 : decode (q_code 75) 6 = .ok (.putfield 15, 3) := by decide +kernel
theorem x_75_9 : decode (q_code 75) 9 = .ok (.aload_n 0, 1) := by decide +kernel
theorem x_75_10 : decode (q_code 75) 10 = .ok (.iload_n 2, 1) := by decide +kernel
theorem x_75_11 : decode (q_code 75) 11 = .ok (.aload_n 0, 1) := by decide +kernel
theorem x_75_12 : decode (q_code 75) 12 = .ok (.getfield 9, 3) := by decide +kernel
theorem x_75_15 : decode (q_code 75) 15 = .ok (.arraylength, 1) := by decide +kernel
theorem x_75_16 : decode (q_code 75) 16 = .ok (.invokestatic 28, 3) := by decide +kernel
theorem x_75_19 : decode (q_code 75) 19 = .ok (.putfield 19, 3) := by decide +kernel
theorem x_75_22 : decode (q_code 75) 22 = .ok (.aload_n 0, 1) := by decide +kernel
theorem x_75_23 : decode (q_code 75) 23 = .ok (.iconst 0, 1) := by decide +kernel
theorem x_75_24 : decode (q_code 75) 24 = .ok (.putfield 31, 3) := by decide +kernel
theorem x_75_27 : decode (q_code 75) 27 = .ok (.return_, 1) := by decide +kernel
theorem x_76_0 : decode (q_code 76) 0 = .ok (.aload_n 0, 1) := by decide +kernel
theorem x_76_1 : decode (q_code 76) 1 = .ok (.getfield 15, 3) := by decide +kernel
theorem x_76_4 : decode (q_code 76) 4 = .ok (.aload_n 0, 1) := by decide +kernel
theorem x_76_5 : decode (q_code 76) 5 = .ok (.getfield 19, 3) := by decide +kernel
theorem x_76_8 : decode (q_code 76) 8 = .ok (.if_icmp .ge 39, 3) := by decide +kernel
theorem x_76_11 : decode (q_code 76) 11 = .ok (.aload_n 0, 1) := by decide +kernel
theorem x_76_12 : decode (q_code 76) 12 = .ok (.getfield 15, 3) := by decide +kernel
theorem x_76_15 : decode (q_code 76) 15 = .ok (.aload_n 0, 1) := by decide +kernel
theorem x_76_16 : decode (q_code 76) 16 = .ok (.getfield 9, 3) := by decide +kernel
theorem x_76_19 : decode (q_code 76) 19 = .ok (.arraylength, 1) := by decide +kernel
theorem x_76_20 : decode (q_code 76) 20 = .ok (.if_icmp .ge 27, 3) := by decide +kernel
theorem x_76_23 : decode (q_code 76) 23 = .ok (.aload_n 0, 1) := by decide +kernel
theorem x_76_24 : decode (q_code 76) 24 = .ok (.getfield 9, 3) := by decide +kernel
theorem x_76_27 : decode (q_code 76) 27 = .ok (.aload_n 0, 1) := by decide +kernel
theorem x_76_28 : decode (q_code 76) 28 = .ok (.getfield 15, 3) := by decide +kernel
theorem x_76_31 : decode (q_code 76) 31 = .ok (.iload_n 1, 1) := by decide +kernel
theorem x_76_32 : decode (q_code 76) 32 = .ok (.i2b, 1) := by decide +kernel
theorem x_76_33 : decode (q_code 76) 33 = .ok (.bastore, 1) := by decide +kernel
theorem x_76_34 : decode (q_code 76) 34 = .ok (.aload_n 0, 1) := by decide +kernel
theorem x_76_35 : decode (q_code 76) 35 = .ok (.dup, 1) := by decide +kernel
theorem x_76_36 : decode (q_code 76) 36 = .ok (.getfield 15, 3) := by decide +kernel
theorem x_76_39 : decode (q_code 76) 39 = .ok (.iconst 1, 1) := by decide +kernel
theorem x_76_40 : decode (q_code 76) 40 = .ok (.iadd, 1) := by decide +kernel
theorem x_76_41 : decode (q_code 76) 41 = .ok (.putfield 15, 3) := by decide +kernel
theorem x_76_44 : decode (q_code 76) 44 = .ok (.goto 8, 3) := by decide +kernel
theorem x_76_47 : decode (q_code 76) 47 = .ok (.aload_n 0, 1) := by decide +kernel
theorem x_76_48 : decode (q_code 76) 48 = .ok (.iconst 1, 1) := by decide +kernel
theorem x_76_49 : decode (q_code 76) 49 = .ok (.putfield 31, 3) := by decide +kernel
theorem x_76_52 : decode (q_code 76) 52 = .ok (.return_, 1) := by decide +kernel
theorem x_77_0 : decode (q_code 77) 0 = .ok (.aload_n 0, 1) := by decide +kernel
theorem x_77_1 : decode (q_code 77) 1 = .ok (.getfield 15, 3) := by decide +kernel
theorem x_77_4 : decode (q_code 77) 4 = .ok (.iconst 4, 1) := by decide +kernel
theorem x_77_5 : decode (q_code 77) 5 = .ok (.iadd, 1) := by decide +kernel
theorem x_77_6 : decode (q_code 77) 6 = .ok (.aload_n 0, 1) := by decide +kernel
theorem x_77_7 : decode (q_code 77) 7 = .ok (.getfield 19, 3) := by decide +kernel
theorem x_77_10 : decode (q_code 77) 10 = .ok (.if_icmp .gt 17, 3) := by decide +kernel
theorem x_77_13 : decode (q_code 77) 13 = .ok (.aload_n 0, 1) := by decide +kernel
theorem x_77_14 : decode (q_code 77) 14 = .ok (.getfield 15, 3) := by decide +kernel
theorem x_77_17 : decode (q_code 77) 17 = .ok (.iconst 4, 1) := by decide +kernel
theorem x_77_18 : decode (q_code 77) 18 = .ok (.iadd, 1) := by decide +kernel
theorem x_77_19 : decode (q_code 77) 19 = .ok (.aload_n 0, 1) := by decide +kernel
theorem x_77_20 : decode (q_code 77) 20 = .ok (.getfield 9, 3) := by decide +kernel
theorem x_77_23 : decode (q_code 77) 23 = .ok (.arraylength, 1) := by decide +kernel
theorem x_77_24 : decode (q_code 77) 24 = .ok (.if_icmp .le 9, 3) := by decide +kernel
theorem x_77_27 : decode (q_code 77) 27 = .ok (.aload_n 0, 1) := by decide +kernel
theorem x_77_28 : decode (q_code 77) 28 = .ok (.iconst 1, 1) := by decide +kernel
theorem x_77_29 : decode (q_code 77) 29 = .ok (.putfield 31, 3) := by decide +kernel
theorem x_77_32 : decode (q_code 77) 32 = .ok (.return_, 1) := by decide +kernel
theorem x_77_33 : decode (q_code 77) 33 = .ok (.iconst 0, 1) := by decide +kernel
theorem x_77_34 : decode (q_code 77) 34 = .ok (.istore_n 2, 1) := by decide +kernel
theorem x_77_35 : decode (q_code 77) 35 = .ok (.iload_n 2, 1) := by decide +kernel
theorem x_77_36 : decode (q_code 77) 36 = .ok (.iconst 4, 1) := by decide +kernel
theorem x_77_37 : decode (q_code 77) 37 = .ok (.if_icmp .ge 35, 3) := by decide +kernel
theorem x_77_40 : decode (q_code 77) 40 = .ok (.aload_n 0, 1) := by decide +kernel
theorem x_77_41 : decode (q_code 77) 41 = .ok (.getfield 9, 3) := by decide +kernel
theorem x_77_44 : decode (q_code 77) 44 = .ok (.aload_n 0, 1) := by decide +kernel
theorem x_77_45 : decode (q_code 77) 45 = .ok (.getfield 15, 3) := by decide +kernel
theorem x_77_48 : decode (q_code 77) 48 = .ok (.iload_n 1, 1) := by decide +kernel
theorem x_77_49 : decode (q_code 77) 49 = .ok (.bipush 8, 2) := by decide +kernel
theorem x_77_51 : decode (q_code 77) 51 = .ok (.iload_n 2, 1) := by decide +kernel
theorem x_77_52 : decode (q_code 77) 52 = .ok (.imul, 1) := by decide +kernel
theorem x_77_53 : decode (q_code 77) 53 = .ok (.ishr, 1) := by decide +kernel
theorem x_77_54 : decode (q_code 77) 54 = .ok (.i2b, 1) := by decide +kernel
theorem x_77_55 : decode (q_code 77) 55 = .ok (.bastore, 1) := by decide +kernel
theorem x_77_56 : decode (q_code 77) 56 = .ok (.aload_n 0, 1) := by decide +kernel
theorem x_77_57 : decode (q_code 77) 57 = .ok (.dup, 1) := by decide +kernel
theorem x_77_58 : decode (q_code 77) 58 = .ok (.getfield 15, 3) := by decide +kernel
theorem x_77_61 : decode (q_code 77) 61 = .ok (.iconst 1, 1) := by decide +kernel
theorem x_77_62 : decode (q_code 77) 62 = .ok (.iadd, 1) := by decide +kernel
theorem x_77_63 : decode (q_code 77) 63 = .ok (.putfield 15, 3) := by decide +kernel
theorem x_77_66 : decode (q_code 77) 66 = .ok (.iinc 2 1, 3) := by decide +kernel
theorem x_77_69 : decode (q_code 77) 69 = .ok (.goto (-34), 3) := by decide +kernel
theorem x_77_72 : decode (q_code 77) 72 = .ok (.return_, 1) := by decide +kernel
theorem x_78_0 : decode (q_code 78) 0 = .ok (.aload_n 0, 1) := by decide +kernel
theorem x_78_1 : decode (q_code 78) 1 = .ok (.lload_n 1, 1) := by decide +kernel
theorem x_78_2 : decode (q_code 78) 2 = .ok (.l2i, 1) := by decide +kernel
theorem x_78_3 : decode (q_code 78) 3 = .ok (.invokevirtual 35, 3) := by decide +kernel
theorem x_78_6 : decode (q_code 78) 6 = .ok (.aload_n 0, 1) := by decide +kernel
theorem x_78_7 : decode (q_code 78) 7 = .ok (.lload_n 1, 1) := by decide +kernel
theorem x_78_8 : decode (q_code 78) 8 = .ok (.bipush 32, 2) := by decide +kernel
theorem x_78_10 : decode (q_code 78) 10 = .ok (.lshr, 1) := by decide +kernel
theorem x_78_11 : decode (q_code 78) 11 = .ok (.l2i, 1) := by decide +kernel
theorem x_78_12 : decode (q_code 78) 12 = .ok (.invokevirtual 35, 3) := by decide +kernel
theorem x_78_15 : decode (q_code 78) 15 = .ok (.return_, 1) := by decide +kernel
theorem x_79_0 : decode (q_code 79) 0 = .ok (.iload_n 1, 1) := by decide +kernel
theorem x_79_1 : decode (q_code 79) 1 = .ok (.ifCond .lt 24, 3) := by decide +kernel
theorem x_79_4 : decode (q_code 79) 4 = .ok (.iload_n 1, 1) := by decide +kernel
theorem x_79_5 : decode (q_code 79) 5 = .ok (.iconst 4, 1) := by decide +kernel
theorem x_79_6 : decode (q_code 79) 6 = .ok (.iadd, 1) := by decide +kernel
theorem x_79_7 : decode (q_code 79) 7 = .ok (.aload_n 0, 1) := by decide +kernel
theorem x_79_8 : decode (q_code 79) 8 = .ok (.getfield 19, 3) := by decide +kernel
theorem x_79_11 : decode (q_code 79) 11 = .ok (.if_icmp .gt 14, 3) := by decide +kernel
theorem x_79_14 : decode (q_code 79) 14 = .ok (.iload_n 1, 1) := by decide +kernel
theorem x_79_15 : decode (q_code 79) 15 = .ok (.iconst 4, 1) := by decide +kernel
theorem x_79_16 : decode (q_code 79) 16 = .ok (.iadd, 1) := by decide +kernel
theorem x_79_17 : decode (q_code 79) 17 = .ok (.aload_n 0, 1) := by decide +kernel
theorem x_79_18 : decode (q_code 79) 18 = .ok (.getfield 9, 3) := by decide +kernel
theorem x_79_21 : decode (q_code 79) 21 = .ok (.arraylength, 1) := by decide +kernel
theorem x_79_22 : decode (q_code 79) 22 = .ok (.if_icmp .le 9, 3) := by decide +kernel
theorem x_79_25 : decode (q_code 79) 25 = .ok (.aload_n 0, 1) := by decide +kernel
theorem x_79_26 : decode (q_code 79) 26 = .ok (.iconst 1, 1) := by decide +kernel
theorem x_79_27 : decode (q_code 79) 27 = .ok (.putfield 31, 3) := by decide +kernel
theorem x_79_30 : decode (q_code 79) 30 = .ok (.return_, 1) := by decide +kernel
theorem x_79_31 : decode (q_code 79) 31 = .ok (.aload_n 0, 1) := by decide +kernel
theorem x_79_32 : decode (q_code 79) 32 = .ok (.getfield 9, 3) := by decide +kernel
theorem x_79_35 : decode (q_code 79) 35 = .ok (.iload_n 1, 1) := by decide +kernel
theorem x_79_36 : decode (q_code 79) 36 = .ok (.iload_n 2, 1) := by decide +kernel
theorem x_79_37 : decode (q_code 79) 37 = .ok (.i2b, 1) := by decide +kernel
theorem x_79_38 : decode (q_code 79) 38 = .ok (.bastore, 1) := by decide +kernel
theorem x_79_39 : decode (q_code 79) 39 = .ok (.aload_n 0, 1) := by decide +kernel
theorem x_79_40 : decode (q_code 79) 40 = .ok (.getfield 9, 3) := by decide +kernel
theorem x_79_43 : decode (q_code 79) 43 = .ok (.iload_n 1, 1) := by decide +kernel
theorem x_79_44 : decode (q_code 79) 44 = .ok (.iconst 1, 1) := by decide +kernel
theorem x_79_45 : decode (q_code 79) 45 = .ok (.iadd, 1) := by decide +kernel
theorem x_79_46 : decode (q_code 79) 46 = .ok (.iload_n 2, 1) := by decide +kernel
theorem x_79_47 : decode (q_code 79) 47 = .ok (.bipush 8, 2) := by decide +kernel
theorem x_79_49 : decode (q_code 79) 49 = .ok (.ishr, 1) := by decide +kernel
theorem x_79_50 : decode (q_code 79) 50 = .ok (.i2b, 1) := by decide +kernel
theorem x_79_51 : decode (q_code 79) 51 = .ok (.bastore, 1) := by decide +kernel
theorem x_79_52 : decode (q_code 79) 52 = .ok (.aload_n 0, 1) := by decide +kernel
theorem x_79_53 : decode (q_code 79) 53 = .ok (.getfield 9, 3) := by decide +kernel
theorem x_79_56 : decode (q_code 79) 56 = .ok (.iload_n 1, 1) := by decide +kernel
theorem x_79_57 : decode (q_code 79) 57 = .ok (.iconst 2, 1) := by decide +kernel
theorem x_79_58 : decode (q_code 79) 58 = .ok (.iadd, 1) := by decide +kernel
theorem x_79_59 : decode (q_code 79) 59 = .ok (.iload_n 2, 1) := by decide +kernel
theorem x_79_60 : decode (q_code 79) 60 = .ok (.bipush 16, 2) := by decide +kernel
theorem x_79_62 : decode (q_code 79) 62 = .ok (.ishr, 1) := by decide +kernel
theorem x_79_63 : decode (q_code 79) 63 = .ok (.i2b, 1) := by decide +kernel
theorem x_79_64 : decode (q_code 79) 64 = .ok (.bastore, 1) := by decide +kernel
theorem x_79_65 : decode (q_code 79) 65 = .ok (.aload_n 0, 1) := by decide +kernel
theorem x_79_66 : decode (q_code 79) 66 = .ok (.getfield 9, 3) := by decide +kernel
theorem x_79_69 : decode (q_code 79) 69 = .ok (.iload_n 1, 1) := by decide +kernel
theorem x_79_70 : decode (q_code 79) 70 = .ok (.iconst 3, 1) := by decide +kernel
theorem x_79_71 : decode (q_code 79) 71 = .ok (.iadd, 1) := by decide +kernel
theorem x_79_72 : decode (q_code 79) 72 = .ok (.iload_n 2, 1) := by decide +kernel
theorem x_79_73 : decode (q_code 79) 73 = .ok (.bipush 24, 2) := by decide +kernel
theorem x_79_75 : decode (q_code 79) 75 = .ok (.ishr, 1) := by decide +kernel
theorem x_79_76 : decode (q_code 79) 76 = .ok (.i2b, 1) := by decide +kernel
theorem x_79_77 : decode (q_code 79) 77 = .ok (.bastore, 1) := by decide +kernel
theorem x_79_78 : decode (q_code 79) 78 = .ok (.return_, 1) := by decide +kernel
theorem x_80_0 : decode (q_code 80) 0 = .ok (.iload_n 2, 1) := by decide +kernel
theorem x_80_1 : decode (q_code 80) 1 = .ok (.ifCond .lt 29, 3) := by decide +kernel
theorem x_80_4 : decode (q_code 80) 4 = .ok (.iload_n 3, 1) := by decide +kernel
theorem x_80_5 : decode (q_code 80) 5 = .ok (.iload_n 2, 1) := by decide +kernel
theorem x_80_6 : decode (q_code 80) 6 = .ok (.if_icmp .lt 24, 3) := by decide +kernel
theorem x_80_9 : decode (q_code 80) 9 = .ok (.iload_n 3, 1) := by decide +kernel
theorem x_80_10 : decode (q_code 80) 10 = .ok (.aload_n 1, 1) := by decide +kernel
theorem x_80_11 : decode (q_code 80) 11 = .ok (.arraylength, 1) := by decide +kernel
theorem x_80_12 : decode (q_code 80) 12 = .ok (.if_icmp .gt 18, 3) := by decide +kernel
theorem x_80_15 : decode (q_code 80) 15 = .ok (.aload_n 0, 1) := by decide +kernel
theorem x_80_16 : decode (q_code 80) 16 = .ok (.getfield 15, 3) := by decide +kernel
theorem x_80_19 : decode (q_code 80) 19 = .ok (.iload_n 3, 1) := by decide +kernel
theorem x_80_20 : decode (q_code 80) 20 = .ok (.iadd, 1) := by decide +kernel
theorem x_80_21 : decode (q_code 80) 21 = .ok (.iload_n 2, 1) := by decide +kernel
theorem x_80_22 : decode (q_code 80) 22 = .ok (.isub, 1) := by decide +kernel
theorem x_80_23 : decode (q_code 80) 23 = .ok (.aload_n 0, 1) := by decide +kernel
theorem x_80_24 : decode (q_code 80) 24 = .ok (.getfield 19, 3) := by decide +kernel
theorem x_80_27 : decode (q_code 80) 27 = .ok (.if_icmp .le 9, 3) := by decide +kernel
theorem x_80_30 : decode (q_code 80) 30 = .ok (.aload_n 0, 1) := by decide +kernel
theorem x_80_31 : decode (q_code 80) 31 = .ok (.iconst 1, 1) := by decide +kernel
theorem x_80_32 : decode (q_code 80) 32 = .ok (.putfield 31, 3) := by decide +kernel
theorem x_80_35 : decode (q_code 80) 35 = .ok (.return_, 1) := by decide +kernel
theorem x_80_36 : decode (q_code 80) 36 = .ok (.aload_n 1, 1) := by decide +kernel
theorem x_80_37 : decode (q_code 80) 37 = .ok (.iload_n 2, 1) := by decide +kernel
theorem x_80_38 : decode (q_code 80) 38 = .ok (.aload_n 0, 1) := by decide +kernel
theorem x_80_39 : decode (q_code 80) 39 = .ok (.getfield 9, 3) := by decide +kernel
theorem x_80_42 : decode (q_code 80) 42 = .ok (.aload_n 0, 1) := by decide +kernel
theorem x_80_43 : decode (q_code 80) 43 = .ok (.getfield 15, 3) := by decide +kernel
theorem x_80_46 : decode (q_code 80) 46 = .ok (.iload_n 3, 1) := by decide +kernel
theorem x_80_47 : decode (q_code 80) 47 = .ok (.iload_n 2, 1) := by decide +kernel
theorem x_80_48 : decode (q_code 80) 48 = .ok (.isub, 1) := by decide +kernel
theorem x_80_49 : decode (q_code 80) 49 = .ok (.invokestatic 39, 3) := by decide +kernel
theorem x_80_52 : decode (q_code 80) 52 = .ok (.aload_n 0, 1) := by decide +kernel
theorem x_80_53 : decode (q_code 80) 53 = .ok (.dup, 1) := by decide +kernel
theorem x_80_54 : decode (q_code 80) 54 = .ok (.getfield 15, 3) := by decide +kernel
theorem x_80_57 : decode (q_code 80) 57 = .ok (.iload_n 3, 1) := by decide +kernel
theorem x_80_58 : decode (q_code 80) 58 = .ok (.iload_n 2, 1) := by decide +kernel
theorem x_80_59 : decode (q_code 80) 59 = .ok (.isub, 1) := by decide +kernel
theorem x_80_60 : decode (q_code 80) 60 = .ok (.iadd, 1) := by decide +kernel
theorem x_80_61 : decode (q_code 80) 61 = .ok (.putfield 15, 3) := by decide +kernel
theorem x_80_64 : decode (q_code 80) 64 = .ok (.return_, 1) := by decide +kernel
theorem x_81_0 : decode (q_code 81) 0 = .ok (.aload_n 0, 1) := by decide +kernel
theorem x_81_1 : decode (q_code 81) 1 = .ok (.iload_n 1, 1) := by decide +kernel
theorem x_81_2 : decode (q_code 81) 2 = .ok (.invokevirtual 45, 3) := by decide +kernel
theorem x_81_5 : decode (q_code 81) 5 = .ok (.iconst 0, 1) := by decide +kernel
theorem x_81_6 : decode (q_code 81) 6 = .ok (.istore_n 3, 1) := by decide +kernel
theorem x_81_7 : decode (q_code 81) 7 = .ok (.iload_n 3, 1) := by decide +kernel
theorem x_81_8 : decode (q_code 81) 8 = .ok (.aload_n 2, 1) := by decide +kernel
theorem x_81_9 : decode (q_code 81) 9 = .ok (.invokevirtual 48, 3) := by decide +kernel
theorem x_81_12 : decode (q_code 81) 12 = .ok (.if_icmp .ge 18, 3) := by decide +kernel
theorem x_81_15 : decode (q_code 81) 15 = .ok (.aload_n 0, 1) := by decide +kernel
theorem x_81_16 : decode (q_code 81) 16 = .ok (.aload_n 2, 1) := by decide +kernel
theorem x_81_17 : decode (q_code 81) 17 = .ok (.iload_n 3, 1) := by decide +kernel
theorem x_81_18 : decode (q_code 81) 18 = .ok (.invokevirtual 54, 3) := by decide +kernel
theorem x_81_21 : decode (q_code 81) 21 = .ok (.invokevirtual 45, 3) := by decide +kernel
theorem x_81_24 : decode (q_code 81) 24 = .ok (.iinc 3 1, 3) := by decide +kernel
theorem x_81_27 : decode (q_code 81) 27 = .ok (.goto (-20), 3) := by decide +kernel
theorem x_81_30 : decode (q_code 81) 30 = .ok (.aload_n 0, 1) := by decide +kernel
theorem x_81_31 : decode (q_code 81) 31 = .ok (.iconst 0, 1) := by decide +kernel
theorem x_81_32 : decode (q_code 81) 32 = .ok (.invokevirtual 45, 3) := by decide +kernel
theorem x_81_35 : decode (q_code 81) 35 = .ok (.return_, 1) := by decide +kernel
theorem x_82_0 : decode (q_code 82) 0 = .ok (.aload_n 0, 1) := by decide +kernel
theorem x_82_1 : decode (q_code 82) 1 = .ok (.iload_n 1, 1) := by decide +kernel
theorem x_82_2 : decode (q_code 82) 2 = .ok (.invokevirtual 45, 3) := by decide +kernel
theorem x_82_5 : decode (q_code 82) 5 = .ok (.aload_n 0, 1) := by decide +kernel
theorem x_82_6 : decode (q_code 82) 6 = .ok (.aload_n 2, 1) := by decide +kernel
theorem x_82_7 : decode (q_code 82) 7 = .ok (.iload_n 3, 1) := by decide +kernel
theorem x_82_8 : decode (q_code 82) 8 = .ok (.iload 4, 2) := by decide +kernel
theorem x_82_10 : decode (q_code 82) 10 = .ok (.invokevirtual 58, 3) := by decide +kernel
theorem x_82_13 : decode (q_code 82) 13 = .ok (.aload_n 0, 1) := by decide +kernel
theorem x_82_14 : decode (q_code 82) 14 = .ok (.iconst 0, 1) := by decide +kernel
theorem x_82_15 : decode (q_code 82) 15 = .ok (.invokevirtual 45, 3) := by decide +kernel
theorem x_82_18 : decode (q_code 82) 18 = .ok (.return_, 1) := by decide +kernel
theorem x_83_0 : decode (q_code 83) 0 = .ok (.aload_n 0, 1) := by decide +kernel
theorem x_83_1 : decode (q_code 83) 1 = .ok (.iload_n 1, 1) := by decide +kernel
theorem x_83_2 : decode (q_code 83) 2 = .ok (.invokevirtual 45, 3) := by decide +kernel
theorem x_83_5 : decode (q_code 83) 5 = .ok (.ldc 62, 2) := by decide +kernel
theorem x_83_7 : decode (q_code 83) 7 = .ok (.istore_n 3, 1) := by decide +kernel
theorem x_83_8 : decode (q_code 83) 8 = .ok (.iload_n 3, 1) := by decide +kernel
theorem x_83_9 : decode (q_code 83) 9 = .ok (.ifCond .le 34, 3) := by decide +kernel
theorem x_83_12 : decode (q_code 83) 12 = .ok (.iload_n 3, 1) := by decide +kernel
theorem x_83_13 : decode (q_code 83) 13 = .ok (.iconst 1, 1) := by decide +kernel
theorem x_83_14 : decode (q_code 83) 14 = .ok (.if_icmp .eq 8, 3) := by decide +kernel
theorem x_83_17 : decode (q_code 83) 17 = .ok (.iload_n 2, 1) := by decide +kernel
theorem x_83_18 : decode (q_code 83) 18 = .ok (.iload_n 3, 1) := by decide +kernel
theorem x_83_19 : decode (q_code 83) 19 = .ok (.if_icmp .lt 16, 3) := by decide +kernel
theorem x_83_22 : decode (q_code 83) 22 = .ok (.aload_n 0, 1) := by decide +kernel
theorem x_83_23 : decode (q_code 83) 23 = .ok (.bipush 48, 2) := by decide +kernel
theorem x_83_25 : decode (q_code 83) 25 = .ok (.iload_n 2, 1) := by decide +kernel
theorem x_83_26 : decode (q_code 83) 26 = .ok (.iload_n 3, 1) := by decide +kernel
theorem x_83_27 : decode (q_code 83) 27 = .ok (.idiv, 1) := by decide +kernel
theorem x_83_28 : decode (q_code 83) 28 = .ok (.bipush 10, 2) := by decide +kernel
theorem x_83_30 : decode (q_code 83) 30 = .ok (.irem, 1) := by decide +kernel
theorem x_83_31 : decode (q_code 83) 31 = .ok (.iadd, 1) := by decide +kernel
theorem x_83_32 : decode (q_code 83) 32 = .ok (.invokevirtual 45, 3) := by decide +kernel
theorem x_83_35 : decode (q_code 83) 35 = .ok (.iload_n 3, 1) := by decide +kernel
theorem x_83_36 : decode (q_code 83) 36 = .ok (.bipush 10, 2) := by decide +kernel
theorem x_83_38 : decode (q_code 83) 38 = .ok (.idiv, 1) := by decide +kernel
theorem x_83_39 : decode (q_code 83) 39 = .ok (.istore_n 3, 1) := by decide +kernel
theorem x_83_40 : decode (q_code 83) 40 = .ok (.goto (-32), 3) := by decide +kernel
theorem x_83_43 : decode (q_code 83) 43 = .ok (.aload_n 0, 1) := by decide +kernel
theorem x_83_44 : decode (q_code 83) 44 = .ok (.iconst 0, 1) := by decide +kernel
theorem x_83_45 : decode (q_code 83) 45 = .ok (.invokevirtual 45, 3) := by decide +kernel
theorem x_83_48 : decode (q_code 83) 48 = .ok (.return_, 1) := by decide +kernel
theorem x_84_0 : decode (q_code 84) 0 = .ok (.aload_n 0, 1) := by decide +kernel
theorem x_84_1 : decode (q_code 84) 1 = .ok (.aload_n 1, 1) := by decide +kernel
theorem x_84_2 : decode (q_code 84) 2 = .ok (.aload_n 1, 1) := by decide +kernel
theorem x_84_3 : decode (q_code 84) 3 = .ok (.iload_n 2, 1) := by decide +kernel
theorem x_84_4 : decode (q_code 84) 4 = .ok (.invokestatic 63, 3) := by decide +kernel
theorem x_84_7 : decode (q_code 84) 7 = .ok (.aload_n 1, 1) := by decide +kernel
theorem x_84_8 : decode (q_code 84) 8 = .ok (.iload_n 2, 1) := by decide +kernel
theorem x_84_9 : decode (q_code 84) 9 = .ok (.invokestatic 69, 3) := by decide +kernel
theorem x_84_12 : decode (q_code 84) 12 = .ok (.invokevirtual 58, 3) := by decide +kernel
theorem x_84_15 : decode (q_code 84) 15 = .ok (.return_, 1) := by decide +kernel
theorem x_85_0 : decode (q_code 85) 0 = .ok (.aload_n 0, 1) := by decide +kernel
theorem x_85_1 : decode (q_code 85) 1 = .ok (.getfield 15, 3) := by decide +kernel
theorem x_85_4 : decode (q_code 85) 4 = .ok (.istore_n 1, 1) := by decide +kernel
theorem x_85_5 : decode (q_code 85) 5 = .ok (.aload_n 0, 1) := by decide +kernel
theorem x_85_6 : decode (q_code 85) 6 = .ok (.iconst 0, 1) := by decide +kernel
theorem x_85_7 : decode (q_code 85) 7 = .ok (.invokevirtual 35, 3) := by decide +kernel
theorem x_85_10 : decode (q_code 85) 10 = .ok (.iload_n 1, 1) := by decide +kernel
theorem x_85_11 : decode (q_code 85) 11 = .ok (.ireturn, 1) := by decide +kernel
theorem x_86_0 : decode (q_code 86) 0 = .ok (.aload_n 0, 1) := by decide +kernel
theorem x_86_1 : decode (q_code 86) 1 = .ok (.iconst 0, 1) := by decide +kernel
theorem x_86_2 : decode (q_code 86) 2 = .ok (.invokevirtual 45, 3) := by decide +kernel
theorem x_86_5 : decode (q_code 86) 5 = .ok (.aload_n 0, 1) := by decide +kernel
theorem x_86_6 : decode (q_code 86) 6 = .ok (.iload_n 1, 1) := by decide +kernel
theorem x_86_7 : decode (q_code 86) 7 = .ok (.aload_n 0, 1) := by decide +kernel
theorem x_86_8 : decode (q_code 86) 8 = .ok (.getfield 15, 3) := by decide +kernel
theorem x_86_11 : decode (q_code 86) 11 = .ok (.iload_n 1, 1) := by decide +kernel
theorem x_86_12 : decode (q_code 86) 12 = .ok (.isub, 1) := by decide +kernel
theorem x_86_13 : decode (q_code 86) 13 = .ok (.invokevirtual 72, 3) := by decide +kernel
theorem x_86_16 : decode (q_code 86) 16 = .ok (.return_, 1) := by decide +kernel
theorem x_87_0 : decode (q_code 87) 0 = .ok (.aload_n 0, 1) := by decide +kernel
theorem x_87_1 : decode (q_code 87) 1 = .ok (.bipush 16, 2) := by decide +kernel
theorem x_87_3 : decode (q_code 87) 3 = .ok (.aload_n 1, 1) := by decide +kernel
theorem x_87_4 : decode (q_code 87) 4 = .ok (.invokevirtual 76, 3) := by decide +kernel
theorem x_87_7 : decode (q_code 87) 7 = .ok (.aload_n 0, 1) := by decide +kernel
theorem x_87_8 : decode (q_code 87) 8 = .ok (.iload_n 2, 1) := by decide +kernel
theorem x_87_9 : decode (q_code 87) 9 = .ok (.invokevirtual 35, 3) := by decide +kernel
theorem x_87_12 : decode (q_code 87) 12 = .ok (.return_, 1) := by decide +kernel
theorem x_88_0 : decode (q_code 88) 0 = .ok (.aload_n 0, 1) := by decide +kernel
theorem x_88_1 : decode (q_code 88) 1 = .ok (.bipush 8, 2) := by decide +kernel
theorem x_88_3 : decode (q_code 88) 3 = .ok (.aload_n 1, 1) := by decide +kernel
theorem x_88_4 : decode (q_code 88) 4 = .ok (.invokevirtual 76, 3) := by decide +kernel
theorem x_88_7 : decode (q_code 88) 7 = .ok (.aload_n 0, 1) := by decide +kernel
theorem x_88_8 : decode (q_code 88) 8 = .ok (.iload_n 2, 1) := by decide +kernel
theorem x_88_9 : decode (q_code 88) 9 = .ok (.ifCond .eq 7, 3) := by decide +kernel
theorem x_88_12 : decode (q_code 88) 12 = .ok (.iconst 1, 1) := by decide +kernel
theorem x_88_13 : decode (q_code 88) 13 = .ok (.goto 4, 3) := by decide +kernel
theorem x_88_16 : decode (q_code 88) 16 = .ok (.iconst 0, 1) := by decide +kernel
theorem x_88_17 : decode (q_code 88) 17 = .ok (.invokevirtual 45, 3) := by decide +kernel
theorem x_88_20 : decode (q_code 88) 20 = .ok (.return_, 1) := by decide +kernel
theorem m_X4_start {d : Nat} {M : g_M} {Q : g_M → Prop} {a0 : Nat} {v1 : Int} (hv1 : g_InR v1) {v2 : Int} (hv2 : g_InR v2) (h : g_ok M → g_O M a0 4 ∧ (∀ M2, M2 = g_wi M a0 1 (max v1 0) → g_ok M2 → ∃ b6, g_r M2 a0 0 = some b6 ∧ ∃ n8, g_A M2 b6 0 n8 ∧ g_InR n8 ∧ (∀ M11, M11 = g_wi M2 a0 2 (min v2 n8) → g_ok M11 → (∀ M15, M15 = g_wi M11 a0 3 0 → g_ok M15 → Q M15)))) : g_Call (d + 1) 75 [.ref a0, g_n v1, g_n v2] M (g_qV Q) := by
  refine g_Call.ok fun hok0 => ?_
  replace h := h hok0
  refine r_body rfl (lv := [(0, .ref a0), (1, g_n v1), (2, g_n v2)]) rfl ?_
  refine g_Run.ok fun hok => ?_
  refine r_aload_n x_75_0 rfl ?_
  refine r_iload_n x_75_1 rfl ?_
  refine r_iconst x_75_2 ?_
  refine r_max x_75_3 rfl rfl rfl rfl hv1 (g_Rk rfl) ?_
  obtain ⟨hO1, h⟩ := h
  refine r_putI x_75_6 (ci := 4) (k := 1) (ns := 0) (by decide +kernel) (by decide) (g_f0 (by decide +kernel)) rfl (g_max_R hv1 (g_Rk rfl)) trivial (kz := 1) rfl hO1 ?_
  obtain ⟨M2, hM3⟩ : ∃ Mz, Mz = g_wi M a0 1 (max v1 0) := ⟨_, rfl⟩
  rw [← hM3]
  refine g_Run.ok fun hok4 => ?_
  replace h := h M2 hM3 hok4
  have hx5 := g_extW hM3
  replace hO1 := hO1.up hx5
  refine r_aload_n x_75_9 rfl ?_
  refine r_iload_n x_75_10 rfl ?_
  refine r_aload_n x_75_11 rfl ?_
  obtain ⟨b6, hb7, h⟩ := h
  refine r_getR x_75_12 rfl (ci := 4) (k := 0) (ns := 0) (by decide +kernel) (by decide) rfl (kz := 0) rfl hO1 hb7 ?_
  obtain ⟨n8, hA9, h⟩ := h
  refine r_alen x_75_15 hA9 ?_
  obtain ⟨h10, h⟩ := h
  refine r_min x_75_16 rfl rfl rfl rfl hv2 h10 ?_
  refine r_putI x_75_19 (ci := 4) (k := 2) (ns := 0) (by decide +kernel) (by decide) (g_f0 (by decide +kernel)) rfl (g_min_R hv2 h10) trivial (kz := 2) rfl hO1 ?_
  obtain ⟨M11, hM12⟩ : ∃ Mz, Mz = g_wi M2 a0 2 (min v2 n8) := ⟨_, rfl⟩
  rw [← hM12]
  refine g_Run.ok fun hok13 => ?_
  replace h := h M11 hM12 hok13
  have hx14 := g_extW hM12
  replace hO1 := hO1.up hx14
  replace hA9 := hA9.up hx14
  refine r_aload_n x_75_22 rfl ?_
  refine r_iconst x_75_23 ?_
  refine r_putI x_75_24 (ci := 4) (k := 3) (ns := 0) (by decide +kernel) (by decide) (g_fZ (Or.inl rfl) (by decide +kernel)) rfl (g_Rk rfl) (g_zx (Or.inl rfl) rfl).2 (kz := 3) rfl hO1 ?_
  obtain ⟨M15, hM16⟩ : ∃ Mz, Mz = g_wi M11 a0 3 0 := ⟨_, rfl⟩
  rw [← hM16]
  refine g_Run.ok fun hok17 => ?_
  replace h := h M15 hM16 hok17
  have hx18 := g_extW hM16
  replace hO1 := hO1.up hx18
  replace hA9 := hA9.up hx18
  exact r_retV x_75_27 rfl h
theorem m_X4_put {d : Nat} {M : g_M} {Q : g_M → Prop} {a0 : Nat} {v1 : Int} (hv1 : g_InR v1) (h : g_ok M → g_O M a0 4 ∧ ((g_i M a0 1 < g_i M a0 2 → ∃ b6, g_r M a0 0 = some b6 ∧ ∃ n8, g_A M b6 0 n8 ∧ g_InR n8 ∧ ((g_i M a0 1 < n8 → ∃ b15, g_r M a0 0 = some b15 ∧ ∃ n17, g_A M b15 0 n17 ∧ ((0 : Int) ≤ g_i M a0 1 ∧ (g_i M a0 1 : Int) < n17) ∧ (∀ M20, M20 = g_wi M b15 (g_i M a0 1) (g_w8 (g_w8 v1)) → g_ok M20 → g_InR ((g_i M20 a0 1) + 1) ∧ (∀ M25, M25 = g_wi M20 a0 1 ((g_i M20 a0 1) + 1) → g_ok M25 → Q M25))) ∧ (¬ g_i M a0 1 < n8 → (∀ M11, M11 = g_wi M a0 3 1 → g_ok M11 → Q M11)))) ∧ (¬ g_i M a0 1 < g_i M a0 2 → (∀ M2, M2 = g_wi M a0 3 1 → g_ok M2 → Q M2)))) : g_Call (d + 1) 76 [.ref a0, g_n v1] M (g_qV Q) := by
  refine g_Call.ok fun hok0 => ?_
  replace h := h hok0
  refine r_body rfl (lv := [(0, .ref a0), (1, g_n v1)]) rfl ?_
  refine g_Run.ok fun hok => ?_
  refine r_aload_n x_76_0 rfl ?_
  obtain ⟨hO1, h⟩ := h
  refine r_getI x_76_1 rfl (ci := 4) (k := 1) (ns := 0) (by decide +kernel) (by decide) rfl (kz := 1) rfl hO1 ?_
  refine r_aload_n x_76_4 rfl ?_
  refine r_getI x_76_5 rfl (ci := 4) (k := 2) (ns := 0) (by decide +kernel) (by decide) rfl (kz := 2) rfl hO1 ?_
  refine r_ic_ge x_76_8 (t := 47) (by decide +kernel) (hok.1 _ _) (hok.1 _ _) (fun hc => ?_) (fun hc => ?_)
  · replace h := h.2 hc
    refine r_aload_n x_76_47 rfl ?_
    refine r_iconst x_76_48 ?_
    refine r_putI x_76_49 (ci := 4) (k := 3) (ns := 0) (by decide +kernel) (by decide) (g_fZ (Or.inr rfl) (by decide +kernel)) rfl (g_Rk rfl) (g_zx (Or.inr rfl) rfl).2 (kz := 3) rfl hO1 ?_
    obtain ⟨M2, hM3⟩ : ∃ Mz, Mz = g_wi M a0 3 1 := ⟨_, rfl⟩
    rw [← hM3]
    refine g_Run.ok fun hok4 => ?_
    replace h := h M2 hM3 hok4
    have hx5 := g_extW hM3
    replace hO1 := hO1.up hx5
    exact r_retV x_76_52 rfl h
  · replace h := h.1 hc
    refine r_aload_n x_76_11 rfl ?_
    refine r_getI x_76_12 rfl (ci := 4) (k := 1) (ns := 0) (by decide +kernel) (by decide) rfl (kz := 1) rfl hO1 ?_
    refine r_aload_n x_76_15 rfl ?_
    obtain ⟨b6, hb7, h⟩ := h
    refine r_getR x_76_16 rfl (ci := 4) (k := 0) (ns := 0) (by decide +kernel) (by decide) rfl (kz := 0) rfl hO1 hb7 ?_
    obtain ⟨n8, hA9, h⟩ := h
    refine r_alen x_76_19 hA9 ?_
    obtain ⟨h10, h⟩ := h
    refine r_ic_ge x_76_20 (t := 47) (by decide +kernel) (hok.1 _ _) h10 (fun hc => ?_) (fun hc => ?_)
    · replace h := h.2 hc
      refine r_aload_n x_76_47 rfl ?_
      refine r_iconst x_76_48 ?_
      refine r_putI x_76_49 (ci := 4) (k := 3) (ns := 0) (by decide +kernel) (by decide) (g_fZ (Or.inr rfl) (by decide +kernel)) rfl (g_Rk rfl) (g_zx (Or.inr rfl) rfl).2 (kz := 3) rfl hO1 ?_
      obtain ⟨M11, hM12⟩ : ∃ Mz, Mz = g_wi M a0 3 1 := ⟨_, rfl⟩
      rw [← hM12]
      refine g_Run.ok fun hok13 => ?_
      replace h := h M11 hM12 hok13
      have hx14 := g_extW hM12
      replace hO1 := hO1.up hx14
      replace hA9 := hA9.up hx14
      exact r_retV x_76_52 rfl h
    · replace h := h.1 hc
      refine r_aload_n x_76_23 rfl ?_
      obtain ⟨b15, hb16, h⟩ := h
      refine r_getR x_76_24 rfl (ci := 4) (k := 0) (ns := 0) (by decide +kernel) (by decide) rfl (kz := 0) rfl hO1 hb16 ?_
      refine r_aload_n x_76_27 rfl ?_
      refine r_getI x_76_28 rfl (ci := 4) (k := 1) (ns := 0) (by decide +kernel) (by decide) rfl (kz := 1) rfl hO1 ?_
      refine r_iload_n x_76_31 rfl ?_
      refine r_i2b x_76_32 ?_
      obtain ⟨n17, hA18, h⟩ := h
      obtain ⟨h19, h⟩ := h
      refine r_bast0 x_76_33 hA18 (hok.1 _ _) h19.1 h19.2 ?_
      obtain ⟨M20, hM21⟩ : ∃ Mz, Mz = g_wi M b15 (g_i M a0 1) (g_w8 (g_w8 v1)) := ⟨_, rfl⟩
      rw [← hM21]
      refine g_Run.ok fun hok22 => ?_
      replace h := h M20 hM21 hok22
      have hx23 := g_extW hM21
      replace hO1 := hO1.up hx23
      replace hA9 := hA9.up hx23
      replace hA18 := hA18.up hx23
      refine r_aload_n x_76_34 rfl ?_
      refine r_dup x_76_35 rfl ?_
      refine r_getI x_76_36 rfl (ci := 4) (k := 1) (ns := 0) (by decide +kernel) (by decide) rfl (kz := 1) rfl hO1 ?_
      refine r_iconst x_76_39 ?_
      refine r_iadd x_76_40 ?_
      obtain ⟨h24, h⟩ := h
      refine r_putI x_76_41 (ci := 4) (k := 1) (ns := 0) (by decide +kernel) (by decide) (g_f0 (by decide +kernel)) rfl h24 trivial (kz := 1) rfl hO1 ?_
      obtain ⟨M25, hM26⟩ : ∃ Mz, Mz = g_wi M20 a0 1 ((g_i M20 a0 1) + 1) := ⟨_, rfl⟩
      rw [← hM26]
      refine g_Run.ok fun hok27 => ?_
      replace h := h M25 hM26 hok27
      have hx28 := g_extW hM26
      replace hO1 := hO1.up hx28
      replace hA9 := hA9.up hx28
      replace hA18 := hA18.up hx28
      refine r_goto x_76_44 (t := 52) (by decide +kernel) ?_
      exact r_retV x_76_52 rfl h
theorem m_X4_put4 {d : Nat} {M : g_M} {Q : g_M → Prop} {a0 : Nat} {v1 : Int} (hv1 : g_InR v1) (h : g_ok M → g_O M a0 4 ∧ g_InR ((g_i M a0 1) + 4) ∧ ((g_i M a0 2 < (g_i M a0 1) + 4 → (∀ M3, M3 = g_wi M a0 3 1 → g_ok M3 → Q M3)) ∧ (¬ g_i M a0 2 < (g_i M a0 1) + 4 → g_InR ((g_i M a0 1) + 4) ∧ ∃ b8, g_r M a0 0 = some b8 ∧ ∃ n10, g_A M b8 0 n10 ∧ g_InR n10 ∧ ((n10 < (g_i M a0 1) + 4 → (∀ M13, M13 = g_wi M a0 3 1 → g_ok M13 → Q M13)) ∧ (¬ n10 < (g_i M a0 1) + 4 → g_Run d 77 35 [(0, .ref a0), (1, g_n v1), (2, g_n 0)] [] M (g_qV Q)))))) : g_Call (d + 1) 77 [.ref a0, g_n v1] M (g_qV Q) := by
  refine g_Call.ok fun hok0 => ?_
  replace h := h hok0
  refine r_body rfl (lv := [(0, .ref a0), (1, g_n v1)]) rfl ?_
  refine g_Run.ok fun hok => ?_
  refine r_aload_n x_77_0 rfl ?_
  obtain ⟨hO1, h⟩ := h
  refine r_getI x_77_1 rfl (ci := 4) (k := 1) (ns := 0) (by decide +kernel) (by decide) rfl (kz := 1) rfl hO1 ?_
  refine r_iconst x_77_4 ?_
  refine r_iadd x_77_5 ?_
  obtain ⟨h2, h⟩ := h
  refine r_aload_n x_77_6 rfl ?_
  refine r_getI x_77_7 rfl (ci := 4) (k := 2) (ns := 0) (by decide +kernel) (by decide) rfl (kz := 2) rfl hO1 ?_
  refine r_ic_gt x_77_10 (t := 27) (by decide +kernel) h2 (hok.1 _ _) (fun hc => ?_) (fun hc => ?_)
  · replace h := h.1 hc
    refine r_aload_n x_77_27 rfl ?_
    refine r_iconst x_77_28 ?_
    refine r_putI x_77_29 (ci := 4) (k := 3) (ns := 0) (by decide +kernel) (by decide) (g_fZ (Or.inr rfl) (by decide +kernel)) rfl (g_Rk rfl) (g_zx (Or.inr rfl) rfl).2 (kz := 3) rfl hO1 ?_
    obtain ⟨M3, hM4⟩ : ∃ Mz, Mz = g_wi M a0 3 1 := ⟨_, rfl⟩
    rw [← hM4]
    refine g_Run.ok fun hok5 => ?_
    replace h := h M3 hM4 hok5
    have hx6 := g_extW hM4
    replace hO1 := hO1.up hx6
    exact r_retV x_77_32 rfl h
  · replace h := h.2 hc
    refine r_aload_n x_77_13 rfl ?_
    refine r_getI x_77_14 rfl (ci := 4) (k := 1) (ns := 0) (by decide +kernel) (by decide) rfl (kz := 1) rfl hO1 ?_
    refine r_iconst x_77_17 ?_
    refine r_iadd x_77_18 ?_
    obtain ⟨h7, h⟩ := h
    refine r_aload_n x_77_19 rfl ?_
    obtain ⟨b8, hb9, h⟩ := h
    refine r_getR x_77_20 rfl (ci := 4) (k := 0) (ns := 0) (by decide +kernel) (by decide) rfl (kz := 0) rfl hO1 hb9 ?_
    obtain ⟨n10, hA11, h⟩ := h
    refine r_alen x_77_23 hA11 ?_
    obtain ⟨h12, h⟩ := h
    refine r_ic_le x_77_24 (t := 33) (by decide +kernel) h7 h12 (fun hc => ?_) (fun hc => ?_)
    · replace h := h.2 hc
      refine r_iconst x_77_33 ?_
      refine r_istore_n x_77_34 (by decide +kernel) rfl (lv1 := [(0, .ref a0), (1, g_n v1), (2, g_n 0)]) rfl ?_
      exact h
    · replace h := h.1 hc
      refine r_aload_n x_77_27 rfl ?_
      refine r_iconst x_77_28 ?_
      refine r_putI x_77_29 (ci := 4) (k := 3) (ns := 0) (by decide +kernel) (by decide) (g_fZ (Or.inr rfl) (by decide +kernel)) rfl (g_Rk rfl) (g_zx (Or.inr rfl) rfl).2 (kz := 3) rfl hO1 ?_
      obtain ⟨M13, hM14⟩ : ∃ Mz, Mz = g_wi M a0 3 1 := ⟨_, rfl⟩
      rw [← hM14]
      refine g_Run.ok fun hok15 => ?_
      replace h := h M13 hM14 hok15
      have hx16 := g_extW hM14
      replace hO1 := hO1.up hx16
      replace hA11 := hA11.up hx16
      exact r_retV x_77_32 rfl h
theorem s_X4_put4_35 {d : Nat} {M : g_M} {Q : g_M → Prop} {a0 : Nat} {v1 : Int} (hv1 : g_InR v1) {v2 : Int} (hv2 : g_InR v2) (h : g_ok M → ((v2 < 4 → g_O M a0 4 ∧ ∃ b2, g_r M a0 0 = some b2 ∧ g_InR (8 * v2) ∧ ∃ n5, g_A M b2 0 n5 ∧ ((0 : Int) ≤ g_i M a0 1 ∧ (g_i M a0 1 : Int) < n5) ∧ (∀ M8, M8 = g_wi M b2 (g_i M a0 1) (g_w8 (g_w8 (g_shr v1 (8 * v2)))) → g_ok M8 → g_InR ((g_i M8 a0 1) + 1) ∧ (∀ M13, M13 = g_wi M8 a0 1 ((g_i M8 a0 1) + 1) → g_ok M13 → g_InR (v2 + 1) ∧ g_Run d 77 35 [(0, .ref a0), (1, g_n v1), (2, g_n (v2 + 1))] [] M13 (g_qV Q)))) ∧ (¬ v2 < 4 → Q M))) : g_Run d 77 35 [(0, .ref a0), (1, g_n v1), (2, g_n v2)] [] M (g_qV Q) := by
  refine g_Run.ok fun hok => ?_
  replace h := h hok
  refine r_iload_n x_77_35 rfl ?_
  refine r_iconst x_77_36 ?_
  refine r_ic_ge x_77_37 (t := 72) (by decide +kernel) hv2 (g_Rk rfl) (fun hc => ?_) (fun hc => ?_)
  · replace h := h.2 hc
    exact r_retV x_77_72 rfl h
  · replace h := h.1 hc
    refine r_aload_n x_77_40 rfl ?_
    obtain ⟨hO1, h⟩ := h
    obtain ⟨b2, hb3, h⟩ := h
    refine r_getR x_77_41 rfl (ci := 4) (k := 0) (ns := 0) (by decide +kernel) (by decide) rfl (kz := 0) rfl hO1 hb3 ?_
    refine r_aload_n x_77_44 rfl ?_
    refine r_getI x_77_45 rfl (ci := 4) (k := 1) (ns := 0) (by decide +kernel) (by decide) rfl (kz := 1) rfl hO1 ?_
    refine r_iload_n x_77_48 rfl ?_
    refine r_bipush x_77_49 (x := 8) rfl ?_
    refine r_iload_n x_77_51 rfl ?_
    refine r_imul x_77_52 ?_
    obtain ⟨h4, h⟩ := h
    refine r_ishr x_77_53 ?_
    refine r_i2b x_77_54 ?_
    obtain ⟨n5, hA6, h⟩ := h
    obtain ⟨h7, h⟩ := h
    refine r_bast0 x_77_55 hA6 (hok.1 _ _) h7.1 h7.2 ?_
    obtain ⟨M8, hM9⟩ : ∃ Mz, Mz = g_wi M b2 (g_i M a0 1) (g_w8 (g_w8 (g_shr v1 (8 * v2)))) := ⟨_, rfl⟩
    rw [← hM9]
    refine g_Run.ok fun hok10 => ?_
    replace h := h M8 hM9 hok10
    have hx11 := g_extW hM9
    replace hO1 := hO1.up hx11
    replace hA6 := hA6.up hx11
    refine r_aload_n x_77_56 rfl ?_
    refine r_dup x_77_57 rfl ?_
    refine r_getI x_77_58 rfl (ci := 4) (k := 1) (ns := 0) (by decide +kernel) (by decide) rfl (kz := 1) rfl hO1 ?_
    refine r_iconst x_77_61 ?_
    refine r_iadd x_77_62 ?_
    obtain ⟨h12, h⟩ := h
    refine r_putI x_77_63 (ci := 4) (k := 1) (ns := 0) (by decide +kernel) (by decide) (g_f0 (by decide +kernel)) rfl h12 trivial (kz := 1) rfl hO1 ?_
    obtain ⟨M13, hM14⟩ : ∃ Mz, Mz = g_wi M8 a0 1 ((g_i M8 a0 1) + 1) := ⟨_, rfl⟩
    rw [← hM14]
    refine g_Run.ok fun hok15 => ?_
    replace h := h M13 hM14 hok15
    have hx16 := g_extW hM14
    replace hO1 := hO1.up hx16
    replace hA6 := hA6.up hx16
    obtain ⟨h17, h⟩ := h
    refine r_iinc x_77_66 (by decide +kernel) rfl rfl (lv1 := [(0, .ref a0), (1, g_n v1), (2, g_n (v2 + 1))]) rfl ?_
    refine r_goto x_77_69 (t := 35) (by decide +kernel) ?_
    exact h
theorem m_X4_put8 {d : Nat} {M : g_M} {Q : g_M → Prop} {a0 : Nat} {V1 : Int64} (h : g_ok M → g_O M a0 4 ∧ g_Call d 77 [.ref a0, g_n V1.toInt32.toInt] M (g_qV fun M2 => g_ext M M2 → g_ok M2 → g_Call d 77 [.ref a0, g_n ((V1 >>> ((Int32.ofInt 32).toInt64 &&& 63)).toInt32.toInt)] M2 (g_qV fun M5 => g_ext M2 M5 → g_ok M5 → Q M5))) : g_Call (d + 1) 78 [.ref a0, .long V1] M (g_qV Q) := by
  refine g_Call.ok fun hok0 => ?_
  replace h := h hok0
  refine r_body rfl (lv := [(0, .ref a0), (1, .long V1)]) rfl ?_
  refine g_Run.ok fun hok => ?_
  refine r_aload_n x_78_0 rfl ?_
  refine r_lload_n x_78_1 rfl ?_
  refine r_l2i x_78_2 ?_
  obtain ⟨hO1, h⟩ := h
  refine r_invV x_78_3 (z := 77) (ns := 0) (by decide +kernel) (as := [g_n V1.toInt32.toInt]) (r := []) rfl rfl rfl hO1 rfl rfl ?_
  refine r_callV h fun M2 hx3 hok4 h => ?_
  replace h := h hx3 hok4
  replace hO1 := hO1.up hx3
  refine r_aload_n x_78_6 rfl ?_
  refine r_lload_n x_78_7 rfl ?_
  refine r_bipush x_78_8 (x := 32) rfl ?_
  refine r_lshr x_78_10 ?_
  refine r_l2i x_78_11 ?_
  refine r_invV x_78_12 (z := 77) (ns := 0) (by decide +kernel) (as := [g_n ((V1 >>> ((Int32.ofInt 32).toInt64 &&& 63)).toInt32.toInt)]) (r := []) rfl rfl rfl hO1 rfl rfl ?_
  refine r_callV h fun M5 hx6 hok7 h => ?_
  replace h := h hx6 hok7
  replace hO1 := hO1.up hx6
  exact r_retV x_78_15 rfl h
theorem m_X4_patch {d : Nat} {M : g_M} {Q : g_M → Prop} {a0 : Nat} {v1 : Int} (hv1 : g_InR v1) {v2 : Int} (hv2 : g_InR v2) (h : g_ok M → ((v1 < 0 → g_O M a0 4 ∧ (∀ M2, M2 = g_wi M a0 3 1 → g_ok M2 → Q M2)) ∧ (¬ v1 < 0 → g_InR (v1 + 4) ∧ g_O M a0 4 ∧ ((g_i M a0 2 < v1 + 4 → (∀ M8, M8 = g_wi M a0 3 1 → g_ok M8 → Q M8)) ∧ (¬ g_i M a0 2 < v1 + 4 → g_InR (v1 + 4) ∧ ∃ b13, g_r M a0 0 = some b13 ∧ ∃ n15, g_A M b13 0 n15 ∧ g_InR n15 ∧ ((n15 < v1 + 4 → (∀ M57, M57 = g_wi M a0 3 1 → g_ok M57 → Q M57)) ∧ (¬ n15 < v1 + 4 → ∃ b18, g_r M a0 0 = some b18 ∧ ∃ n20, g_A M b18 0 n20 ∧ ((0 : Int) ≤ v1 ∧ (v1 : Int) < n20) ∧ (∀ M23, M23 = g_wi M b18 v1 (g_w8 (g_w8 v2)) → g_ok M23 → ∃ b27, g_r M23 a0 0 = some b27 ∧ g_InR (v1 + 1) ∧ ∃ n30, g_A M23 b27 0 n30 ∧ ((0 : Int) ≤ v1 + 1 ∧ (v1 + 1 : Int) < n30) ∧ (∀ M33, M33 = g_wi M23 b27 (v1 + 1) (g_w8 (g_w8 (g_shr v2 8))) → g_ok M33 → ∃ b37, g_r M33 a0 0 = some b37 ∧ g_InR (v1 + 2) ∧ ∃ n40, g_A M33 b37 0 n40 ∧ ((0 : Int) ≤ v1 + 2 ∧ (v1 + 2 : Int) < n40) ∧ (∀ M43, M43 = g_wi M33 b37 (v1 + 2) (g_w8 (g_w8 (g_shr v2 16))) → g_ok M43 → ∃ b47, g_r M43 a0 0 = some b47 ∧ g_InR (v1 + 3) ∧ ∃ n50, g_A M43 b47 0 n50 ∧ ((0 : Int) ≤ v1 + 3 ∧ (v1 + 3 : Int) < n50) ∧ (∀ M53, M53 = g_wi M43 b47 (v1 + 3) (g_w8 (g_w8 (g_shr v2 24))) → g_ok M53 → Q M53))))))))))) : g_Call (d + 1) 79 [.ref a0, g_n v1, g_n v2] M (g_qV Q) := by
  refine g_Call.ok fun hok0 => ?_
  replace h := h hok0
  refine r_body rfl (lv := [(0, .ref a0), (1, g_n v1), (2, g_n v2)]) rfl ?_
  refine g_Run.ok fun hok => ?_
  refine r_iload_n x_79_0 rfl ?_
  refine r_if_lt x_79_1 (t := 25) (by decide +kernel) hv1 (fun hc => ?_) (fun hc => ?_)
  · replace h := h.1 hc
    refine r_aload_n x_79_25 rfl ?_
    refine r_iconst x_79_26 ?_
    obtain ⟨hO1, h⟩ := h
    refine r_putI x_79_27 (ci := 4) (k := 3) (ns := 0) (by decide +kernel) (by decide) (g_fZ (Or.inr rfl) (by decide +kernel)) rfl (g_Rk rfl) (g_zx (Or.inr rfl) rfl).2 (kz := 3) rfl hO1 ?_
    obtain ⟨M2, hM3⟩ : ∃ Mz, Mz = g_wi M a0 3 1 := ⟨_, rfl⟩
    rw [← hM3]
    refine g_Run.ok fun hok4 => ?_
    replace h := h M2 hM3 hok4
    have hx5 := g_extW hM3
    replace hO1 := hO1.up hx5
    exact r_retV x_79_30 rfl h
  · replace h := h.2 hc
    refine r_iload_n x_79_4 rfl ?_
    refine r_iconst x_79_5 ?_
    refine r_iadd x_79_6 ?_
    obtain ⟨h6, h⟩ := h
    refine r_aload_n x_79_7 rfl ?_
    obtain ⟨hO7, h⟩ := h
    refine r_getI x_79_8 rfl (ci := 4) (k := 2) (ns := 0) (by decide +kernel) (by decide) rfl (kz := 2) rfl hO7 ?_
    refine r_ic_gt x_79_11 (t := 25) (by decide +kernel) h6 (hok.1 _ _) (fun hc => ?_) (fun hc => ?_)
    · replace h := h.1 hc
      refine r_aload_n x_79_25 rfl ?_
      refine r_iconst x_79_26 ?_
      refine r_putI x_79_27 (ci := 4) (k := 3) (ns := 0) (by decide +kernel) (by decide) (g_fZ (Or.inr rfl) (by decide +kernel)) rfl (g_Rk rfl) (g_zx (Or.inr rfl) rfl).2 (kz := 3) rfl hO7 ?_
      obtain ⟨M8, hM9⟩ : ∃ Mz, Mz = g_wi M a0 3 1 := ⟨_, rfl⟩
      rw [← hM9]
      refine g_Run.ok fun hok10 => ?_
      replace h := h M8 hM9 hok10
      have hx11 := g_extW hM9
      replace hO7 := hO7.up hx11
      exact r_retV x_79_30 rfl h
    · replace h := h.2 hc
      refine r_iload_n x_79_14 rfl ?_
      refine r_iconst x_79_15 ?_
      refine r_iadd x_79_16 ?_
      obtain ⟨h12, h⟩ := h
      refine r_aload_n x_79_17 rfl ?_
      obtain ⟨b13, hb14, h⟩ := h
      refine r_getR x_79_18 rfl (ci := 4) (k := 0) (ns := 0) (by decide +kernel) (by decide) rfl (kz := 0) rfl hO7 hb14 ?_
      obtain ⟨n15, hA16, h⟩ := h
      refine r_alen x_79_21 hA16 ?_
      obtain ⟨h17, h⟩ := h
      refine r_ic_le x_79_22 (t := 31) (by decide +kernel) h12 h17 (fun hc => ?_) (fun hc => ?_)
      · replace h := h.2 hc
        refine r_aload_n x_79_31 rfl ?_
        obtain ⟨b18, hb19, h⟩ := h
        refine r_getR x_79_32 rfl (ci := 4) (k := 0) (ns := 0) (by decide +kernel) (by decide) rfl (kz := 0) rfl hO7 hb19 ?_
        refine r_iload_n x_79_35 rfl ?_
        refine r_iload_n x_79_36 rfl ?_
        refine r_i2b x_79_37 ?_
        obtain ⟨n20, hA21, h⟩ := h
        obtain ⟨h22, h⟩ := h
        refine r_bast0 x_79_38 hA21 hv1 h22.1 h22.2 ?_
        obtain ⟨M23, hM24⟩ : ∃ Mz, Mz = g_wi M b18 v1 (g_w8 (g_w8 v2)) := ⟨_, rfl⟩
        rw [← hM24]
        refine g_Run.ok fun hok25 => ?_
        replace h := h M23 hM24 hok25
        have hx26 := g_extW hM24
        replace hO7 := hO7.up hx26
        replace hA16 := hA16.up hx26
        replace hA21 := hA21.up hx26
        refine r_aload_n x_79_39 rfl ?_
        obtain ⟨b27, hb28, h⟩ := h
        refine r_getR x_79_40 rfl (ci := 4) (k := 0) (ns := 0) (by decide +kernel) (by decide) rfl (kz := 0) rfl hO7 hb28 ?_
        refine r_iload_n x_79_43 rfl ?_
        refine r_iconst x_79_44 ?_
        refine r_iadd x_79_45 ?_
        obtain ⟨h29, h⟩ := h
        refine r_iload_n x_79_46 rfl ?_
        refine r_bipush x_79_47 (x := 8) rfl ?_
        refine r_ishr x_79_49 ?_
        refine r_i2b x_79_50 ?_
        obtain ⟨n30, hA31, h⟩ := h
        obtain ⟨h32, h⟩ := h
        refine r_bast0 x_79_51 hA31 h29 h32.1 h32.2 ?_
        obtain ⟨M33, hM34⟩ : ∃ Mz, Mz = g_wi M23 b27 (v1 + 1) (g_w8 (g_w8 (g_shr v2 8))) := ⟨_, rfl⟩
        rw [← hM34]
        refine g_Run.ok fun hok35 => ?_
        replace h := h M33 hM34 hok35
        have hx36 := g_extW hM34
        replace hO7 := hO7.up hx36
        replace hA16 := hA16.up hx36
        replace hA21 := hA21.up hx36
        replace hA31 := hA31.up hx36
        refine r_aload_n x_79_52 rfl ?_
        obtain ⟨b37, hb38, h⟩ := h
        refine r_getR x_79_53 rfl (ci := 4) (k := 0) (ns := 0) (by decide +kernel) (by decide) rfl (kz := 0) rfl hO7 hb38 ?_
        refine r_iload_n x_79_56 rfl ?_
        refine r_iconst x_79_57 ?_
        refine r_iadd x_79_58 ?_
        obtain ⟨h39, h⟩ := h
        refine r_iload_n x_79_59 rfl ?_
        refine r_bipush x_79_60 (x := 16) rfl ?_
        refine r_ishr x_79_62 ?_
        refine r_i2b x_79_63 ?_
        obtain ⟨n40, hA41, h⟩ := h
        obtain ⟨h42, h⟩ := h
        refine r_bast0 x_79_64 hA41 h39 h42.1 h42.2 ?_
        obtain ⟨M43, hM44⟩ : ∃ Mz, Mz = g_wi M33 b37 (v1 + 2) (g_w8 (g_w8 (g_shr v2 16))) := ⟨_, rfl⟩
        rw [← hM44]
        refine g_Run.ok fun hok45 => ?_
        replace h := h M43 hM44 hok45
        have hx46 := g_extW hM44
        replace hO7 := hO7.up hx46
        replace hA16 := hA16.up hx46
        replace hA21 := hA21.up hx46
        replace hA31 := hA31.up hx46
        replace hA41 := hA41.up hx46
        refine r_aload_n x_79_65 rfl ?_
        obtain ⟨b47, hb48, h⟩ := h
        refine r_getR x_79_66 rfl (ci := 4) (k := 0) (ns := 0) (by decide +kernel) (by decide) rfl (kz := 0) rfl hO7 hb48 ?_
        refine r_iload_n x_79_69 rfl ?_
        refine r_iconst x_79_70 ?_
        refine r_iadd x_79_71 ?_
        obtain ⟨h49, h⟩ := h
        refine r_iload_n x_79_72 rfl ?_
        refine r_bipush x_79_73 (x := 24) rfl ?_
        refine r_ishr x_79_75 ?_
        refine r_i2b x_79_76 ?_
        obtain ⟨n50, hA51, h⟩ := h
        obtain ⟨h52, h⟩ := h
        refine r_bast0 x_79_77 hA51 h49 h52.1 h52.2 ?_
        obtain ⟨M53, hM54⟩ : ∃ Mz, Mz = g_wi M43 b47 (v1 + 3) (g_w8 (g_w8 (g_shr v2 24))) := ⟨_, rfl⟩
        rw [← hM54]
        refine g_Run.ok fun hok55 => ?_
        replace h := h M53 hM54 hok55
        have hx56 := g_extW hM54
        replace hO7 := hO7.up hx56
        replace hA16 := hA16.up hx56
        replace hA21 := hA21.up hx56
        replace hA31 := hA31.up hx56
        replace hA41 := hA41.up hx56
        replace hA51 := hA51.up hx56
        exact r_retV x_79_78 rfl h
      · replace h := h.1 hc
        refine r_aload_n x_79_25 rfl ?_
        refine r_iconst x_79_26 ?_
        refine r_putI x_79_27 (ci := 4) (k := 3) (ns := 0) (by decide +kernel) (by decide) (g_fZ (Or.inr rfl) (by decide +kernel)) rfl (g_Rk rfl) (g_zx (Or.inr rfl) rfl).2 (kz := 3) rfl hO7 ?_
        obtain ⟨M57, hM58⟩ : ∃ Mz, Mz = g_wi M a0 3 1 := ⟨_, rfl⟩
        rw [← hM58]
        refine g_Run.ok fun hok59 => ?_
        replace h := h M57 hM58 hok59
        have hx60 := g_extW hM58
        replace hO7 := hO7.up hx60
        replace hA16 := hA16.up hx60
        exact r_retV x_79_30 rfl h
theorem m_X4_copy {d : Nat} {M : g_M} {Q : g_M → Prop} {a0 : Nat} {a1 : Nat} {v2 : Int} (hv2 : g_InR v2) {v3 : Int} (hv3 : g_InR v3) (h : g_ok M → ((v2 < 0 → g_O M a0 4 ∧ (∀ M2, M2 = g_wi M a0 3 1 → g_ok M2 → Q M2)) ∧ (¬ v2 < 0 → ((v3 < v2 → g_O M a0 4 ∧ (∀ M7, M7 = g_wi M a0 3 1 → g_ok M7 → Q M7)) ∧ (¬ v3 < v2 → ∃ n11, g_A M a1 0 n11 ∧ g_InR n11 ∧ ((n11 < v3 → g_O M a0 4 ∧ (∀ M15, M15 = g_wi M a0 3 1 → g_ok M15 → Q M15)) ∧ (¬ n11 < v3 → g_O M a0 4 ∧ g_InR ((g_i M a0 1) + v3) ∧ g_InR (((g_i M a0 1) + v3) - v2) ∧ ((g_i M a0 2 < ((g_i M a0 1) + v3) - v2 → (∀ M38, M38 = g_wi M a0 3 1 → g_ok M38 → Q M38)) ∧ (¬ g_i M a0 2 < ((g_i M a0 1) + v3) - v2 → ∃ b22, g_r M a0 0 = some b22 ∧ g_InR (v3 - v2) ∧ ∃ n25, g_A M b22 0 n25 ∧ ((0 : Int) ≤ v2 ∧ (0 : Int) ≤ g_i M a0 1 ∧ (0 : Int) ≤ v3 - v2 ∧ (v2 : Int) + (v3 - v2) ≤ n11 ∧ ((g_i M a0 1) : Int) + (v3 - v2) ≤ n25) ∧ (∀ M28, M28 = g_cp M a1 b22 v2 (g_i M a0 1) (v3 - v2) → g_ok M28 → g_InR (v3 - v2) ∧ g_InR ((g_i M28 a0 1) + (v3 - v2)) ∧ (∀ M34, M34 = g_wi M28 a0 1 ((g_i M28 a0 1) + (v3 - v2)) → g_ok M34 → Q M34))))))))))) : g_Call (d + 1) 80 [.ref a0, .ref a1, g_n v2, g_n v3] M (g_qV Q) := by
  refine g_Call.ok fun hok0 => ?_
  replace h := h hok0
  refine r_body rfl (lv := [(0, .ref a0), (1, .ref a1), (2, g_n v2), (3, g_n v3)]) rfl ?_
  refine g_Run.ok fun hok => ?_
  refine r_iload_n x_80_0 rfl ?_
  refine r_if_lt x_80_1 (t := 30) (by decide +kernel) hv2 (fun hc => ?_) (fun hc => ?_)
  · replace h := h.1 hc
    refine r_aload_n x_80_30 rfl ?_
    refine r_iconst x_80_31 ?_
    obtain ⟨hO1, h⟩ := h
    refine r_putI x_80_32 (ci := 4) (k := 3) (ns := 0) (by decide +kernel) (by decide) (g_fZ (Or.inr rfl) (by decide +kernel)) rfl (g_Rk rfl) (g_zx (Or.inr rfl) rfl).2 (kz := 3) rfl hO1 ?_
    obtain ⟨M2, hM3⟩ : ∃ Mz, Mz = g_wi M a0 3 1 := ⟨_, rfl⟩
    rw [← hM3]
    refine g_Run.ok fun hok4 => ?_
    replace h := h M2 hM3 hok4
    have hx5 := g_extW hM3
    replace hO1 := hO1.up hx5
    exact r_retV x_80_35 rfl h
  · replace h := h.2 hc
    refine r_iload_n x_80_4 rfl ?_
    refine r_iload_n x_80_5 rfl ?_
    refine r_ic_lt x_80_6 (t := 30) (by decide +kernel) hv3 hv2 (fun hc => ?_) (fun hc => ?_)
    · replace h := h.1 hc
      refine r_aload_n x_80_30 rfl ?_
      refine r_iconst x_80_31 ?_
      obtain ⟨hO6, h⟩ := h
      refine r_putI x_80_32 (ci := 4) (k := 3) (ns := 0) (by decide +kernel) (by decide) (g_fZ (Or.inr rfl) (by decide +kernel)) rfl (g_Rk rfl) (g_zx (Or.inr rfl) rfl).2 (kz := 3) rfl hO6 ?_
      obtain ⟨M7, hM8⟩ : ∃ Mz, Mz = g_wi M a0 3 1 := ⟨_, rfl⟩
      rw [← hM8]
      refine g_Run.ok fun hok9 => ?_
      replace h := h M7 hM8 hok9
      have hx10 := g_extW hM8
      replace hO6 := hO6.up hx10
      exact r_retV x_80_35 rfl h
    · replace h := h.2 hc
      refine r_iload_n x_80_9 rfl ?_
      refine r_aload_n x_80_10 rfl ?_
      obtain ⟨n11, hA12, h⟩ := h
      refine r_alen x_80_11 hA12 ?_
      obtain ⟨h13, h⟩ := h
      refine r_ic_gt x_80_12 (t := 30) (by decide +kernel) hv3 h13 (fun hc => ?_) (fun hc => ?_)
      · replace h := h.1 hc
        refine r_aload_n x_80_30 rfl ?_
        refine r_iconst x_80_31 ?_
        obtain ⟨hO14, h⟩ := h
        refine r_putI x_80_32 (ci := 4) (k := 3) (ns := 0) (by decide +kernel) (by decide) (g_fZ (Or.inr rfl) (by decide +kernel)) rfl (g_Rk rfl) (g_zx (Or.inr rfl) rfl).2 (kz := 3) rfl hO14 ?_
        obtain ⟨M15, hM16⟩ : ∃ Mz, Mz = g_wi M a0 3 1 := ⟨_, rfl⟩
        rw [← hM16]
        refine g_Run.ok fun hok17 => ?_
        replace h := h M15 hM16 hok17
        have hx18 := g_extW hM16
        replace hO14 := hO14.up hx18
        replace hA12 := hA12.up hx18
        exact r_retV x_80_35 rfl h
      · replace h := h.2 hc
        refine r_aload_n x_80_15 rfl ?_
        obtain ⟨hO19, h⟩ := h
        refine r_getI x_80_16 rfl (ci := 4) (k := 1) (ns := 0) (by decide +kernel) (by decide) rfl (kz := 1) rfl hO19 ?_
        refine r_iload_n x_80_19 rfl ?_
        refine r_iadd x_80_20 ?_
        obtain ⟨h20, h⟩ := h
        refine r_iload_n x_80_21 rfl ?_
        refine r_isub x_80_22 ?_
        obtain ⟨h21, h⟩ := h
        refine r_aload_n x_80_23 rfl ?_
        refine r_getI x_80_24 rfl (ci := 4) (k := 2) (ns := 0) (by decide +kernel) (by decide) rfl (kz := 2) rfl hO19 ?_
        refine r_ic_le x_80_27 (t := 36) (by decide +kernel) h21 (hok.1 _ _) (fun hc => ?_) (fun hc => ?_)
        · replace h := h.2 hc
          refine r_aload_n x_80_36 rfl ?_
          refine r_iload_n x_80_37 rfl ?_
          refine r_aload_n x_80_38 rfl ?_
          obtain ⟨b22, hb23, h⟩ := h
          refine r_getR x_80_39 rfl (ci := 4) (k := 0) (ns := 0) (by decide +kernel) (by decide) rfl (kz := 0) rfl hO19 hb23 ?_
          refine r_aload_n x_80_42 rfl ?_
          refine r_getI x_80_43 rfl (ci := 4) (k := 1) (ns := 0) (by decide +kernel) (by decide) rfl (kz := 1) rfl hO19 ?_
          refine r_iload_n x_80_46 rfl ?_
          refine r_iload_n x_80_47 rfl ?_
          refine r_isub x_80_48 ?_
          obtain ⟨h24, h⟩ := h
          obtain ⟨n25, hA26, h⟩ := h
          obtain ⟨h27, h⟩ := h
          refine r_copy x_80_49 rfl rfl rfl rfl rfl rfl (by decide) hA12 hA26 hv2 (hok.1 _ _) h24 h27.1 h27.2.1 h27.2.2.1 h27.2.2.2.1 h27.2.2.2.2 ?_
          obtain ⟨M28, hM29⟩ : ∃ Mz, Mz = g_cp M a1 b22 v2 (g_i M a0 1) (v3 - v2) := ⟨_, rfl⟩
          rw [← hM29]
          refine g_Run.ok fun hok30 => ?_
          replace h := h M28 hM29 hok30
          have hx31 := g_extC hM29
          replace hO19 := hO19.up hx31
          replace hA12 := hA12.up hx31
          replace hA26 := hA26.up hx31
          refine r_aload_n x_80_52 rfl ?_
          refine r_dup x_80_53 rfl ?_
          refine r_getI x_80_54 rfl (ci := 4) (k := 1) (ns := 0) (by decide +kernel) (by decide) rfl (kz := 1) rfl hO19 ?_
          refine r_iload_n x_80_57 rfl ?_
          refine r_iload_n x_80_58 rfl ?_
          refine r_isub x_80_59 ?_
          obtain ⟨h32, h⟩ := h
          refine r_iadd x_80_60 ?_
          obtain ⟨h33, h⟩ := h
          refine r_putI x_80_61 (ci := 4) (k := 1) (ns := 0) (by decide +kernel) (by decide) (g_f0 (by decide +kernel)) rfl h33 trivial (kz := 1) rfl hO19 ?_
          obtain ⟨M34, hM35⟩ : ∃ Mz, Mz = g_wi M28 a0 1 ((g_i M28 a0 1) + (v3 - v2)) := ⟨_, rfl⟩
          rw [← hM35]
          refine g_Run.ok fun hok36 => ?_
          replace h := h M34 hM35 hok36
          have hx37 := g_extW hM35
          replace hO19 := hO19.up hx37
          replace hA12 := hA12.up hx37
          replace hA26 := hA26.up hx37
          exact r_retV x_80_64 rfl h
        · replace h := h.1 hc
          refine r_aload_n x_80_30 rfl ?_
          refine r_iconst x_80_31 ?_
          refine r_putI x_80_32 (ci := 4) (k := 3) (ns := 0) (by decide +kernel) (by decide) (g_fZ (Or.inr rfl) (by decide +kernel)) rfl (g_Rk rfl) (g_zx (Or.inr rfl) rfl).2 (kz := 3) rfl hO19 ?_
          obtain ⟨M38, hM39⟩ : ∃ Mz, Mz = g_wi M a0 3 1 := ⟨_, rfl⟩
          rw [← hM39]
          refine g_Run.ok fun hok40 => ?_
          replace h := h M38 hM39 hok40
          have hx41 := g_extW hM39
          replace hO19 := hO19.up hx41
          replace hA12 := hA12.up hx41
          exact r_retV x_80_35 rfl h
theorem m_X4_head {d : Nat} {M : g_M} {Q : g_M → Prop} {a0 : Nat} {v1 : Int} (hv1 : g_InR v1) {j2 : Nat} (hj2 : j2 < q_nS) (h : g_ok M → g_O M a0 4 ∧ g_Call d 76 [.ref a0, g_n v1] M (g_qV fun M2 => g_ext M M2 → g_ok M2 → g_Run d 81 7 [(0, .ref a0), (1, g_n v1), (2, .ref (4 * j2 + 1)), (3, g_n 0)] [] M2 (g_qV Q))) : g_Call (d + 1) 81 [.ref a0, g_n v1, .ref (4 * j2 + 1)] M (g_qV Q) := by
  refine g_Call.ok fun hok0 => ?_
  replace h := h hok0
  refine r_body rfl (lv := [(0, .ref a0), (1, g_n v1), (2, .ref (4 * j2 + 1))]) rfl ?_
  refine g_Run.ok fun hok => ?_
  refine r_aload_n x_81_0 rfl ?_
  refine r_iload_n x_81_1 rfl ?_
  obtain ⟨hO1, h⟩ := h
  refine r_invV x_81_2 (z := 76) (ns := 0) (by decide +kernel) (as := [g_n v1]) (r := []) rfl rfl rfl hO1 rfl rfl ?_
  refine r_callV h fun M2 hx3 hok4 h => ?_
  replace h := h hx3 hok4
  replace hO1 := hO1.up hx3
  refine r_iconst x_81_5 ?_
  refine r_istore_n x_81_6 (by decide +kernel) rfl (lv1 := [(0, .ref a0), (1, g_n v1), (2, .ref (4 * j2 + 1)), (3, g_n 0)]) rfl ?_
  exact h
theorem s_X4_head_7 {d : Nat} {M : g_M} {Q : g_M → Prop} {a0 : Nat} {v1 : Int} (hv1 : g_InR v1) {j2 : Nat} (hj2 : j2 < q_nS) {v3 : Int} (hv3 : g_InR v3) (h : g_ok M → g_Call d 433 [.ref (4 * j2 + 1)] M (g_qI fun r4 M1 => g_ext M M1 → g_ok M1 → g_InR r4 → ((v3 < r4 → g_Call d 434 [.ref (4 * j2 + 1), g_n v3] M1 (g_qI fun r13 M10 => g_ext M1 M10 → g_ok M10 → g_InR r13 → g_O M10 a0 4 ∧ g_Call d 76 [.ref a0, g_n r13] M10 (g_qV fun M16 => g_ext M10 M16 → g_ok M16 → g_InR (v3 + 1) ∧ g_Run d 81 7 [(0, .ref a0), (1, g_n v1), (2, .ref (4 * j2 + 1)), (3, g_n (v3 + 1))] [] M16 (g_qV Q)))) ∧ (¬ v3 < r4 → g_O M1 a0 4 ∧ g_Call d 76 [.ref a0, g_n 0] M1 (g_qV fun M7 => g_ext M1 M7 → g_ok M7 → Q M7))))) : g_Run d 81 7 [(0, .ref a0), (1, g_n v1), (2, .ref (4 * j2 + 1)), (3, g_n v3)] [] M (g_qV Q) := by
  refine g_Run.ok fun hok => ?_
  replace h := h hok
  refine r_iload_n x_81_7 rfl ?_
  refine r_aload_n x_81_8 rfl ?_
  refine r_invT x_81_9 (z := 433) (ns := 0) (by decide +kernel) (as := []) (r := [g_n v3]) rfl rfl hj2 rfl rfl ?_
  refine r_callI h fun r4 M1 hx2 hok3 hr5 h => ?_
  replace h := h hx2 hok3 hr5
  refine r_ic_ge x_81_12 (t := 30) (by decide +kernel) hv3 hr5 (fun hc => ?_) (fun hc => ?_)
  · replace h := h.2 hc
    refine r_aload_n x_81_30 rfl ?_
    refine r_iconst x_81_31 ?_
    obtain ⟨hO6, h⟩ := h
    refine r_invV x_81_32 (z := 76) (ns := 0) (by decide +kernel) (as := [g_n 0]) (r := []) rfl rfl rfl hO6 rfl rfl ?_
    refine r_callV h fun M7 hx8 hok9 h => ?_
    replace h := h hx8 hok9
    replace hO6 := hO6.up hx8
    exact r_retV x_81_35 rfl h
  · replace h := h.1 hc
    refine r_aload_n x_81_15 rfl ?_
    refine r_aload_n x_81_16 rfl ?_
    refine r_iload_n x_81_17 rfl ?_
    refine r_invT x_81_18 (z := 434) (ns := 0) (by decide +kernel) (as := [g_n v3]) (r := [.ref a0]) rfl rfl hj2 rfl rfl ?_
    refine r_callI h fun r13 M10 hx11 hok12 hr14 h => ?_
    replace h := h hx11 hok12 hr14
    obtain ⟨hO15, h⟩ := h
    refine r_invV x_81_21 (z := 76) (ns := 0) (by decide +kernel) (as := [g_n r13]) (r := []) rfl rfl rfl hO15 rfl rfl ?_
    refine r_callV h fun M16 hx17 hok18 h => ?_
    replace h := h hx17 hok18
    replace hO15 := hO15.up hx17
    obtain ⟨h19, h⟩ := h
    refine r_iinc x_81_24 (by decide +kernel) rfl rfl (lv1 := [(0, .ref a0), (1, g_n v1), (2, .ref (4 * j2 + 1)), (3, g_n (v3 + 1))]) rfl ?_
    refine r_goto x_81_27 (t := 7) (by decide +kernel) ?_
    exact h
theorem m_X4_headOf {d : Nat} {M : g_M} {Q : g_M → Prop} {a0 : Nat} {v1 : Int} (hv1 : g_InR v1) {a2 : Nat} {v3 : Int} (hv3 : g_InR v3) {v4 : Int} (hv4 : g_InR v4) (h : g_ok M → g_O M a0 4 ∧ g_Call d 76 [.ref a0, g_n v1] M (g_qV fun M2 => g_ext M M2 → g_ok M2 → g_Call d 80 [.ref a0, .ref a2, g_n v3, g_n v4] M2 (g_qV fun M5 => g_ext M2 M5 → g_ok M5 → g_Call d 76 [.ref a0, g_n 0] M5 (g_qV fun M8 => g_ext M5 M8 → g_ok M8 → Q M8)))) : g_Call (d + 1) 82 [.ref a0, g_n v1, .ref a2, g_n v3, g_n v4] M (g_qV Q) := by
  refine g_Call.ok fun hok0 => ?_
  replace h := h hok0
  refine r_body rfl (lv := [(0, .ref a0), (1, g_n v1), (2, .ref a2), (3, g_n v3), (4, g_n v4)]) rfl ?_
  refine g_Run.ok fun hok => ?_
  refine r_aload_n x_82_0 rfl ?_
  refine r_iload_n x_82_1 rfl ?_
  obtain ⟨hO1, h⟩ := h
  refine r_invV x_82_2 (z := 76) (ns := 0) (by decide +kernel) (as := [g_n v1]) (r := []) rfl rfl rfl hO1 rfl rfl ?_
  refine r_callV h fun M2 hx3 hok4 h => ?_
  replace h := h hx3 hok4
  replace hO1 := hO1.up hx3
  refine r_aload_n x_82_5 rfl ?_
  refine r_aload_n x_82_6 rfl ?_
  refine r_iload_n x_82_7 rfl ?_
  refine r_iload x_82_8 rfl ?_
  refine r_invV x_82_10 (z := 80) (ns := 0) (by decide +kernel) (as := [.ref a2, g_n v3, g_n v4]) (r := []) rfl rfl rfl hO1 rfl rfl ?_
  refine r_callV h fun M5 hx6 hok7 h => ?_
  replace h := h hx6 hok7
  replace hO1 := hO1.up hx6
  refine r_aload_n x_82_13 rfl ?_
  refine r_iconst x_82_14 ?_
  refine r_invV x_82_15 (z := 76) (ns := 0) (by decide +kernel) (as := [g_n 0]) (r := []) rfl rfl rfl hO1 rfl rfl ?_
  refine r_callV h fun M8 hx9 hok10 h => ?_
  replace h := h hx9 hok10
  replace hO1 := hO1.up hx9
  exact r_retV x_82_18 rfl h
theorem m_X4_item {d : Nat} {M : g_M} {Q : g_M → Prop} {a0 : Nat} {v1 : Int} (hv1 : g_InR v1) {v2 : Int} (hv2 : g_InR v2) (h : g_ok M → g_O M a0 4 ∧ g_Call d 76 [.ref a0, g_n v1] M (g_qV fun M2 => g_ext M M2 → g_ok M2 → g_Run d 83 8 [(0, .ref a0), (1, g_n v1), (2, g_n v2), (3, g_n 100000)] [] M2 (g_qV Q))) : g_Call (d + 1) 83 [.ref a0, g_n v1, g_n v2] M (g_qV Q) := by
  refine g_Call.ok fun hok0 => ?_
  replace h := h hok0
  refine r_body rfl (lv := [(0, .ref a0), (1, g_n v1), (2, g_n v2)]) rfl ?_
  refine g_Run.ok fun hok => ?_
  refine r_aload_n x_83_0 rfl ?_
  refine r_iload_n x_83_1 rfl ?_
  obtain ⟨hO1, h⟩ := h
  refine r_invV x_83_2 (z := 76) (ns := 0) (by decide +kernel) (as := [g_n v1]) (r := []) rfl rfl rfl hO1 rfl rfl ?_
  refine r_callV h fun M2 hx3 hok4 h => ?_
  replace h := h hx3 hok4
  replace hO1 := hO1.up hx3
  refine r_ldc x_83_5 (v := g_n 100000) rfl ?_
  refine r_istore_n x_83_7 (by decide +kernel) rfl (lv1 := [(0, .ref a0), (1, g_n v1), (2, g_n v2), (3, g_n 100000)]) rfl ?_
  exact h
theorem s_X4_item_8 {d : Nat} {M : g_M} {Q : g_M → Prop} {a0 : Nat} {v1 : Int} (hv1 : g_InR v1) {v2 : Int} (hv2 : g_InR v2) {v3 : Int} (hv3 : g_InR v3) (h : g_ok M → ((0 < v3 → ((v3 = 1 → g_Run d 83 22 [(0, .ref a0), (1, g_n v1), (2, g_n v2), (3, g_n v3)] [] M (g_qV Q)) ∧ (¬ v3 = 1 → ((v2 < v3 → g_Run d 83 8 [(0, .ref a0), (1, g_n v1), (2, g_n v2), (3, g_n (v3.tdiv 10))] [] M (g_qV Q)) ∧ (¬ v2 < v3 → g_Run d 83 22 [(0, .ref a0), (1, g_n v1), (2, g_n v2), (3, g_n v3)] [] M (g_qV Q)))))) ∧ (¬ 0 < v3 → g_O M a0 4 ∧ g_Call d 76 [.ref a0, g_n 0] M (g_qV fun M2 => g_ext M M2 → g_ok M2 → Q M2)))) : g_Run d 83 8 [(0, .ref a0), (1, g_n v1), (2, g_n v2), (3, g_n v3)] [] M (g_qV Q) := by
  refine g_Run.ok fun hok => ?_
  replace h := h hok
  refine r_iload_n x_83_8 rfl ?_
  refine r_if_le x_83_9 (t := 43) (by decide +kernel) hv3 (fun hc => ?_) (fun hc => ?_)
  · replace h := h.2 hc
    refine r_aload_n x_83_43 rfl ?_
    refine r_iconst x_83_44 ?_
    obtain ⟨hO1, h⟩ := h
    refine r_invV x_83_45 (z := 76) (ns := 0) (by decide +kernel) (as := [g_n 0]) (r := []) rfl rfl rfl hO1 rfl rfl ?_
    refine r_callV h fun M2 hx3 hok4 h => ?_
    replace h := h hx3 hok4
    replace hO1 := hO1.up hx3
    exact r_retV x_83_48 rfl h
  · replace h := h.1 hc
    refine r_iload_n x_83_12 rfl ?_
    refine r_iconst x_83_13 ?_
    refine r_ic_eq x_83_14 (t := 22) (by decide +kernel) hv3 (g_Rk rfl) (fun hc => ?_) (fun hc => ?_)
    · replace h := h.1 hc
      exact h
    · replace h := h.2 hc
      refine r_iload_n x_83_17 rfl ?_
      refine r_iload_n x_83_18 rfl ?_
      refine r_ic_lt x_83_19 (t := 35) (by decide +kernel) hv2 hv3 (fun hc => ?_) (fun hc => ?_)
      · replace h := h.1 hc
        refine r_iload_n x_83_35 rfl ?_
        refine r_bipush x_83_36 (x := 10) rfl ?_
        refine r_idiv x_83_38 hv3 (g_Rk rfl) (by decide) ?_
        refine r_istore_n x_83_39 (by decide +kernel) rfl (lv1 := [(0, .ref a0), (1, g_n v1), (2, g_n v2), (3, g_n (v3.tdiv 10))]) rfl ?_
        refine r_goto x_83_40 (t := 8) (by decide +kernel) ?_
        exact h
      · replace h := h.2 hc
        exact h
theorem s_X4_item_22 {d : Nat} {M : g_M} {Q : g_M → Prop} {a0 : Nat} {v1 : Int} (hv1 : g_InR v1) {v2 : Int} (hv2 : g_InR v2) {v3 : Int} (hv3 : g_InR v3) (h : g_ok M → (0 : Int) < v3 ∧ g_InR (48 + ((v2.tdiv v3).tmod 10)) ∧ g_O M a0 4 ∧ g_Call d 76 [.ref a0, g_n (48 + ((v2.tdiv v3).tmod 10))] M (g_qV fun M4 => g_ext M M4 → g_ok M4 → g_Run d 83 8 [(0, .ref a0), (1, g_n v1), (2, g_n v2), (3, g_n (v3.tdiv 10))] [] M4 (g_qV Q))) : g_Run d 83 22 [(0, .ref a0), (1, g_n v1), (2, g_n v2), (3, g_n v3)] [] M (g_qV Q) := by
  refine g_Run.ok fun hok => ?_
  replace h := h hok
  refine r_aload_n x_83_22 rfl ?_
  refine r_bipush x_83_23 (x := 48) rfl ?_
  refine r_iload_n x_83_25 rfl ?_
  refine r_iload_n x_83_26 rfl ?_
  obtain ⟨h1, h⟩ := h
  refine r_idiv x_83_27 hv2 hv3 h1 ?_
  refine r_bipush x_83_28 (x := 10) rfl ?_
  refine r_irem x_83_30 (g_tdiv_R hv2 h1) (g_Rk rfl) (by decide) ?_
  refine r_iadd x_83_31 ?_
  obtain ⟨h2, h⟩ := h
  obtain ⟨hO3, h⟩ := h
  refine r_invV x_83_32 (z := 76) (ns := 0) (by decide +kernel) (as := [g_n (48 + ((v2.tdiv v3).tmod 10))]) (r := []) rfl rfl rfl hO3 rfl rfl ?_
  refine r_callV h fun M4 hx5 hok6 h => ?_
  replace h := h hx5 hok6
  replace hO3 := hO3.up hx5
  refine r_iload_n x_83_35 rfl ?_
  refine r_bipush x_83_36 (x := 10) rfl ?_
  refine r_idiv x_83_38 hv3 (g_Rk rfl) (by decide) ?_
  refine r_istore_n x_83_39 (by decide +kernel) rfl (lv1 := [(0, .ref a0), (1, g_n v1), (2, g_n v2), (3, g_n (v3.tdiv 10))]) rfl ?_
  refine r_goto x_83_40 (t := 8) (by decide +kernel) ?_
  exact h
theorem m_X4_value {d : Nat} {M : g_M} {Q : g_M → Prop} {a0 : Nat} {a1 : Nat} {v2 : Int} (hv2 : g_InR v2) (h : g_ok M → g_Call d 110 [.ref a1, g_n v2] M (g_qI fun r4 M1 => g_ext M M1 → g_ok M1 → g_InR r4 → g_Call d 111 [.ref a1, g_n v2] M1 (g_qI fun r9 M6 => g_ext M1 M6 → g_ok M6 → g_InR r9 → g_O M6 a0 4 ∧ g_Call d 80 [.ref a0, .ref a1, g_n r4, g_n r9] M6 (g_qV fun M12 => g_ext M6 M12 → g_ok M12 → Q M12)))) : g_Call (d + 1) 84 [.ref a0, .ref a1, g_n v2] M (g_qV Q) := by
  refine g_Call.ok fun hok0 => ?_
  replace h := h hok0
  refine r_body rfl (lv := [(0, .ref a0), (1, .ref a1), (2, g_n v2)]) rfl ?_
  refine g_Run.ok fun hok => ?_
  refine r_aload_n x_84_0 rfl ?_
  refine r_aload_n x_84_1 rfl ?_
  refine r_aload_n x_84_2 rfl ?_
  refine r_iload_n x_84_3 rfl ?_
  refine r_invS x_84_4 (z := 110) (ns := 1) (by decide +kernel) (as := [.ref a1, g_n v2]) (r := [.ref a1, .ref a0]) rfl rfl rfl ?_
  refine r_callI h fun r4 M1 hx2 hok3 hr5 h => ?_
  replace h := h hx2 hok3 hr5
  refine r_aload_n x_84_7 rfl ?_
  refine r_iload_n x_84_8 rfl ?_
  refine r_invS x_84_9 (z := 111) (ns := 1) (by decide +kernel) (as := [.ref a1, g_n v2]) (r := [g_n r4, .ref a1, .ref a0]) rfl rfl rfl ?_
  refine r_callI h fun r9 M6 hx7 hok8 hr10 h => ?_
  replace h := h hx7 hok8 hr10
  obtain ⟨hO11, h⟩ := h
  refine r_invV x_84_12 (z := 80) (ns := 0) (by decide +kernel) (as := [.ref a1, g_n r4, g_n r9]) (r := []) rfl rfl rfl hO11 rfl rfl ?_
  refine r_callV h fun M12 hx13 hok14 h => ?_
  replace h := h hx13 hok14
  replace hO11 := hO11.up hx13
  exact r_retV x_84_15 rfl h
theorem m_X4_open {d : Nat} {M : g_M} {Q : Int → g_M → Prop} {a0 : Nat} (h : g_ok M → g_O M a0 4 ∧ g_Call d 77 [.ref a0, g_n 0] M (g_qV fun M2 => g_ext M M2 → g_ok M2 → Q (g_i M a0 1) M2)) : g_Call (d + 1) 85 [.ref a0] M (g_qI Q) := by
  refine g_Call.ok fun hok0 => ?_
  replace h := h hok0
  refine r_body rfl (lv := [(0, .ref a0)]) rfl ?_
  refine g_Run.ok fun hok => ?_
  refine r_aload_n x_85_0 rfl ?_
  obtain ⟨hO1, h⟩ := h
  refine r_getI x_85_1 rfl (ci := 4) (k := 1) (ns := 0) (by decide +kernel) (by decide) rfl (kz := 1) rfl hO1 ?_
  refine r_istore_n x_85_4 (by decide +kernel) rfl (lv1 := [(0, .ref a0), (1, g_n (g_i M a0 1))]) rfl ?_
  refine r_aload_n x_85_5 rfl ?_
  refine r_iconst x_85_6 ?_
  refine r_invV x_85_7 (z := 77) (ns := 0) (by decide +kernel) (as := [g_n 0]) (r := []) rfl rfl rfl hO1 rfl rfl ?_
  refine r_callV h fun M2 hx3 hok4 h => ?_
  replace h := h hx3 hok4
  replace hO1 := hO1.up hx3
  refine r_iload_n x_85_10 rfl ?_
  exact r_retI x_85_11 rfl (hok.1 _ _) h
theorem m_X4_close {d : Nat} {M : g_M} {Q : g_M → Prop} {a0 : Nat} {v1 : Int} (hv1 : g_InR v1) (h : g_ok M → g_O M a0 4 ∧ g_Call d 76 [.ref a0, g_n 0] M (g_qV fun M2 => g_ext M M2 → g_ok M2 → g_InR ((g_i M2 a0 1) - v1) ∧ g_Call d 79 [.ref a0, g_n v1, g_n ((g_i M2 a0 1) - v1)] M2 (g_qV fun M6 => g_ext M2 M6 → g_ok M6 → Q M6))) : g_Call (d + 1) 86 [.ref a0, g_n v1] M (g_qV Q) := by
  refine g_Call.ok fun hok0 => ?_
  replace h := h hok0
  refine r_body rfl (lv := [(0, .ref a0), (1, g_n v1)]) rfl ?_
  refine g_Run.ok fun hok => ?_
  refine r_aload_n x_86_0 rfl ?_
  refine r_iconst x_86_1 ?_
  obtain ⟨hO1, h⟩ := h
  refine r_invV x_86_2 (z := 76) (ns := 0) (by decide +kernel) (as := [g_n 0]) (r := []) rfl rfl rfl hO1 rfl rfl ?_
  refine r_callV h fun M2 hx3 hok4 h => ?_
  replace h := h hx3 hok4
  replace hO1 := hO1.up hx3
  refine r_aload_n x_86_5 rfl ?_
  refine r_iload_n x_86_6 rfl ?_
  refine r_aload_n x_86_7 rfl ?_
  refine r_getI x_86_8 rfl (ci := 4) (k := 1) (ns := 0) (by decide +kernel) (by decide) rfl (kz := 1) rfl hO1 ?_
  refine r_iload_n x_86_11 rfl ?_
  refine r_isub x_86_12 ?_
  obtain ⟨h5, h⟩ := h
  refine r_invV x_86_13 (z := 79) (ns := 0) (by decide +kernel) (as := [g_n v1, g_n ((g_i M2 a0 1) - v1)]) (r := []) rfl rfl rfl hO1 rfl rfl ?_
  refine r_callV h fun M6 hx7 hok8 h => ?_
  replace h := h hx7 hok8
  replace hO1 := hO1.up hx7
  exact r_retV x_86_16 rfl h
theorem m_X4_named {d : Nat} {M : g_M} {Q : g_M → Prop} {a0 : Nat} {j1 : Nat} (hj1 : j1 < q_nS) {v2 : Int} (hv2 : g_InR v2) (h : g_ok M → g_O M a0 4 ∧ g_Call d 81 [.ref a0, g_n 16, .ref (4 * j1 + 1)] M (g_qV fun M2 => g_ext M M2 → g_ok M2 → g_Call d 77 [.ref a0, g_n v2] M2 (g_qV fun M5 => g_ext M2 M5 → g_ok M5 → Q M5))) : g_Call (d + 1) 87 [.ref a0, .ref (4 * j1 + 1), g_n v2] M (g_qV Q) := by
  refine g_Call.ok fun hok0 => ?_
  replace h := h hok0
  refine r_body rfl (lv := [(0, .ref a0), (1, .ref (4 * j1 + 1)), (2, g_n v2)]) rfl ?_
  refine g_Run.ok fun hok => ?_
  refine r_aload_n x_87_0 rfl ?_
  refine r_bipush x_87_1 (x := 16) rfl ?_
  refine r_aload_n x_87_3 rfl ?_
  obtain ⟨hO1, h⟩ := h
  refine r_invV x_87_4 (z := 81) (ns := 0) (by decide +kernel) (as := [g_n 16, .ref (4 * j1 + 1)]) (r := []) rfl rfl rfl hO1 rfl rfl ?_
  refine r_callV h fun M2 hx3 hok4 h => ?_
  replace h := h hx3 hok4
  replace hO1 := hO1.up hx3
  refine r_aload_n x_87_7 rfl ?_
  refine r_iload_n x_87_8 rfl ?_
  refine r_invV x_87_9 (z := 77) (ns := 0) (by decide +kernel) (as := [g_n v2]) (r := []) rfl rfl rfl hO1 rfl rfl ?_
  refine r_callV h fun M5 hx6 hok7 h => ?_
  replace h := h hx6 hok7
  replace hO1 := hO1.up hx6
  exact r_retV x_87_12 rfl h
theorem m_X4_namedTruth {d : Nat} {M : g_M} {Q : g_M → Prop} {a0 : Nat} {j1 : Nat} (hj1 : j1 < q_nS) {v2 : Int} (hv2 : g_InR v2) (h : g_ok M → g_O M a0 4 ∧ g_Call d 81 [.ref a0, g_n 8, .ref (4 * j1 + 1)] M (g_qV fun M2 => g_ext M M2 → g_ok M2 → ((v2 = 0 → g_Call d 76 [.ref a0, g_n 0] M2 (g_qV fun M5 => g_ext M2 M5 → g_ok M5 → Q M5)) ∧ (¬ v2 = 0 → g_Call d 76 [.ref a0, g_n 1] M2 (g_qV fun M8 => g_ext M2 M8 → g_ok M8 → Q M8))))) : g_Call (d + 1) 88 [.ref a0, .ref (4 * j1 + 1), g_n v2] M (g_qV Q) := by
  refine g_Call.ok fun hok0 => ?_
  replace h := h hok0
  refine r_body rfl (lv := [(0, .ref a0), (1, .ref (4 * j1 + 1)), (2, g_n v2)]) rfl ?_
  refine g_Run.ok fun hok => ?_
  refine r_aload_n x_88_0 rfl ?_
  refine r_bipush x_88_1 (x := 8) rfl ?_
  refine r_aload_n x_88_3 rfl ?_
  obtain ⟨hO1, h⟩ := h
  refine r_invV x_88_4 (z := 81) (ns := 0) (by decide +kernel) (as := [g_n 8, .ref (4 * j1 + 1)]) (r := []) rfl rfl rfl hO1 rfl rfl ?_
  refine r_callV h fun M2 hx3 hok4 h => ?_
  replace h := h hx3 hok4
  replace hO1 := hO1.up hx3
  refine r_aload_n x_88_7 rfl ?_
  refine r_iload_n x_88_8 rfl ?_
  refine r_if_eq x_88_9 (t := 16) (by decide +kernel) hv2 (fun hc => ?_) (fun hc => ?_)
  · replace h := h.1 hc
    refine r_iconst x_88_16 ?_
    refine r_invV x_88_17 (z := 76) (ns := 0) (by decide +kernel) (as := [g_n 0]) (r := []) rfl rfl rfl hO1 rfl rfl ?_
    refine r_callV h fun M5 hx6 hok7 h => ?_
    replace h := h hx6 hok7
    replace hO1 := hO1.up hx6
    exact r_retV x_88_20 rfl h
  · replace h := h.2 hc
    refine r_iconst x_88_12 ?_
    refine r_goto x_88_13 (t := 17) (by decide +kernel) ?_
    refine r_invV x_88_17 (z := 76) (ns := 0) (by decide +kernel) (as := [g_n 1]) (r := []) rfl rfl rfl hO1 rfl rfl ?_
    refine r_callV h fun M8 hx9 hok10 h => ?_
    replace h := h hx9 hok10
    replace hO1 := hO1.up hx9
    exact r_retV x_88_20 rfl h
