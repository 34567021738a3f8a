theorem dX0_follow_0 : decode cX0_follow 0 = .ok (.aload_n 0, 1) := by decide +kernel
theorem dX0_follow_1 : decode cX0_follow 1 = .ok (.aload_n 1, 1) := by decide +kernel
theorem dX0_follow_2 : decode cX0_follow 2 = .ok (.putfield 15, 3) := by decide +kernel
theorem dX0_follow_5 : decode cX0_follow 5 = .ok (.aload_n 0, 1) := by decide +kernel
theorem dX0_follow_6 : decode cX0_follow 6 = .ok (.aload_n 2, 1) := by decide +kernel
theorem dX0_follow_7 : decode cX0_follow 7 = .ok (.putfield 19, 3) := by decide +kernel
theorem dX0_follow_10 : decode cX0_follow 10 = .ok (.aload_n 0, 1) := by decide +kernel
theorem dX0_follow_11 : decode cX0_follow 11 = .ok (.iload_n 3, 1) := by decide +kernel
theorem dX0_follow_12 : decode cX0_follow 12 = .ok (.putfield 23, 3) := by decide +kernel
theorem dX0_follow_15 : decode cX0_follow 15 = .ok (.aload_n 0, 1) := by decide +kernel
theorem dX0_follow_16 : decode cX0_follow 16 = .ok (.iload 4, 2) := by decide +kernel
theorem dX0_follow_18 : decode cX0_follow 18 = .ok (.putfield 27, 3) := by decide +kernel
theorem dX0_follow_21 : decode cX0_follow 21 = .ok (.return_, 1) := by decide +kernel
theorem dX0_run_0 : decode cX0_run 0 = .ok (.iconst 0, 1) := by decide +kernel
theorem dX0_run_1 : decode cX0_run 1 = .ok (.istore_n 2, 1) := by decide +kernel
theorem dX0_run_2 : decode cX0_run 2 = .ok (.iload_n 2, 1) := by decide +kernel
theorem dX0_run_3 : decode cX0_run 3 = .ok (.iload_n 1, 1) := by decide +kernel
theorem dX0_run_4 : decode cX0_run 4 = .ok (.if_icmp .ge 13, 3) := by decide +kernel
theorem dX0_run_7 : decode cX0_run 7 = .ok (.aload_n 0, 1) := by decide +kernel
theorem dX0_run_8 : decode cX0_run 8 = .ok (.invokevirtual 30, 3) := by decide +kernel
theorem dX0_run_11 : decode cX0_run 11 = .ok (.iinc 2 1, 3) := by decide +kernel
theorem dX0_run_14 : decode cX0_run 14 = .ok (.goto (-12), 3) := by decide +kernel
theorem dX0_run_17 : decode cX0_run 17 = .ok (.return_, 1) := by decide +kernel
theorem dX0_oneDay_0 : decode cX0_oneDay 0 = .ok (.aload_n 0, 1) := by decide +kernel
theorem dX0_oneDay_1 : decode cX0_oneDay 1 = .ok (.invokevirtual 33, 3) := by decide +kernel
theorem dX0_oneDay_4 : decode cX0_oneDay 4 = .ok (.aload_n 0, 1) := by decide +kernel
theorem dX0_oneDay_5 : decode cX0_oneDay 5 = .ok (.getfield 23, 3) := by decide +kernel
theorem dX0_oneDay_8 : decode cX0_oneDay 8 = .ok (.iconst 3, 1) := by decide +kernel
theorem dX0_oneDay_9 : decode cX0_oneDay 9 = .ok (.if_icmp .eq 7, 3) := by decide +kernel
theorem dX0_oneDay_12 : decode cX0_oneDay 12 = .ok (.aload_n 0, 1) := by decide +kernel
theorem dX0_oneDay_13 : decode cX0_oneDay 13 = .ok (.invokevirtual 36, 3) := by decide +kernel
theorem dX0_oneDay_16 : decode cX0_oneDay 16 = .ok (.aload_n 0, 1) := by decide +kernel
theorem dX0_oneDay_17 : decode cX0_oneDay 17 = .ok (.getfield 23, 3) := by decide +kernel
theorem dX0_oneDay_20 : decode cX0_oneDay 20 = .ok (.iconst 1, 1) := by decide +kernel
theorem dX0_oneDay_21 : decode cX0_oneDay 21 = .ok (.if_icmp .eq 7, 3) := by decide +kernel
theorem dX0_oneDay_24 : decode cX0_oneDay 24 = .ok (.aload_n 0, 1) := by decide +kernel
theorem dX0_oneDay_25 : decode cX0_oneDay 25 = .ok (.invokevirtual 39, 3) := by decide +kernel
theorem dX0_oneDay_28 : decode cX0_oneDay 28 = .ok (.aload_n 0, 1) := by decide +kernel
theorem dX0_oneDay_29 : decode cX0_oneDay 29 = .ok (.getfield 23, 3) := by decide +kernel
theorem dX0_oneDay_32 : decode cX0_oneDay 32 = .ok (.iconst 4, 1) := by decide +kernel
theorem dX0_oneDay_33 : decode cX0_oneDay 33 = .ok (.if_icmp .eq 7, 3) := by decide +kernel
theorem dX0_oneDay_36 : decode cX0_oneDay 36 = .ok (.aload_n 0, 1) := by decide +kernel
theorem dX0_oneDay_37 : decode cX0_oneDay 37 = .ok (.invokevirtual 42, 3) := by decide +kernel
theorem dX0_oneDay_40 : decode cX0_oneDay 40 = .ok (.aload_n 0, 1) := by decide +kernel
theorem dX0_oneDay_41 : decode cX0_oneDay 41 = .ok (.getfield 19, 3) := by decide +kernel
theorem dX0_oneDay_44 : decode cX0_oneDay 44 = .ok (.getfield 45, 3) := by decide +kernel
theorem dX0_oneDay_47 : decode cX0_oneDay 47 = .ok (.bipush 10, 2) := by decide +kernel
theorem dX0_oneDay_49 : decode cX0_oneDay 49 = .ok (.irem, 1) := by decide +kernel
theorem dX0_oneDay_50 : decode cX0_oneDay 50 = .ok (.bipush 9, 2) := by decide +kernel
theorem dX0_oneDay_52 : decode cX0_oneDay 52 = .ok (.if_icmp .ne 11, 3) := by decide +kernel
theorem dX0_oneDay_55 : decode cX0_oneDay 55 = .ok (.aload_n 0, 1) := by decide +kernel
theorem dX0_oneDay_56 : decode cX0_oneDay 56 = .ok (.invokevirtual 50, 3) := by decide +kernel
theorem dX0_oneDay_59 : decode cX0_oneDay 59 = .ok (.aload_n 0, 1) := by decide +kernel
theorem dX0_oneDay_60 : decode cX0_oneDay 60 = .ok (.invokevirtual 53, 3) := by decide +kernel
theorem dX0_oneDay_63 : decode cX0_oneDay 63 = .ok (.aload_n 0, 1) := by decide +kernel
theorem dX0_oneDay_64 : decode cX0_oneDay 64 = .ok (.invokevirtual 56, 3) := by decide +kernel
theorem dX0_oneDay_67 : decode cX0_oneDay 67 = .ok (.aload_n 0, 1) := by decide +kernel
theorem dX0_oneDay_68 : decode cX0_oneDay 68 = .ok (.getfield 19, 3) := by decide +kernel
theorem dX0_oneDay_71 : decode cX0_oneDay 71 = .ok (.dup, 1) := by decide +kernel
theorem dX0_oneDay_72 : decode cX0_oneDay 72 = .ok (.getfield 45, 3) := by decide +kernel
theorem dX0_oneDay_75 : decode cX0_oneDay 75 = .ok (.iconst 1, 1) := by decide +kernel
theorem dX0_oneDay_76 : decode cX0_oneDay 76 = .ok (.iadd, 1) := by decide +kernel
theorem dX0_oneDay_77 : decode cX0_oneDay 77 = .ok (.putfield 45, 3) := by decide +kernel
theorem dX0_oneDay_80 : decode cX0_oneDay 80 = .ok (.return_, 1) := by decide +kernel
theorem dX0_lendDue_0 : decode cX0_lendDue 0 = .ok (.iconst 0, 1) := by decide +kernel
theorem dX0_lendDue_1 : decode cX0_lendDue 1 = .ok (.istore_n 1, 1) := by decide +kernel
theorem dX0_lendDue_2 : decode cX0_lendDue 2 = .ok (.iload_n 1, 1) := by decide +kernel
theorem dX0_lendDue_3 : decode cX0_lendDue 3 = .ok (.aload_n 0, 1) := by decide +kernel
theorem dX0_lendDue_4 : decode cX0_lendDue 4 = .ok (.getfield 19, 3) := by decide +kernel
theorem dX0_lendDue_7 : decode cX0_lendDue 7 = .ok (.getfield 59, 3) := by decide +kernel
theorem dX0_lendDue_10 : decode cX0_lendDue 10 = .ok (.if_icmp .ge 133, 3) := by decide +kernel
theorem dX0_lendDue_13 : decode cX0_lendDue 13 = .ok (.aload_n 0, 1) := by decide +kernel
theorem dX0_lendDue_14 : decode cX0_lendDue 14 = .ok (.getfield 19, 3) := by decide +kernel
theorem dX0_lendDue_17 : decode cX0_lendDue 17 = .ok (.getfield 62, 3) := by decide +kernel
theorem dX0_lendDue_20 : decode cX0_lendDue 20 = .ok (.iload_n 1, 1) := by decide +kernel
theorem dX0_lendDue_21 : decode cX0_lendDue 21 = .ok (.iaload, 1) := by decide +kernel
theorem dX0_lendDue_22 : decode cX0_lendDue 22 = .ok (.ifCond .ne 115, 3) := by decide +kernel
theorem dX0_lendDue_25 : decode cX0_lendDue 25 = .ok (.aload_n 0, 1) := by decide +kernel
theorem dX0_lendDue_26 : decode cX0_lendDue 26 = .ok (.getfield 19, 3) := by decide +kernel
theorem dX0_lendDue_29 : decode cX0_lendDue 29 = .ok (.getfield 66, 3) := by decide +kernel
theorem dX0_lendDue_32 : decode cX0_lendDue 32 = .ok (.iload_n 1, 1) := by decide +kernel
theorem dX0_lendDue_33 : decode cX0_lendDue 33 = .ok (.iaload, 1) := by decide +kernel
theorem dX0_lendDue_34 : decode cX0_lendDue 34 = .ok (.aload_n 0, 1) := by decide +kernel
theorem dX0_lendDue_35 : decode cX0_lendDue 35 = .ok (.getfield 19, 3) := by decide +kernel
theorem dX0_lendDue_38 : decode cX0_lendDue 38 = .ok (.getfield 45, 3) := by decide +kernel
theorem dX0_lendDue_41 : decode cX0_lendDue 41 = .ok (.if_icmp .ne 96, 3) := by decide +kernel
theorem dX0_lendDue_44 : decode cX0_lendDue 44 = .ok (.aload_n 0, 1) := by decide +kernel
theorem dX0_lendDue_45 : decode cX0_lendDue 45 = .ok (.getfield 15, 3) := by decide +kernel
theorem dX0_lendDue_48 : decode cX0_lendDue 48 = .ok (.aload_n 0, 1) := by decide +kernel
theorem dX0_lendDue_49 : decode cX0_lendDue 49 = .ok (.getfield 19, 3) := by decide +kernel
theorem dX0_lendDue_52 : decode cX0_lendDue 52 = .ok (.getfield 69, 3) := by decide +kernel
theorem dX0_lendDue_55 : decode cX0_lendDue 55 = .ok (.iload_n 1, 1) := by decide +kernel
theorem dX0_lendDue_56 : decode cX0_lendDue 56 = .ok (.iaload, 1) := by decide +kernel
theorem dX0_lendDue_57 : decode cX0_lendDue 57 = .ok (.invokevirtual 72, 3) := by decide +kernel
theorem dX0_lendDue_60 : decode cX0_lendDue 60 = .ok (.istore_n 2, 1) := by decide +kernel
theorem dX0_lendDue_61 : decode cX0_lendDue 61 = .ok (.aload_n 0, 1) := by decide +kernel
theorem dX0_lendDue_62 : decode cX0_lendDue 62 = .ok (.getfield 19, 3) := by decide +kernel
theorem dX0_lendDue_65 : decode cX0_lendDue 65 = .ok (.getfield 78, 3) := by decide +kernel
theorem dX0_lendDue_68 : decode cX0_lendDue 68 = .ok (.iload_n 1, 1) := by decide +kernel
theorem dX0_lendDue_69 : decode cX0_lendDue 69 = .ok (.iaload, 1) := by decide +kernel
theorem dX0_lendDue_70 : decode cX0_lendDue 70 = .ok (.iload_n 2, 1) := by decide +kernel
theorem dX0_lendDue_71 : decode cX0_lendDue 71 = .ok (.iadd, 1) := by decide +kernel
theorem dX0_lendDue_72 : decode cX0_lendDue 72 = .ok (.istore_n 3, 1) := by decide +kernel
theorem dX0_lendDue_73 : decode cX0_lendDue 73 = .ok (.aload_n 0, 1) := by decide +kernel
theorem dX0_lendDue_74 : decode cX0_lendDue 74 = .ok (.getfield 19, 3) := by decide +kernel
theorem dX0_lendDue_77 : decode cX0_lendDue 77 = .ok (.aload_n 0, 1) := by decide +kernel
theorem dX0_lendDue_78 : decode cX0_lendDue 78 = .ok (.getfield 19, 3) := by decide +kernel
theorem dX0_lendDue_81 : decode cX0_lendDue 81 = .ok (.getfield 69, 3) := by decide +kernel
theorem dX0_lendDue_84 : decode cX0_lendDue 84 = .ok (.iload_n 1, 1) := by decide +kernel
theorem dX0_lendDue_85 : decode cX0_lendDue 85 = .ok (.iaload, 1) := by decide +kernel
theorem dX0_lendDue_86 : decode cX0_lendDue 86 = .ok (.invokevirtual 81, 3) := by decide +kernel
theorem dX0_lendDue_89 : decode cX0_lendDue 89 = .ok (.ifCond .eq 39, 3) := by decide +kernel
theorem dX0_lendDue_92 : decode cX0_lendDue 92 = .ok (.aload_n 0, 1) := by decide +kernel
theorem dX0_lendDue_93 : decode cX0_lendDue 93 = .ok (.getfield 19, 3) := by decide +kernel
theorem dX0_lendDue_96 : decode cX0_lendDue 96 = .ok (.aload_n 0, 1) := by decide +kernel
theorem dX0_lendDue_97 : decode cX0_lendDue 97 = .ok (.getfield 19, 3) := by decide +kernel
theorem dX0_lendDue_100 : decode cX0_lendDue 100 = .ok (.getfield 85, 3) := by decide +kernel
theorem dX0_lendDue_103 : decode cX0_lendDue 103 = .ok (.iload_n 1, 1) := by decide +kernel
theorem dX0_lendDue_104 : decode cX0_lendDue 104 = .ok (.iaload, 1) := by decide +kernel
theorem dX0_lendDue_105 : decode cX0_lendDue 105 = .ok (.invokevirtual 88, 3) := by decide +kernel
theorem dX0_lendDue_108 : decode cX0_lendDue 108 = .ok (.iload_n 3, 1) := by decide +kernel
theorem dX0_lendDue_109 : decode cX0_lendDue 109 = .ok (.if_icmp .lt 19, 3) := by decide +kernel
theorem dX0_lendDue_112 : decode cX0_lendDue 112 = .ok (.aload_n 0, 1) := by decide +kernel
theorem dX0_lendDue_113 : decode cX0_lendDue 113 = .ok (.getfield 19, 3) := by decide +kernel
theorem dX0_lendDue_116 : decode cX0_lendDue 116 = .ok (.iload_n 1, 1) := by decide +kernel
theorem dX0_lendDue_117 : decode cX0_lendDue 117 = .ok (.iload_n 2, 1) := by decide +kernel
theorem dX0_lendDue_118 : decode cX0_lendDue 118 = .ok (.aload_n 0, 1) := by decide +kernel
theorem dX0_lendDue_119 : decode cX0_lendDue 119 = .ok (.getfield 27, 3) := by decide +kernel
theorem dX0_lendDue_122 : decode cX0_lendDue 122 = .ok (.invokevirtual 91, 3) := by decide +kernel
theorem dX0_lendDue_125 : decode cX0_lendDue 125 = .ok (.goto 12, 3) := by decide +kernel
theorem dX0_lendDue_128 : decode cX0_lendDue 128 = .ok (.aload_n 0, 1) := by decide +kernel
theorem dX0_lendDue_129 : decode cX0_lendDue 129 = .ok (.getfield 19, 3) := by decide +kernel
theorem dX0_lendDue_132 : decode cX0_lendDue 132 = .ok (.iload_n 1, 1) := by decide +kernel
theorem dX0_lendDue_133 : decode cX0_lendDue 133 = .ok (.iconst 4, 1) := by decide +kernel
theorem dX0_lendDue_134 : decode cX0_lendDue 134 = .ok (.invokevirtual 95, 3) := by decide +kernel
theorem dX0_lendDue_137 : decode cX0_lendDue 137 = .ok (.iinc 1 1, 3) := by decide +kernel
theorem dX0_lendDue_140 : decode cX0_lendDue 140 = .ok (.goto (-138), 3) := by decide +kernel
theorem dX0_lendDue_143 : decode cX0_lendDue 143 = .ok (.return_, 1) := by decide +kernel
theorem dX0_leanAll_0 : decode cX0_leanAll 0 = .ok (.iconst 0, 1) := by decide +kernel
theorem dX0_leanAll_1 : decode cX0_leanAll 1 = .ok (.istore_n 1, 1) := by decide +kernel
theorem dX0_leanAll_2 : decode cX0_leanAll 2 = .ok (.iload_n 1, 1) := by decide +kernel
theorem dX0_leanAll_3 : decode cX0_leanAll 3 = .ok (.aload_n 0, 1) := by decide +kernel
theorem dX0_leanAll_4 : decode cX0_leanAll 4 = .ok (.getfield 15, 3) := by decide +kernel
theorem dX0_leanAll_7 : decode cX0_leanAll 7 = .ok (.getfield 99, 3) := by decide +kernel
theorem dX0_leanAll_10 : decode cX0_leanAll 10 = .ok (.if_icmp .ge 89, 3) := by decide +kernel
theorem dX0_leanAll_13 : decode cX0_leanAll 13 = .ok (.iload_n 1, 1) := by decide +kernel
theorem dX0_leanAll_14 : decode cX0_leanAll 14 = .ok (.bipush 10, 2) := by decide +kernel
theorem dX0_leanAll_16 : decode cX0_leanAll 16 = .ok (.if_icmp .ge 83, 3) := by decide +kernel
theorem dX0_leanAll_19 : decode cX0_leanAll 19 = .ok (.aload_n 0, 1) := by decide +kernel
theorem dX0_leanAll_20 : decode cX0_leanAll 20 = .ok (.getfield 15, 3) := by decide +kernel
theorem dX0_leanAll_23 : decode cX0_leanAll 23 = .ok (.getfield 102, 3) := by decide +kernel
theorem dX0_leanAll_26 : decode cX0_leanAll 26 = .ok (.iload_n 1, 1) := by decide +kernel
theorem dX0_leanAll_27 : decode cX0_leanAll 27 = .ok (.iaload, 1) := by decide +kernel
theorem dX0_leanAll_28 : decode cX0_leanAll 28 = .ok (.istore_n 2, 1) := by decide +kernel
theorem dX0_leanAll_29 : decode cX0_leanAll 29 = .ok (.aload_n 0, 1) := by decide +kernel
theorem dX0_leanAll_30 : decode cX0_leanAll 30 = .ok (.getfield 15, 3) := by decide +kernel
theorem dX0_leanAll_33 : decode cX0_leanAll 33 = .ok (.getfield 105, 3) := by decide +kernel
theorem dX0_leanAll_36 : decode cX0_leanAll 36 = .ok (.iload_n 1, 1) := by decide +kernel
theorem dX0_leanAll_37 : decode cX0_leanAll 37 = .ok (.iaload, 1) := by decide +kernel
theorem dX0_leanAll_38 : decode cX0_leanAll 38 = .ok (.istore_n 3, 1) := by decide +kernel
theorem dX0_leanAll_39 : decode cX0_leanAll 39 = .ok (.aload_n 0, 1) := by decide +kernel
theorem dX0_leanAll_40 : decode cX0_leanAll 40 = .ok (.getfield 15, 3) := by decide +kernel
theorem dX0_leanAll_43 : decode cX0_leanAll 43 = .ok (.getfield 108, 3) := by decide +kernel
theorem dX0_leanAll_46 : decode cX0_leanAll 46 = .ok (.iload_n 1, 1) := by decide +kernel
theorem dX0_leanAll_47 : decode cX0_leanAll 47 = .ok (.iaload, 1) := by decide +kernel
theorem dX0_leanAll_48 : decode cX0_leanAll 48 = .ok (.aload_n 0, 1) := by decide +kernel
theorem dX0_leanAll_49 : decode cX0_leanAll 49 = .ok (.getfield 19, 3) := by decide +kernel
theorem dX0_leanAll_52 : decode cX0_leanAll 52 = .ok (.getfield 45, 3) := by decide +kernel
theorem dX0_leanAll_55 : decode cX0_leanAll 55 = .ok (.if_icmp .ne 38, 3) := by decide +kernel
theorem dX0_leanAll_58 : decode cX0_leanAll 58 = .ok (.aload_n 0, 1) := by decide +kernel
theorem dX0_leanAll_59 : decode cX0_leanAll 59 = .ok (.getfield 19, 3) := by decide +kernel
theorem dX0_leanAll_62 : decode cX0_leanAll 62 = .ok (.iload_n 2, 1) := by decide +kernel
theorem dX0_leanAll_63 : decode cX0_leanAll 63 = .ok (.invokevirtual 81, 3) := by decide +kernel
theorem dX0_leanAll_66 : decode cX0_leanAll 66 = .ok (.ifCond .eq 27, 3) := by decide +kernel
theorem dX0_leanAll_69 : decode cX0_leanAll 69 = .ok (.aload_n 0, 1) := by decide +kernel
theorem dX0_leanAll_70 : decode cX0_leanAll 70 = .ok (.getfield 19, 3) := by decide +kernel
theorem dX0_leanAll_73 : decode cX0_leanAll 73 = .ok (.iload_n 3, 1) := by decide +kernel
theorem dX0_leanAll_74 : decode cX0_leanAll 74 = .ok (.invokevirtual 81, 3) := by decide +kernel
theorem dX0_leanAll_77 : decode cX0_leanAll 77 = .ok (.ifCond .eq 16, 3) := by decide +kernel
theorem dX0_leanAll_80 : decode cX0_leanAll 80 = .ok (.aload_n 0, 1) := by decide +kernel
theorem dX0_leanAll_81 : decode cX0_leanAll 81 = .ok (.iload_n 2, 1) := by decide +kernel
theorem dX0_leanAll_82 : decode cX0_leanAll 82 = .ok (.iload_n 3, 1) := by decide +kernel
theorem dX0_leanAll_83 : decode cX0_leanAll 83 = .ok (.invokevirtual 111, 3) := by decide +kernel
theorem dX0_leanAll_86 : decode cX0_leanAll 86 = .ok (.pop, 1) := by decide +kernel
theorem dX0_leanAll_87 : decode cX0_leanAll 87 = .ok (.aload_n 0, 1) := by decide +kernel
theorem dX0_leanAll_88 : decode cX0_leanAll 88 = .ok (.iload_n 2, 1) := by decide +kernel
theorem dX0_leanAll_89 : decode cX0_leanAll 89 = .ok (.iload_n 3, 1) := by decide +kernel
theorem dX0_leanAll_90 : decode cX0_leanAll 90 = .ok (.invokevirtual 115, 3) := by decide +kernel
theorem dX0_leanAll_93 : decode cX0_leanAll 93 = .ok (.iinc 1 1, 3) := by decide +kernel
theorem dX0_leanAll_96 : decode cX0_leanAll 96 = .ok (.goto (-94), 3) := by decide +kernel
theorem dX0_leanAll_99 : decode cX0_leanAll 99 = .ok (.return_, 1) := by decide +kernel
theorem dX0_passOn_0 : decode cX0_passOn 0 = .ok (.iconst 0, 1) := by decide +kernel
theorem dX0_passOn_1 : decode cX0_passOn 1 = .ok (.istore_n 3, 1) := by decide +kernel
theorem dX0_passOn_2 : decode cX0_passOn 2 = .ok (.iconst 1, 1) := by decide +kernel
theorem dX0_passOn_3 : decode cX0_passOn 3 = .ok (.iload_n 2, 1) := by decide +kernel
theorem dX0_passOn_4 : decode cX0_passOn 4 = .ok (.ishl, 1) := by decide +kernel
theorem dX0_passOn_5 : decode cX0_passOn 5 = .ok (.aload_n 0, 1) := by decide +kernel
theorem dX0_passOn_6 : decode cX0_passOn 6 = .ok (.getfield 27, 3) := by decide +kernel
theorem dX0_passOn_9 : decode cX0_passOn 9 = .ok (.iconst (-1), 1) := by decide +kernel
theorem dX0_passOn_10 : decode cX0_passOn 10 = .ok (.ixor, 1) := by decide +kernel
theorem dX0_passOn_11 : decode cX0_passOn 11 = .ok (.iand, 1) := by decide +kernel
theorem dX0_passOn_12 : decode cX0_passOn 12 = .ok (.istore 4, 2) := by decide +kernel
theorem dX0_passOn_14 : decode cX0_passOn 14 = .ok (.iconst 0, 1) := by decide +kernel
theorem dX0_passOn_15 : decode cX0_passOn 15 = .ok (.istore 5, 2) := by decide +kernel
theorem dX0_passOn_17 : decode cX0_passOn 17 = .ok (.iload 5, 2) := by decide +kernel
theorem dX0_passOn_19 : decode cX0_passOn 19 = .ok (.aload_n 0, 1) := by decide +kernel
theorem dX0_passOn_20 : decode cX0_passOn 20 = .ok (.getfield 19, 3) := by decide +kernel
theorem dX0_passOn_23 : decode cX0_passOn 23 = .ok (.getfield 59, 3) := by decide +kernel
theorem dX0_passOn_26 : decode cX0_passOn 26 = .ok (.if_icmp .ge 85, 3) := by decide +kernel
theorem dX0_passOn_29 : decode cX0_passOn 29 = .ok (.aload_n 0, 1) := by decide +kernel
theorem dX0_passOn_30 : decode cX0_passOn 30 = .ok (.getfield 19, 3) := by decide +kernel
theorem dX0_passOn_33 : decode cX0_passOn 33 = .ok (.getfield 118, 3) := by decide +kernel
theorem dX0_passOn_36 : decode cX0_passOn 36 = .ok (.iload 5, 2) := by decide +kernel
theorem dX0_passOn_38 : decode cX0_passOn 38 = .ok (.iaload, 1) := by decide +kernel
theorem dX0_passOn_39 : decode cX0_passOn 39 = .ok (.istore 6, 2) := by decide +kernel
theorem dX0_passOn_41 : decode cX0_passOn 41 = .ok (.iload 6, 2) := by decide +kernel
theorem dX0_passOn_43 : decode cX0_passOn 43 = .ok (.iload_n 1, 1) := by decide +kernel
theorem dX0_passOn_44 : decode cX0_passOn 44 = .ok (.ishr, 1) := by decide +kernel
theorem dX0_passOn_45 : decode cX0_passOn 45 = .ok (.iconst 1, 1) := by decide +kernel
theorem dX0_passOn_46 : decode cX0_passOn 46 = .ok (.iand, 1) := by decide +kernel
theorem dX0_passOn_47 : decode cX0_passOn 47 = .ok (.ifCond .eq 20, 3) := by decide +kernel
theorem dX0_passOn_50 : decode cX0_passOn 50 = .ok (.iload 6, 2) := by decide +kernel
theorem dX0_passOn_52 : decode cX0_passOn 52 = .ok (.iload 4, 2) := by decide +kernel
theorem dX0_passOn_54 : decode cX0_passOn 54 = .ok (.iand, 1) := by decide +kernel
theorem dX0_passOn_55 : decode cX0_passOn 55 = .ok (.ifCond .ne 12, 3) := by decide +kernel
theorem dX0_passOn_58 : decode cX0_passOn 58 = .ok (.iload 4, 2) := by decide +kernel
theorem dX0_passOn_60 : decode cX0_passOn 60 = .ok (.ifCond .eq 7, 3) := by decide +kernel
theorem dX0_passOn_63 : decode cX0_passOn 63 = .ok (.iconst 1, 1) := by decide +kernel
theorem dX0_passOn_64 : decode cX0_passOn 64 = .ok (.goto 4, 3) := by decide +kernel
theorem dX0_passOn_67 : decode cX0_passOn 67 = .ok (.iconst 0, 1) := by decide +kernel
theorem dX0_passOn_68 : decode cX0_passOn 68 = .ok (.istore 7, 2) := by decide +kernel
theorem dX0_passOn_70 : decode cX0_passOn 70 = .ok (.iload 7, 2) := by decide +kernel
theorem dX0_passOn_72 : decode cX0_passOn 72 = .ok (.ifCond .eq 33, 3) := by decide +kernel
theorem dX0_passOn_75 : decode cX0_passOn 75 = .ok (.aload_n 0, 1) := by decide +kernel
theorem dX0_passOn_76 : decode cX0_passOn 76 = .ok (.iload 5, 2) := by decide +kernel
theorem dX0_passOn_78 : decode cX0_passOn 78 = .ok (.iload_n 1, 1) := by decide +kernel
theorem dX0_passOn_79 : decode cX0_passOn 79 = .ok (.invokevirtual 121, 3) := by decide +kernel
theorem dX0_passOn_82 : decode cX0_passOn 82 = .ok (.lconst 0, 1) := by decide +kernel
theorem dX0_passOn_83 : decode cX0_passOn 83 = .ok (.lcmp, 1) := by decide +kernel
theorem dX0_passOn_84 : decode cX0_passOn 84 = .ok (.ifCond .eq 21, 3) := by decide +kernel
theorem dX0_passOn_87 : decode cX0_passOn 87 = .ok (.aload_n 0, 1) := by decide +kernel
theorem dX0_passOn_88 : decode cX0_passOn 88 = .ok (.getfield 19, 3) := by decide +kernel
theorem dX0_passOn_91 : decode cX0_passOn 91 = .ok (.getfield 118, 3) := by decide +kernel
theorem dX0_passOn_94 : decode cX0_passOn 94 = .ok (.iload 5, 2) := by decide +kernel
theorem dX0_passOn_96 : decode cX0_passOn 96 = .ok (.dup2, 1) := by decide +kernel
theorem dX0_passOn_97 : decode cX0_passOn 97 = .ok (.iaload, 1) := by decide +kernel
theorem dX0_passOn_98 : decode cX0_passOn 98 = .ok (.iload 4, 2) := by decide +kernel
theorem dX0_passOn_100 : decode cX0_passOn 100 = .ok (.ior, 1) := by decide +kernel
theorem dX0_passOn_101 : decode cX0_passOn 101 = .ok (.iastore, 1) := by decide +kernel
theorem dX0_passOn_102 : decode cX0_passOn 102 = .ok (.iinc 3 1, 3) := by decide +kernel
theorem dX0_passOn_105 : decode cX0_passOn 105 = .ok (.iinc 5 1, 3) := by decide +kernel
theorem dX0_passOn_108 : decode cX0_passOn 108 = .ok (.goto (-91), 3) := by decide +kernel
theorem dX0_passOn_111 : decode cX0_passOn 111 = .ok (.iload_n 3, 1) := by decide +kernel
theorem dX0_passOn_112 : decode cX0_passOn 112 = .ok (.ireturn, 1) := by decide +kernel
theorem dX0_passRumours_0 : decode cX0_passRumours 0 = .ok (.bipush 8, 2) := by decide +kernel
theorem dX0_passRumours_2 : decode cX0_passRumours 2 = .ok (.istore_n 3, 1) := by decide +kernel
theorem dX0_passRumours_3 : decode cX0_passRumours 3 = .ok (.iload_n 3, 1) := by decide +kernel
theorem dX0_passRumours_4 : decode cX0_passRumours 4 = .ok (.aload_n 0, 1) := by decide +kernel
theorem dX0_passRumours_5 : decode cX0_passRumours 5 = .ok (.getfield 19, 3) := by decide +kernel
theorem dX0_passRumours_8 : decode cX0_passRumours 8 = .ok (.getfield 118, 3) := by decide +kernel
theorem dX0_passRumours_11 : decode cX0_passRumours 11 = .ok (.arraylength, 1) := by decide +kernel
theorem dX0_passRumours_12 : decode cX0_passRumours 12 = .ok (.if_icmp .ge 40, 3) := by decide +kernel
theorem dX0_passRumours_15 : decode cX0_passRumours 15 = .ok (.aload_n 0, 1) := by decide +kernel
theorem dX0_passRumours_16 : decode cX0_passRumours 16 = .ok (.getfield 19, 3) := by decide +kernel
theorem dX0_passRumours_19 : decode cX0_passRumours 19 = .ok (.getfield 118, 3) := by decide +kernel
theorem dX0_passRumours_22 : decode cX0_passRumours 22 = .ok (.iload_n 3, 1) := by decide +kernel
theorem dX0_passRumours_23 : decode cX0_passRumours 23 = .ok (.iaload, 1) := by decide +kernel
theorem dX0_passRumours_24 : decode cX0_passRumours 24 = .ok (.iload_n 1, 1) := by decide +kernel
theorem dX0_passRumours_25 : decode cX0_passRumours 25 = .ok (.ishr, 1) := by decide +kernel
theorem dX0_passRumours_26 : decode cX0_passRumours 26 = .ok (.iconst 1, 1) := by decide +kernel
theorem dX0_passRumours_27 : decode cX0_passRumours 27 = .ok (.iand, 1) := by decide +kernel
theorem dX0_passRumours_28 : decode cX0_passRumours 28 = .ok (.ifCond .eq 18, 3) := by decide +kernel
theorem dX0_passRumours_31 : decode cX0_passRumours 31 = .ok (.aload_n 0, 1) := by decide +kernel
theorem dX0_passRumours_32 : decode cX0_passRumours 32 = .ok (.getfield 19, 3) := by decide +kernel
theorem dX0_passRumours_35 : decode cX0_passRumours 35 = .ok (.getfield 118, 3) := by decide +kernel
theorem dX0_passRumours_38 : decode cX0_passRumours 38 = .ok (.iload_n 3, 1) := by decide +kernel
theorem dX0_passRumours_39 : decode cX0_passRumours 39 = .ok (.dup2, 1) := by decide +kernel
theorem dX0_passRumours_40 : decode cX0_passRumours 40 = .ok (.iaload, 1) := by decide +kernel
theorem dX0_passRumours_41 : decode cX0_passRumours 41 = .ok (.iconst 1, 1) := by decide +kernel
theorem dX0_passRumours_42 : decode cX0_passRumours 42 = .ok (.iload_n 2, 1) := by decide +kernel
theorem dX0_passRumours_43 : decode cX0_passRumours 43 = .ok (.ishl, 1) := by decide +kernel
theorem dX0_passRumours_44 : decode cX0_passRumours 44 = .ok (.ior, 1) := by decide +kernel
theorem dX0_passRumours_45 : decode cX0_passRumours 45 = .ok (.iastore, 1) := by decide +kernel
theorem dX0_passRumours_46 : decode cX0_passRumours 46 = .ok (.iinc 3 1, 3) := by decide +kernel
theorem dX0_passRumours_49 : decode cX0_passRumours 49 = .ok (.goto (-46), 3) := by decide +kernel
theorem dX0_passRumours_52 : decode cX0_passRumours 52 = .ok (.return_, 1) := by decide +kernel
theorem dX0_dieAsTold_0 : decode cX0_dieAsTold 0 = .ok (.iconst 0, 1) := by decide +kernel
theorem dX0_dieAsTold_1 : decode cX0_dieAsTold 1 = .ok (.istore_n 1, 1) := by decide +kernel
theorem dX0_dieAsTold_2 : decode cX0_dieAsTold 2 = .ok (.iload_n 1, 1) := by decide +kernel
theorem dX0_dieAsTold_3 : decode cX0_dieAsTold 3 = .ok (.aload_n 0, 1) := by decide +kernel
theorem dX0_dieAsTold_4 : decode cX0_dieAsTold 4 = .ok (.getfield 15, 3) := by decide +kernel
theorem dX0_dieAsTold_7 : decode cX0_dieAsTold 7 = .ok (.getfield 125, 3) := by decide +kernel
theorem dX0_dieAsTold_10 : decode cX0_dieAsTold 10 = .ok (.if_icmp .ge 42, 3) := by decide +kernel
theorem dX0_dieAsTold_13 : decode cX0_dieAsTold 13 = .ok (.iload_n 1, 1) := by decide +kernel
theorem dX0_dieAsTold_14 : decode cX0_dieAsTold 14 = .ok (.bipush 6, 2) := by decide +kernel
theorem dX0_dieAsTold_16 : decode cX0_dieAsTold 16 = .ok (.if_icmp .ge 36, 3) := by decide +kernel
theorem dX0_dieAsTold_19 : decode cX0_dieAsTold 19 = .ok (.aload_n 0, 1) := by decide +kernel
theorem dX0_dieAsTold_20 : decode cX0_dieAsTold 20 = .ok (.getfield 15, 3) := by decide +kernel
theorem dX0_dieAsTold_23 : decode cX0_dieAsTold 23 = .ok (.getfield 128, 3) := by decide +kernel
theorem dX0_dieAsTold_26 : decode cX0_dieAsTold 26 = .ok (.iload_n 1, 1) := by decide +kernel
theorem dX0_dieAsTold_27 : decode cX0_dieAsTold 27 = .ok (.iaload, 1) := by decide +kernel
theorem dX0_dieAsTold_28 : decode cX0_dieAsTold 28 = .ok (.aload_n 0, 1) := by decide +kernel
theorem dX0_dieAsTold_29 : decode cX0_dieAsTold 29 = .ok (.getfield 19, 3) := by decide +kernel
theorem dX0_dieAsTold_32 : decode cX0_dieAsTold 32 = .ok (.getfield 45, 3) := by decide +kernel
theorem dX0_dieAsTold_35 : decode cX0_dieAsTold 35 = .ok (.if_icmp .ne 11, 3) := by decide +kernel
theorem dX0_dieAsTold_38 : decode cX0_dieAsTold 38 = .ok (.aload_n 0, 1) := by decide +kernel
theorem dX0_dieAsTold_39 : decode cX0_dieAsTold 39 = .ok (.getfield 19, 3) := by decide +kernel
theorem dX0_dieAsTold_42 : decode cX0_dieAsTold 42 = .ok (.iload_n 1, 1) := by decide +kernel
theorem dX0_dieAsTold_43 : decode cX0_dieAsTold 43 = .ok (.invokevirtual 131, 3) := by decide +kernel
theorem dX0_dieAsTold_46 : decode cX0_dieAsTold 46 = .ok (.iinc 1 1, 3) := by decide +kernel
theorem dX0_dieAsTold_49 : decode cX0_dieAsTold 49 = .ok (.goto (-47), 3) := by decide +kernel
theorem dX0_dieAsTold_52 : decode cX0_dieAsTold 52 = .ok (.return_, 1) := by decide +kernel
theorem dX0_payAll_0 : decode cX0_payAll 0 = .ok (.iconst 0, 1) := by decide +kernel
theorem dX0_payAll_1 : decode cX0_payAll 1 = .ok (.istore_n 1, 1) := by decide +kernel
theorem dX0_payAll_2 : decode cX0_payAll 2 = .ok (.iload_n 1, 1) := by decide +kernel
theorem dX0_payAll_3 : decode cX0_payAll 3 = .ok (.aload_n 0, 1) := by decide +kernel
theorem dX0_payAll_4 : decode cX0_payAll 4 = .ok (.getfield 19, 3) := by decide +kernel
theorem dX0_payAll_7 : decode cX0_payAll 7 = .ok (.getfield 59, 3) := by decide +kernel
theorem dX0_payAll_10 : decode cX0_payAll 10 = .ok (.if_icmp .ge 49, 3) := by decide +kernel
theorem dX0_payAll_13 : decode cX0_payAll 13 = .ok (.aload_n 0, 1) := by decide +kernel
theorem dX0_payAll_14 : decode cX0_payAll 14 = .ok (.getfield 19, 3) := by decide +kernel
theorem dX0_payAll_17 : decode cX0_payAll 17 = .ok (.getfield 62, 3) := by decide +kernel
theorem dX0_payAll_20 : decode cX0_payAll 20 = .ok (.iload_n 1, 1) := by decide +kernel
theorem dX0_payAll_21 : decode cX0_payAll 21 = .ok (.iaload, 1) := by decide +kernel
theorem dX0_payAll_22 : decode cX0_payAll 22 = .ok (.iconst 1, 1) := by decide +kernel
theorem dX0_payAll_23 : decode cX0_payAll 23 = .ok (.if_icmp .ne 30, 3) := by decide +kernel
theorem dX0_payAll_26 : decode cX0_payAll 26 = .ok (.aload_n 0, 1) := by decide +kernel
theorem dX0_payAll_27 : decode cX0_payAll 27 = .ok (.getfield 19, 3) := by decide +kernel
theorem dX0_payAll_30 : decode cX0_payAll 30 = .ok (.iload_n 1, 1) := by decide +kernel
theorem dX0_payAll_31 : decode cX0_payAll 31 = .ok (.invokevirtual 135, 3) := by decide +kernel
theorem dX0_payAll_34 : decode cX0_payAll 34 = .ok (.ifCond .eq 19, 3) := by decide +kernel
theorem dX0_payAll_37 : decode cX0_payAll 37 = .ok (.aload_n 0, 1) := by decide +kernel
theorem dX0_payAll_38 : decode cX0_payAll 38 = .ok (.iload_n 1, 1) := by decide +kernel
theorem dX0_payAll_39 : decode cX0_payAll 39 = .ok (.invokevirtual 138, 3) := by decide +kernel
theorem dX0_payAll_42 : decode cX0_payAll 42 = .ok (.ifCond .eq 11, 3) := by decide +kernel
theorem dX0_payAll_45 : decode cX0_payAll 45 = .ok (.aload_n 0, 1) := by decide +kernel
theorem dX0_payAll_46 : decode cX0_payAll 46 = .ok (.getfield 19, 3) := by decide +kernel
theorem dX0_payAll_49 : decode cX0_payAll 49 = .ok (.iload_n 1, 1) := by decide +kernel
theorem dX0_payAll_50 : decode cX0_payAll 50 = .ok (.invokevirtual 141, 3) := by decide +kernel
theorem dX0_payAll_53 : decode cX0_payAll 53 = .ok (.iinc 1 1, 3) := by decide +kernel
theorem dX0_payAll_56 : decode cX0_payAll 56 = .ok (.goto (-54), 3) := by decide +kernel
theorem dX0_payAll_59 : decode cX0_payAll 59 = .ok (.return_, 1) := by decide +kernel
theorem dX0_isDue_0 : decode cX0_isDue 0 = .ok (.aload_n 0, 1) := by decide +kernel
theorem dX0_isDue_1 : decode cX0_isDue 1 = .ok (.iload_n 1, 1) := by decide +kernel
theorem dX0_isDue_2 : decode cX0_isDue 2 = .ok (.invokevirtual 144, 3) := by decide +kernel
theorem dX0_isDue_5 : decode cX0_isDue 5 = .ok (.lstore_n 2, 1) := by decide +kernel
theorem dX0_isDue_6 : decode cX0_isDue 6 = .ok (.lload_n 2, 1) := by decide +kernel
theorem dX0_isDue_7 : decode cX0_isDue 7 = .ok (.ldc2_w 148, 3) := by decide +kernel
theorem dX0_isDue_10 : decode cX0_isDue 10 = .ok (.lcmp, 1) := by decide +kernel
theorem dX0_isDue_11 : decode cX0_isDue 11 = .ok (.ifCond .ne 23, 3) := by decide +kernel
theorem dX0_isDue_14 : decode cX0_isDue 14 = .ok (.aload_n 0, 1) := by decide +kernel
theorem dX0_isDue_15 : decode cX0_isDue 15 = .ok (.getfield 19, 3) := by decide +kernel
theorem dX0_isDue_18 : decode cX0_isDue 18 = .ok (.iload_n 1, 1) := by decide +kernel
theorem dX0_isDue_19 : decode cX0_isDue 19 = .ok (.invokevirtual 150, 3) := by decide +kernel
theorem dX0_isDue_22 : decode cX0_isDue 22 = .ok (.iconst 5, 1) := by decide +kernel
theorem dX0_isDue_23 : decode cX0_isDue 23 = .ok (.if_icmp .lt 7, 3) := by decide +kernel
theorem dX0_isDue_26 : decode cX0_isDue 26 = .ok (.iconst 1, 1) := by decide +kernel
theorem dX0_isDue_27 : decode cX0_isDue 27 = .ok (.goto 18, 3) := by decide +kernel
theorem dX0_isDue_30 : decode cX0_isDue 30 = .ok (.iconst 0, 1) := by decide +kernel
theorem dX0_isDue_31 : decode cX0_isDue 31 = .ok (.goto 14, 3) := by decide +kernel
theorem dX0_isDue_34 : decode cX0_isDue 34 = .ok (.lload_n 2, 1) := by decide +kernel
theorem dX0_isDue_35 : decode cX0_isDue 35 = .ok (.lconst 0, 1) := by decide +kernel
theorem dX0_isDue_36 : decode cX0_isDue 36 = .ok (.lcmp, 1) := by decide +kernel
theorem dX0_isDue_37 : decode cX0_isDue 37 = .ok (.ifCond .eq 7, 3) := by decide +kernel
theorem dX0_isDue_40 : decode cX0_isDue 40 = .ok (.iconst 1, 1) := by decide +kernel
theorem dX0_isDue_41 : decode cX0_isDue 41 = .ok (.goto 4, 3) := by decide +kernel
theorem dX0_isDue_44 : decode cX0_isDue 44 = .ok (.iconst 0, 1) := by decide +kernel
theorem dX0_isDue_45 : decode cX0_isDue 45 = .ok (.ireturn, 1) := by decide +kernel
theorem dX0_addInterest_0 : decode cX0_addInterest 0 = .ok (.iconst 0, 1) := by decide +kernel
theorem dX0_addInterest_1 : decode cX0_addInterest 1 = .ok (.istore_n 1, 1) := by decide +kernel
theorem dX0_addInterest_2 : decode cX0_addInterest 2 = .ok (.iload_n 1, 1) := by decide +kernel
theorem dX0_addInterest_3 : decode cX0_addInterest 3 = .ok (.aload_n 0, 1) := by decide +kernel
theorem dX0_addInterest_4 : decode cX0_addInterest 4 = .ok (.getfield 19, 3) := by decide +kernel
theorem dX0_addInterest_7 : decode cX0_addInterest 7 = .ok (.getfield 59, 3) := by decide +kernel
theorem dX0_addInterest_10 : decode cX0_addInterest 10 = .ok (.if_icmp .ge 61, 3) := by decide +kernel
theorem dX0_addInterest_13 : decode cX0_addInterest 13 = .ok (.aload_n 0, 1) := by decide +kernel
theorem dX0_addInterest_14 : decode cX0_addInterest 14 = .ok (.getfield 19, 3) := by decide +kernel
theorem dX0_addInterest_17 : decode cX0_addInterest 17 = .ok (.getfield 62, 3) := by decide +kernel
theorem dX0_addInterest_20 : decode cX0_addInterest 20 = .ok (.iload_n 1, 1) := by decide +kernel
theorem dX0_addInterest_21 : decode cX0_addInterest 21 = .ok (.iaload, 1) := by decide +kernel
theorem dX0_addInterest_22 : decode cX0_addInterest 22 = .ok (.iconst 1, 1) := by decide +kernel
theorem dX0_addInterest_23 : decode cX0_addInterest 23 = .ok (.if_icmp .ne 42, 3) := by decide +kernel
theorem dX0_addInterest_26 : decode cX0_addInterest 26 = .ok (.aload_n 0, 1) := by decide +kernel
theorem dX0_addInterest_27 : decode cX0_addInterest 27 = .ok (.getfield 19, 3) := by decide +kernel
theorem dX0_addInterest_30 : decode cX0_addInterest 30 = .ok (.getfield 153, 3) := by decide +kernel
theorem dX0_addInterest_33 : decode cX0_addInterest 33 = .ok (.iload_n 1, 1) := by decide +kernel
theorem dX0_addInterest_34 : decode cX0_addInterest 34 = .ok (.iaload, 1) := by decide +kernel
theorem dX0_addInterest_35 : decode cX0_addInterest 35 = .ok (.istore_n 2, 1) := by decide +kernel
theorem dX0_addInterest_36 : decode cX0_addInterest 36 = .ok (.aload_n 0, 1) := by decide +kernel
theorem dX0_addInterest_37 : decode cX0_addInterest 37 = .ok (.getfield 19, 3) := by decide +kernel
theorem dX0_addInterest_40 : decode cX0_addInterest 40 = .ok (.getfield 153, 3) := by decide +kernel
theorem dX0_addInterest_43 : decode cX0_addInterest 43 = .ok (.iload_n 1, 1) := by decide +kernel
theorem dX0_addInterest_44 : decode cX0_addInterest 44 = .ok (.sipush 9999, 3) := by decide +kernel
theorem dX0_addInterest_47 : decode cX0_addInterest 47 = .ok (.iload_n 2, 1) := by decide +kernel
theorem dX0_addInterest_48 : decode cX0_addInterest 48 = .ok (.iload_n 2, 1) := by decide +kernel
theorem dX0_addInterest_49 : decode cX0_addInterest 49 = .ok (.aload_n 0, 1) := by decide +kernel
theorem dX0_addInterest_50 : decode cX0_addInterest 50 = .ok (.getfield 15, 3) := by decide +kernel
theorem dX0_addInterest_53 : decode cX0_addInterest 53 = .ok (.getfield 156, 3) := by decide +kernel
theorem dX0_addInterest_56 : decode cX0_addInterest 56 = .ok (.imul, 1) := by decide +kernel
theorem dX0_addInterest_57 : decode cX0_addInterest 57 = .ok (.bipush 100, 2) := by decide +kernel
theorem dX0_addInterest_59 : decode cX0_addInterest 59 = .ok (.idiv, 1) := by decide +kernel
theorem dX0_addInterest_60 : decode cX0_addInterest 60 = .ok (.iadd, 1) := by decide +kernel
theorem dX0_addInterest_61 : decode cX0_addInterest 61 = .ok (.invokestatic 159, 3) := by decide +kernel
theorem dX0_addInterest_64 : decode cX0_addInterest 64 = .ok (.iastore, 1) := by decide +kernel
theorem dX0_addInterest_65 : decode cX0_addInterest 65 = .ok (.iinc 1 1, 3) := by decide +kernel
theorem dX0_addInterest_68 : decode cX0_addInterest 68 = .ok (.goto (-66), 3) := by decide +kernel
theorem dX0_addInterest_71 : decode cX0_addInterest 71 = .ok (.return_, 1) := by decide +kernel
theorem dX0_growOlder_0 : decode cX0_growOlder 0 = .ok (.iconst 0, 1) := by decide +kernel
theorem dX0_growOlder_1 : decode cX0_growOlder 1 = .ok (.istore_n 1, 1) := by decide +kernel
theorem dX0_growOlder_2 : decode cX0_growOlder 2 = .ok (.iload_n 1, 1) := by decide +kernel
theorem dX0_growOlder_3 : decode cX0_growOlder 3 = .ok (.aload_n 0, 1) := by decide +kernel
theorem dX0_growOlder_4 : decode cX0_growOlder 4 = .ok (.getfield 15, 3) := by decide +kernel
theorem dX0_growOlder_7 : decode cX0_growOlder 7 = .ok (.getfield 125, 3) := by decide +kernel
theorem dX0_growOlder_10 : decode cX0_growOlder 10 = .ok (.if_icmp .ge 88, 3) := by decide +kernel
theorem dX0_growOlder_13 : decode cX0_growOlder 13 = .ok (.iload_n 1, 1) := by decide +kernel
theorem dX0_growOlder_14 : decode cX0_growOlder 14 = .ok (.bipush 6, 2) := by decide +kernel
theorem dX0_growOlder_16 : decode cX0_growOlder 16 = .ok (.if_icmp .ge 82, 3) := by decide +kernel
theorem dX0_growOlder_19 : decode cX0_growOlder 19 = .ok (.aload_n 0, 1) := by decide +kernel
theorem dX0_growOlder_20 : decode cX0_growOlder 20 = .ok (.getfield 19, 3) := by decide +kernel
theorem dX0_growOlder_23 : decode cX0_growOlder 23 = .ok (.iload_n 1, 1) := by decide +kernel
theorem dX0_growOlder_24 : decode cX0_growOlder 24 = .ok (.invokevirtual 81, 3) := by decide +kernel
theorem dX0_growOlder_27 : decode cX0_growOlder 27 = .ok (.ifCond .eq 65, 3) := by decide +kernel
theorem dX0_growOlder_30 : decode cX0_growOlder 30 = .ok (.aload_n 0, 1) := by decide +kernel
theorem dX0_growOlder_31 : decode cX0_growOlder 31 = .ok (.getfield 19, 3) := by decide +kernel
theorem dX0_growOlder_34 : decode cX0_growOlder 34 = .ok (.getfield 164, 3) := by decide +kernel
theorem dX0_growOlder_37 : decode cX0_growOlder 37 = .ok (.iload_n 1, 1) := by decide +kernel
theorem dX0_growOlder_38 : decode cX0_growOlder 38 = .ok (.bipush 99, 2) := by decide +kernel
theorem dX0_growOlder_40 : decode cX0_growOlder 40 = .ok (.aload_n 0, 1) := by decide +kernel
theorem dX0_growOlder_41 : decode cX0_growOlder 41 = .ok (.getfield 19, 3) := by decide +kernel
theorem dX0_growOlder_44 : decode cX0_growOlder 44 = .ok (.getfield 164, 3) := by decide +kernel
theorem dX0_growOlder_47 : decode cX0_growOlder 47 = .ok (.iload_n 1, 1) := by decide +kernel
theorem dX0_growOlder_48 : decode cX0_growOlder 48 = .ok (.iaload, 1) := by decide +kernel
theorem dX0_growOlder_49 : decode cX0_growOlder 49 = .ok (.iconst 1, 1) := by decide +kernel
theorem dX0_growOlder_50 : decode cX0_growOlder 50 = .ok (.iadd, 1) := by decide +kernel
theorem dX0_growOlder_51 : decode cX0_growOlder 51 = .ok (.invokestatic 159, 3) := by decide +kernel
theorem dX0_growOlder_54 : decode cX0_growOlder 54 = .ok (.iastore, 1) := by decide +kernel
theorem dX0_growOlder_55 : decode cX0_growOlder 55 = .ok (.aload_n 0, 1) := by decide +kernel
theorem dX0_growOlder_56 : decode cX0_growOlder 56 = .ok (.getfield 23, 3) := by decide +kernel
theorem dX0_growOlder_59 : decode cX0_growOlder 59 = .ok (.iconst 1, 1) := by decide +kernel
theorem dX0_growOlder_60 : decode cX0_growOlder 60 = .ok (.if_icmp .eq 32, 3) := by decide +kernel
theorem dX0_growOlder_63 : decode cX0_growOlder 63 = .ok (.aload_n 0, 1) := by decide +kernel
theorem dX0_growOlder_64 : decode cX0_growOlder 64 = .ok (.aload_n 0, 1) := by decide +kernel
theorem dX0_growOlder_65 : decode cX0_growOlder 65 = .ok (.iload_n 1, 1) := by decide +kernel
theorem dX0_growOlder_66 : decode cX0_growOlder 66 = .ok (.aload_n 0, 1) := by decide +kernel
theorem dX0_growOlder_67 : decode cX0_growOlder 67 = .ok (.getfield 19, 3) := by decide +kernel
theorem dX0_growOlder_70 : decode cX0_growOlder 70 = .ok (.getfield 164, 3) := by decide +kernel
theorem dX0_growOlder_73 : decode cX0_growOlder 73 = .ok (.iload_n 1, 1) := by decide +kernel
theorem dX0_growOlder_74 : decode cX0_growOlder 74 = .ok (.iaload, 1) := by decide +kernel
theorem dX0_growOlder_75 : decode cX0_growOlder 75 = .ok (.invokevirtual 167, 3) := by decide +kernel
theorem dX0_growOlder_78 : decode cX0_growOlder 78 = .ok (.invokevirtual 170, 3) := by decide +kernel
theorem dX0_growOlder_81 : decode cX0_growOlder 81 = .ok (.ifCond .eq 11, 3) := by decide +kernel
theorem dX0_growOlder_84 : decode cX0_growOlder 84 = .ok (.aload_n 0, 1) := by decide +kernel
theorem dX0_growOlder_85 : decode cX0_growOlder 85 = .ok (.getfield 19, 3) := by decide +kernel
theorem dX0_growOlder_88 : decode cX0_growOlder 88 = .ok (.iload_n 1, 1) := by decide +kernel
theorem dX0_growOlder_89 : decode cX0_growOlder 89 = .ok (.invokevirtual 131, 3) := by decide +kernel
theorem dX0_growOlder_92 : decode cX0_growOlder 92 = .ok (.iinc 1 1, 3) := by decide +kernel
theorem dX0_growOlder_95 : decode cX0_growOlder 95 = .ok (.goto (-93), 3) := by decide +kernel
theorem dX0_growOlder_98 : decode cX0_growOlder 98 = .ok (.return_, 1) := by decide +kernel
theorem dX0_isFatal_0 : decode cX0_isFatal 0 = .ok (.aload_n 0, 1) := by decide +kernel
theorem dX0_isFatal_1 : decode cX0_isFatal 1 = .ok (.getfield 23, 3) := by decide +kernel
theorem dX0_isFatal_4 : decode cX0_isFatal 4 = .ok (.iconst (-1), 1) := by decide +kernel
theorem dX0_isFatal_5 : decode cX0_isFatal 5 = .ok (.if_icmp .ne 33, 3) := by decide +kernel
theorem dX0_isFatal_8 : decode cX0_isFatal 8 = .ok (.iload_n 1, 1) := by decide +kernel
theorem dX0_isFatal_9 : decode cX0_isFatal 9 = .ok (.ifCond .le 29, 3) := by decide +kernel
theorem dX0_isFatal_12 : decode cX0_isFatal 12 = .ok (.iload_n 1, 1) := by decide +kernel
theorem dX0_isFatal_13 : decode cX0_isFatal 13 = .ok (.bipush 100, 2) := by decide +kernel
theorem dX0_isFatal_15 : decode cX0_isFatal 15 = .ok (.if_icmp .ge 23, 3) := by decide +kernel
theorem dX0_isFatal_18 : decode cX0_isFatal 18 = .ok (.aload_n 0, 1) := by decide +kernel
theorem dX0_isFatal_19 : decode cX0_isFatal 19 = .ok (.getfield 19, 3) := by decide +kernel
theorem dX0_isFatal_22 : decode cX0_isFatal 22 = .ok (.invokevirtual 173, 3) := by decide +kernel
theorem dX0_isFatal_25 : decode cX0_isFatal 25 = .ok (.bipush 100, 2) := by decide +kernel
theorem dX0_isFatal_27 : decode cX0_isFatal 27 = .ok (.irem, 1) := by decide +kernel
theorem dX0_isFatal_28 : decode cX0_isFatal 28 = .ok (.iload_n 1, 1) := by decide +kernel
theorem dX0_isFatal_29 : decode cX0_isFatal 29 = .ok (.if_icmp .ge 7, 3) := by decide +kernel
theorem dX0_isFatal_32 : decode cX0_isFatal 32 = .ok (.iconst 1, 1) := by decide +kernel
theorem dX0_isFatal_33 : decode cX0_isFatal 33 = .ok (.goto 4, 3) := by decide +kernel
theorem dX0_isFatal_36 : decode cX0_isFatal 36 = .ok (.iconst 0, 1) := by decide +kernel
theorem dX0_isFatal_37 : decode cX0_isFatal 37 = .ok (.ireturn, 1) := by decide +kernel
theorem dX0_isFatal_38 : decode cX0_isFatal 38 = .ok (.aload_n 0, 1) := by decide +kernel
theorem dX0_isFatal_39 : decode cX0_isFatal 39 = .ok (.getfield 23, 3) := by decide +kernel
theorem dX0_isFatal_42 : decode cX0_isFatal 42 = .ok (.iconst (-1), 1) := by decide +kernel
theorem dX0_isFatal_43 : decode cX0_isFatal 43 = .ok (.if_icmp .ne 17, 3) := by decide +kernel
theorem dX0_isFatal_46 : decode cX0_isFatal 46 = .ok (.iload_n 1, 1) := by decide +kernel
theorem dX0_isFatal_47 : decode cX0_isFatal 47 = .ok (.bipush 100, 2) := by decide +kernel
theorem dX0_isFatal_49 : decode cX0_isFatal 49 = .ok (.if_icmp .ne 7, 3) := by decide +kernel
theorem dX0_isFatal_52 : decode cX0_isFatal 52 = .ok (.iconst 1, 1) := by decide +kernel
theorem dX0_isFatal_53 : decode cX0_isFatal 53 = .ok (.goto 18, 3) := by decide +kernel
theorem dX0_isFatal_56 : decode cX0_isFatal 56 = .ok (.iconst 0, 1) := by decide +kernel
theorem dX0_isFatal_57 : decode cX0_isFatal 57 = .ok (.goto 14, 3) := by decide +kernel
theorem dX0_isFatal_60 : decode cX0_isFatal 60 = .ok (.iload_n 1, 1) := by decide +kernel
theorem dX0_isFatal_61 : decode cX0_isFatal 61 = .ok (.bipush 50, 2) := by decide +kernel
theorem dX0_isFatal_63 : decode cX0_isFatal 63 = .ok (.if_icmp .lt 7, 3) := by decide +kernel
theorem dX0_isFatal_66 : decode cX0_isFatal 66 = .ok (.iconst 1, 1) := by decide +kernel
theorem dX0_isFatal_67 : decode cX0_isFatal 67 = .ok (.goto 4, 3) := by decide +kernel
theorem dX0_isFatal_70 : decode cX0_isFatal 70 = .ok (.iconst 0, 1) := by decide +kernel
theorem dX0_isFatal_71 : decode cX0_isFatal 71 = .ok (.ireturn, 1) := by decide +kernel
theorem dX0_forgive_0 : decode cX0_forgive 0 = .ok (.iconst 0, 1) := by decide +kernel
theorem dX0_forgive_1 : decode cX0_forgive 1 = .ok (.istore_n 1, 1) := by decide +kernel
theorem dX0_forgive_2 : decode cX0_forgive 2 = .ok (.iload_n 1, 1) := by decide +kernel
theorem dX0_forgive_3 : decode cX0_forgive 3 = .ok (.aload_n 0, 1) := by decide +kernel
theorem dX0_forgive_4 : decode cX0_forgive 4 = .ok (.getfield 19, 3) := by decide +kernel
theorem dX0_forgive_7 : decode cX0_forgive 7 = .ok (.getfield 59, 3) := by decide +kernel
theorem dX0_forgive_10 : decode cX0_forgive 10 = .ok (.if_icmp .ge 43, 3) := by decide +kernel
theorem dX0_forgive_13 : decode cX0_forgive 13 = .ok (.aload_n 0, 1) := by decide +kernel
theorem dX0_forgive_14 : decode cX0_forgive 14 = .ok (.getfield 19, 3) := by decide +kernel
theorem dX0_forgive_17 : decode cX0_forgive 17 = .ok (.getfield 62, 3) := by decide +kernel
theorem dX0_forgive_20 : decode cX0_forgive 20 = .ok (.iload_n 1, 1) := by decide +kernel
theorem dX0_forgive_21 : decode cX0_forgive 21 = .ok (.iaload, 1) := by decide +kernel
theorem dX0_forgive_22 : decode cX0_forgive 22 = .ok (.iconst 1, 1) := by decide +kernel
theorem dX0_forgive_23 : decode cX0_forgive 23 = .ok (.if_icmp .ne 24, 3) := by decide +kernel
theorem dX0_forgive_26 : decode cX0_forgive 26 = .ok (.aload_n 0, 1) := by decide +kernel
theorem dX0_forgive_27 : decode cX0_forgive 27 = .ok (.getfield 19, 3) := by decide +kernel
theorem dX0_forgive_30 : decode cX0_forgive 30 = .ok (.getfield 118, 3) := by decide +kernel
theorem dX0_forgive_33 : decode cX0_forgive 33 = .ok (.iload_n 1, 1) := by decide +kernel
theorem dX0_forgive_34 : decode cX0_forgive 34 = .ok (.iaload, 1) := by decide +kernel
theorem dX0_forgive_35 : decode cX0_forgive 35 = .ok (.ifCond .ne 12, 3) := by decide +kernel
theorem dX0_forgive_38 : decode cX0_forgive 38 = .ok (.aload_n 0, 1) := by decide +kernel
theorem dX0_forgive_39 : decode cX0_forgive 39 = .ok (.getfield 19, 3) := by decide +kernel
theorem dX0_forgive_42 : decode cX0_forgive 42 = .ok (.iload_n 1, 1) := by decide +kernel
theorem dX0_forgive_43 : decode cX0_forgive 43 = .ok (.iconst 3, 1) := by decide +kernel
theorem dX0_forgive_44 : decode cX0_forgive 44 = .ok (.invokevirtual 95, 3) := by decide +kernel
theorem dX0_forgive_47 : decode cX0_forgive 47 = .ok (.iinc 1 1, 3) := by decide +kernel
theorem dX0_forgive_50 : decode cX0_forgive 50 = .ok (.goto (-48), 3) := by decide +kernel
theorem dX0_forgive_53 : decode cX0_forgive 53 = .ok (.return_, 1) := by decide +kernel
theorem dX0_oddsOf_0 : decode cX0_oddsOf 0 = .ok (.aload_n 0, 1) := by decide +kernel
theorem dX0_oddsOf_1 : decode cX0_oddsOf 1 = .ok (.iload_n 1, 1) := by decide +kernel
theorem dX0_oddsOf_2 : decode cX0_oddsOf 2 = .ok (.iload_n 2, 1) := by decide +kernel
theorem dX0_oddsOf_3 : decode cX0_oddsOf 3 = .ok (.invokevirtual 177, 3) := by decide +kernel
theorem dX0_oddsOf_6 : decode cX0_oddsOf 6 = .ok (.lstore_n 3, 1) := by decide +kernel
theorem dX0_oddsOf_7 : decode cX0_oddsOf 7 = .ok (.lload_n 3, 1) := by decide +kernel
theorem dX0_oddsOf_8 : decode cX0_oddsOf 8 = .ok (.ldc2_w 148, 3) := by decide +kernel
theorem dX0_oddsOf_11 : decode cX0_oddsOf 11 = .ok (.lcmp, 1) := by decide +kernel
theorem dX0_oddsOf_12 : decode cX0_oddsOf 12 = .ok (.ifCond .ne 12, 3) := by decide +kernel
theorem dX0_oddsOf_15 : decode cX0_oddsOf 15 = .ok (.iconst 0, 1) := by decide +kernel
theorem dX0_oddsOf_16 : decode cX0_oddsOf 16 = .ok (.iload_n 2, 1) := by decide +kernel
theorem dX0_oddsOf_17 : decode cX0_oddsOf 17 = .ok (.bipush 60, 2) := by decide +kernel
theorem dX0_oddsOf_19 : decode cX0_oddsOf 19 = .ok (.isub, 1) := by decide +kernel
theorem dX0_oddsOf_20 : decode cX0_oddsOf 20 = .ok (.invokestatic 180, 3) := by decide +kernel
theorem dX0_oddsOf_23 : decode cX0_oddsOf 23 = .ok (.ireturn, 1) := by decide +kernel
theorem dX0_oddsOf_24 : decode cX0_oddsOf 24 = .ok (.lconst 0, 1) := by decide +kernel
theorem dX0_oddsOf_25 : decode cX0_oddsOf 25 = .ok (.ldc2_w 183, 3) := by decide +kernel
theorem dX0_oddsOf_28 : decode cX0_oddsOf 28 = .ok (.lload_n 3, 1) := by decide +kernel
theorem dX0_oddsOf_29 : decode cX0_oddsOf 29 = .ok (.invokestatic 185, 3) := by decide +kernel
theorem dX0_oddsOf_32 : decode cX0_oddsOf 32 = .ok (.invokestatic 188, 3) := by decide +kernel
theorem dX0_oddsOf_35 : decode cX0_oddsOf 35 = .ok (.l2i, 1) := by decide +kernel
theorem dX0_oddsOf_36 : decode cX0_oddsOf 36 = .ok (.ireturn, 1) := by decide +kernel
theorem dX0_passValue_0 : decode cX0_passValue 0 = .ok (.iload_n 2, 1) := by decide +kernel
theorem dX0_passValue_1 : decode cX0_passValue 1 = .ok (.ifCond .lt 21, 3) := by decide +kernel
theorem dX0_passValue_4 : decode cX0_passValue 4 = .ok (.iload_n 2, 1) := by decide +kernel
theorem dX0_passValue_5 : decode cX0_passValue 5 = .ok (.bipush 6, 2) := by decide +kernel
theorem dX0_passValue_7 : decode cX0_passValue 7 = .ok (.if_icmp .ge 15, 3) := by decide +kernel
theorem dX0_passValue_10 : decode cX0_passValue 10 = .ok (.aload_n 0, 1) := by decide +kernel
theorem dX0_passValue_11 : decode cX0_passValue 11 = .ok (.getfield 19, 3) := by decide +kernel
theorem dX0_passValue_14 : decode cX0_passValue 14 = .ok (.getfield 164, 3) := by decide +kernel
theorem dX0_passValue_17 : decode cX0_passValue 17 = .ok (.iload_n 2, 1) := by decide +kernel
theorem dX0_passValue_18 : decode cX0_passValue 18 = .ok (.iaload, 1) := by decide +kernel
theorem dX0_passValue_19 : decode cX0_passValue 19 = .ok (.goto 4, 3) := by decide +kernel
theorem dX0_passValue_22 : decode cX0_passValue 22 = .ok (.iconst 0, 1) := by decide +kernel
theorem dX0_passValue_23 : decode cX0_passValue 23 = .ok (.istore_n 3, 1) := by decide +kernel
theorem dX0_passValue_24 : decode cX0_passValue 24 = .ok (.aload_n 0, 1) := by decide +kernel
theorem dX0_passValue_25 : decode cX0_passValue 25 = .ok (.iload_n 1, 1) := by decide +kernel
theorem dX0_passValue_26 : decode cX0_passValue 26 = .ok (.iload_n 3, 1) := by decide +kernel
theorem dX0_passValue_27 : decode cX0_passValue 27 = .ok (.aload_n 0, 1) := by decide +kernel
theorem dX0_passValue_28 : decode cX0_passValue 28 = .ok (.getfield 19, 3) := by decide +kernel
theorem dX0_passValue_31 : decode cX0_passValue 31 = .ok (.iload_n 2, 1) := by decide +kernel
theorem dX0_passValue_32 : decode cX0_passValue 32 = .ok (.invokevirtual 190, 3) := by decide +kernel
theorem dX0_passValue_35 : decode cX0_passValue 35 = .ok (.invokestatic 193, 3) := by decide +kernel
theorem dX0_passValue_38 : decode cX0_passValue 38 = .ok (.invokevirtual 198, 3) := by decide +kernel
theorem dX0_passValue_41 : decode cX0_passValue 41 = .ok (.aload_n 0, 1) := by decide +kernel
theorem dX0_passValue_42 : decode cX0_passValue 42 = .ok (.getfield 15, 3) := by decide +kernel
theorem dX0_passValue_45 : decode cX0_passValue 45 = .ok (.getfield 201, 3) := by decide +kernel
theorem dX0_passValue_48 : decode cX0_passValue 48 = .ok (.aload_n 0, 1) := by decide +kernel
theorem dX0_passValue_49 : decode cX0_passValue 49 = .ok (.getfield 9, 3) := by decide +kernel
theorem dX0_passValue_52 : decode cX0_passValue 52 = .ok (.invokevirtual 205, 3) := by decide +kernel
theorem dX0_passValue_55 : decode cX0_passValue 55 = .ok (.lreturn, 1) := by decide +kernel
theorem dX0_payValue_0 : decode cX0_payValue 0 = .ok (.aload_n 0, 1) := by decide +kernel
theorem dX0_payValue_1 : decode cX0_payValue 1 = .ok (.getfield 19, 3) := by decide +kernel
theorem dX0_payValue_4 : decode cX0_payValue 4 = .ok (.iload_n 1, 1) := by decide +kernel
theorem dX0_payValue_5 : decode cX0_payValue 5 = .ok (.invokevirtual 211, 3) := by decide +kernel
theorem dX0_payValue_8 : decode cX0_payValue 8 = .ok (.istore_n 2, 1) := by decide +kernel
theorem dX0_payValue_9 : decode cX0_payValue 9 = .ok (.aload_n 0, 1) := by decide +kernel
theorem dX0_payValue_10 : decode cX0_payValue 10 = .ok (.iload_n 1, 1) := by decide +kernel
theorem dX0_payValue_11 : decode cX0_payValue 11 = .ok (.iload_n 2, 1) := by decide +kernel
theorem dX0_payValue_12 : decode cX0_payValue 12 = .ok (.ifCond .lt 21, 3) := by decide +kernel
theorem dX0_payValue_15 : decode cX0_payValue 15 = .ok (.iload_n 2, 1) := by decide +kernel
theorem dX0_payValue_16 : decode cX0_payValue 16 = .ok (.bipush 6, 2) := by decide +kernel
theorem dX0_payValue_18 : decode cX0_payValue 18 = .ok (.if_icmp .ge 15, 3) := by decide +kernel
theorem dX0_payValue_21 : decode cX0_payValue 21 = .ok (.aload_n 0, 1) := by decide +kernel
theorem dX0_payValue_22 : decode cX0_payValue 22 = .ok (.getfield 19, 3) := by decide +kernel
theorem dX0_payValue_25 : decode cX0_payValue 25 = .ok (.getfield 164, 3) := by decide +kernel
theorem dX0_payValue_28 : decode cX0_payValue 28 = .ok (.iload_n 2, 1) := by decide +kernel
theorem dX0_payValue_29 : decode cX0_payValue 29 = .ok (.iaload, 1) := by decide +kernel
theorem dX0_payValue_30 : decode cX0_payValue 30 = .ok (.goto 4, 3) := by decide +kernel
theorem dX0_payValue_33 : decode cX0_payValue 33 = .ok (.iconst 0, 1) := by decide +kernel
theorem dX0_payValue_34 : decode cX0_payValue 34 = .ok (.iconst 0, 1) := by decide +kernel
theorem dX0_payValue_35 : decode cX0_payValue 35 = .ok (.invokevirtual 198, 3) := by decide +kernel
theorem dX0_payValue_38 : decode cX0_payValue 38 = .ok (.aload_n 0, 1) := by decide +kernel
theorem dX0_payValue_39 : decode cX0_payValue 39 = .ok (.getfield 15, 3) := by decide +kernel
theorem dX0_payValue_42 : decode cX0_payValue 42 = .ok (.getfield 214, 3) := by decide +kernel
theorem dX0_payValue_45 : decode cX0_payValue 45 = .ok (.aload_n 0, 1) := by decide +kernel
theorem dX0_payValue_46 : decode cX0_payValue 46 = .ok (.getfield 9, 3) := by decide +kernel
theorem dX0_payValue_49 : decode cX0_payValue 49 = .ok (.invokevirtual 205, 3) := by decide +kernel
theorem dX0_payValue_52 : decode cX0_payValue 52 = .ok (.lreturn, 1) := by decide +kernel
theorem dX0_dieValue_0 : decode cX0_dieValue 0 = .ok (.aload_n 0, 1) := by decide +kernel
theorem dX0_dieValue_1 : decode cX0_dieValue 1 = .ok (.getfield 19, 3) := by decide +kernel
theorem dX0_dieValue_4 : decode cX0_dieValue 4 = .ok (.iload_n 1, 1) := by decide +kernel
theorem dX0_dieValue_5 : decode cX0_dieValue 5 = .ok (.invokevirtual 190, 3) := by decide +kernel
theorem dX0_dieValue_8 : decode cX0_dieValue 8 = .ok (.invokestatic 193, 3) := by decide +kernel
theorem dX0_dieValue_11 : decode cX0_dieValue 11 = .ok (.istore_n 3, 1) := by decide +kernel
theorem dX0_dieValue_12 : decode cX0_dieValue 12 = .ok (.aload_n 0, 1) := by decide +kernel
theorem dX0_dieValue_13 : decode cX0_dieValue 13 = .ok (.getfield 9, 3) := by decide +kernel
theorem dX0_dieValue_16 : decode cX0_dieValue 16 = .ok (.iconst 0, 1) := by decide +kernel
theorem dX0_dieValue_17 : decode cX0_dieValue 17 = .ok (.lconst 0, 1) := by decide +kernel
theorem dX0_dieValue_18 : decode cX0_dieValue 18 = .ok (.lastore, 1) := by decide +kernel
theorem dX0_dieValue_19 : decode cX0_dieValue 19 = .ok (.aload_n 0, 1) := by decide +kernel
theorem dX0_dieValue_20 : decode cX0_dieValue 20 = .ok (.getfield 9, 3) := by decide +kernel
theorem dX0_dieValue_23 : decode cX0_dieValue 23 = .ok (.iconst 1, 1) := by decide +kernel
theorem dX0_dieValue_24 : decode cX0_dieValue 24 = .ok (.iload_n 2, 1) := by decide +kernel
theorem dX0_dieValue_25 : decode cX0_dieValue 25 = .ok (.i2l, 1) := by decide +kernel
theorem dX0_dieValue_26 : decode cX0_dieValue 26 = .ok (.lastore, 1) := by decide +kernel
theorem dX0_dieValue_27 : decode cX0_dieValue 27 = .ok (.aload_n 0, 1) := by decide +kernel
theorem dX0_dieValue_28 : decode cX0_dieValue 28 = .ok (.getfield 9, 3) := by decide +kernel
theorem dX0_dieValue_31 : decode cX0_dieValue 31 = .ok (.iconst 2, 1) := by decide +kernel
theorem dX0_dieValue_32 : decode cX0_dieValue 32 = .ok (.lconst 0, 1) := by decide +kernel
theorem dX0_dieValue_33 : decode cX0_dieValue 33 = .ok (.lastore, 1) := by decide +kernel
theorem dX0_dieValue_34 : decode cX0_dieValue 34 = .ok (.aload_n 0, 1) := by decide +kernel
theorem dX0_dieValue_35 : decode cX0_dieValue 35 = .ok (.getfield 9, 3) := by decide +kernel
theorem dX0_dieValue_38 : decode cX0_dieValue 38 = .ok (.iconst 3, 1) := by decide +kernel
theorem dX0_dieValue_39 : decode cX0_dieValue 39 = .ok (.iload_n 3, 1) := by decide +kernel
theorem dX0_dieValue_40 : decode cX0_dieValue 40 = .ok (.i2l, 1) := by decide +kernel
theorem dX0_dieValue_41 : decode cX0_dieValue 41 = .ok (.lastore, 1) := by decide +kernel
theorem dX0_dieValue_42 : decode cX0_dieValue 42 = .ok (.aload_n 0, 1) := by decide +kernel
theorem dX0_dieValue_43 : decode cX0_dieValue 43 = .ok (.getfield 9, 3) := by decide +kernel
theorem dX0_dieValue_46 : decode cX0_dieValue 46 = .ok (.iconst 4, 1) := by decide +kernel
theorem dX0_dieValue_47 : decode cX0_dieValue 47 = .ok (.lconst 0, 1) := by decide +kernel
theorem dX0_dieValue_48 : decode cX0_dieValue 48 = .ok (.lastore, 1) := by decide +kernel
theorem dX0_dieValue_49 : decode cX0_dieValue 49 = .ok (.aload_n 0, 1) := by decide +kernel
theorem dX0_dieValue_50 : decode cX0_dieValue 50 = .ok (.getfield 9, 3) := by decide +kernel
theorem dX0_dieValue_53 : decode cX0_dieValue 53 = .ok (.iconst 5, 1) := by decide +kernel
theorem dX0_dieValue_54 : decode cX0_dieValue 54 = .ok (.iload_n 3, 1) := by decide +kernel
theorem dX0_dieValue_55 : decode cX0_dieValue 55 = .ok (.i2l, 1) := by decide +kernel
theorem dX0_dieValue_56 : decode cX0_dieValue 56 = .ok (.lastore, 1) := by decide +kernel
theorem dX0_dieValue_57 : decode cX0_dieValue 57 = .ok (.aload_n 0, 1) := by decide +kernel
theorem dX0_dieValue_58 : decode cX0_dieValue 58 = .ok (.getfield 9, 3) := by decide +kernel
theorem dX0_dieValue_61 : decode cX0_dieValue 61 = .ok (.bipush 6, 2) := by decide +kernel
theorem dX0_dieValue_63 : decode cX0_dieValue 63 = .ok (.aload_n 0, 1) := by decide +kernel
theorem dX0_dieValue_64 : decode cX0_dieValue 64 = .ok (.getfield 19, 3) := by decide +kernel
theorem dX0_dieValue_67 : decode cX0_dieValue 67 = .ok (.getfield 45, 3) := by decide +kernel
theorem dX0_dieValue_70 : decode cX0_dieValue 70 = .ok (.i2l, 1) := by decide +kernel
theorem dX0_dieValue_71 : decode cX0_dieValue 71 = .ok (.lastore, 1) := by decide +kernel
theorem dX0_dieValue_72 : decode cX0_dieValue 72 = .ok (.aload_n 0, 1) := by decide +kernel
theorem dX0_dieValue_73 : decode cX0_dieValue 73 = .ok (.getfield 15, 3) := by decide +kernel
theorem dX0_dieValue_76 : decode cX0_dieValue 76 = .ok (.getfield 217, 3) := by decide +kernel
theorem dX0_dieValue_79 : decode cX0_dieValue 79 = .ok (.aload_n 0, 1) := by decide +kernel
theorem dX0_dieValue_80 : decode cX0_dieValue 80 = .ok (.getfield 9, 3) := by decide +kernel
theorem dX0_dieValue_83 : decode cX0_dieValue 83 = .ok (.invokevirtual 205, 3) := by decide +kernel
theorem dX0_dieValue_86 : decode cX0_dieValue 86 = .ok (.lreturn, 1) := by decide +kernel
theorem dX0_nameDebt_0 : decode cX0_nameDebt 0 = .ok (.aload_n 0, 1) := by decide +kernel
theorem dX0_nameDebt_1 : decode cX0_nameDebt 1 = .ok (.getfield 9, 3) := by decide +kernel
theorem dX0_nameDebt_4 : decode cX0_nameDebt 4 = .ok (.iconst 0, 1) := by decide +kernel
theorem dX0_nameDebt_5 : decode cX0_nameDebt 5 = .ok (.aload_n 0, 1) := by decide +kernel
theorem dX0_nameDebt_6 : decode cX0_nameDebt 6 = .ok (.getfield 19, 3) := by decide +kernel
theorem dX0_nameDebt_9 : decode cX0_nameDebt 9 = .ok (.getfield 153, 3) := by decide +kernel
theorem dX0_nameDebt_12 : decode cX0_nameDebt 12 = .ok (.iload_n 1, 1) := by decide +kernel
theorem dX0_nameDebt_13 : decode cX0_nameDebt 13 = .ok (.iaload, 1) := by decide +kernel
theorem dX0_nameDebt_14 : decode cX0_nameDebt 14 = .ok (.i2l, 1) := by decide +kernel
theorem dX0_nameDebt_15 : decode cX0_nameDebt 15 = .ok (.lastore, 1) := by decide +kernel
theorem dX0_nameDebt_16 : decode cX0_nameDebt 16 = .ok (.aload_n 0, 1) := by decide +kernel
theorem dX0_nameDebt_17 : decode cX0_nameDebt 17 = .ok (.getfield 9, 3) := by decide +kernel
theorem dX0_nameDebt_20 : decode cX0_nameDebt 20 = .ok (.iconst 1, 1) := by decide +kernel
theorem dX0_nameDebt_21 : decode cX0_nameDebt 21 = .ok (.iload_n 2, 1) := by decide +kernel
theorem dX0_nameDebt_22 : decode cX0_nameDebt 22 = .ok (.i2l, 1) := by decide +kernel
theorem dX0_nameDebt_23 : decode cX0_nameDebt 23 = .ok (.lastore, 1) := by decide +kernel
theorem dX0_nameDebt_24 : decode cX0_nameDebt 24 = .ok (.aload_n 0, 1) := by decide +kernel
theorem dX0_nameDebt_25 : decode cX0_nameDebt 25 = .ok (.getfield 9, 3) := by decide +kernel
theorem dX0_nameDebt_28 : decode cX0_nameDebt 28 = .ok (.iconst 2, 1) := by decide +kernel
theorem dX0_nameDebt_29 : decode cX0_nameDebt 29 = .ok (.aload_n 0, 1) := by decide +kernel
theorem dX0_nameDebt_30 : decode cX0_nameDebt 30 = .ok (.getfield 19, 3) := by decide +kernel
theorem dX0_nameDebt_33 : decode cX0_nameDebt 33 = .ok (.aload_n 0, 1) := by decide +kernel
theorem dX0_nameDebt_34 : decode cX0_nameDebt 34 = .ok (.getfield 19, 3) := by decide +kernel
theorem dX0_nameDebt_37 : decode cX0_nameDebt 37 = .ok (.getfield 220, 3) := by decide +kernel
theorem dX0_nameDebt_40 : decode cX0_nameDebt 40 = .ok (.iload_n 1, 1) := by decide +kernel
theorem dX0_nameDebt_41 : decode cX0_nameDebt 41 = .ok (.iaload, 1) := by decide +kernel
theorem dX0_nameDebt_42 : decode cX0_nameDebt 42 = .ok (.invokevirtual 88, 3) := by decide +kernel
theorem dX0_nameDebt_45 : decode cX0_nameDebt 45 = .ok (.i2l, 1) := by decide +kernel
theorem dX0_nameDebt_46 : decode cX0_nameDebt 46 = .ok (.lastore, 1) := by decide +kernel
theorem dX0_nameDebt_47 : decode cX0_nameDebt 47 = .ok (.aload_n 0, 1) := by decide +kernel
theorem dX0_nameDebt_48 : decode cX0_nameDebt 48 = .ok (.getfield 9, 3) := by decide +kernel
theorem dX0_nameDebt_51 : decode cX0_nameDebt 51 = .ok (.iconst 3, 1) := by decide +kernel
theorem dX0_nameDebt_52 : decode cX0_nameDebt 52 = .ok (.aload_n 0, 1) := by decide +kernel
theorem dX0_nameDebt_53 : decode cX0_nameDebt 53 = .ok (.getfield 19, 3) := by decide +kernel
theorem dX0_nameDebt_56 : decode cX0_nameDebt 56 = .ok (.getfield 118, 3) := by decide +kernel
theorem dX0_nameDebt_59 : decode cX0_nameDebt 59 = .ok (.iload_n 1, 1) := by decide +kernel
theorem dX0_nameDebt_60 : decode cX0_nameDebt 60 = .ok (.iaload, 1) := by decide +kernel
theorem dX0_nameDebt_61 : decode cX0_nameDebt 61 = .ok (.invokestatic 193, 3) := by decide +kernel
theorem dX0_nameDebt_64 : decode cX0_nameDebt 64 = .ok (.i2l, 1) := by decide +kernel
theorem dX0_nameDebt_65 : decode cX0_nameDebt 65 = .ok (.lastore, 1) := by decide +kernel
theorem dX0_nameDebt_66 : decode cX0_nameDebt 66 = .ok (.aload_n 0, 1) := by decide +kernel
theorem dX0_nameDebt_67 : decode cX0_nameDebt 67 = .ok (.getfield 9, 3) := by decide +kernel
theorem dX0_nameDebt_70 : decode cX0_nameDebt 70 = .ok (.iconst 4, 1) := by decide +kernel
theorem dX0_nameDebt_71 : decode cX0_nameDebt 71 = .ok (.aload_n 0, 1) := by decide +kernel
theorem dX0_nameDebt_72 : decode cX0_nameDebt 72 = .ok (.getfield 19, 3) := by decide +kernel
theorem dX0_nameDebt_75 : decode cX0_nameDebt 75 = .ok (.iload_n 1, 1) := by decide +kernel
theorem dX0_nameDebt_76 : decode cX0_nameDebt 76 = .ok (.invokevirtual 150, 3) := by decide +kernel
theorem dX0_nameDebt_79 : decode cX0_nameDebt 79 = .ok (.i2l, 1) := by decide +kernel
theorem dX0_nameDebt_80 : decode cX0_nameDebt 80 = .ok (.lastore, 1) := by decide +kernel
theorem dX0_nameDebt_81 : decode cX0_nameDebt 81 = .ok (.aload_n 0, 1) := by decide +kernel
theorem dX0_nameDebt_82 : decode cX0_nameDebt 82 = .ok (.getfield 9, 3) := by decide +kernel
theorem dX0_nameDebt_85 : decode cX0_nameDebt 85 = .ok (.iconst 5, 1) := by decide +kernel
theorem dX0_nameDebt_86 : decode cX0_nameDebt 86 = .ok (.iload_n 3, 1) := by decide +kernel
theorem dX0_nameDebt_87 : decode cX0_nameDebt 87 = .ok (.i2l, 1) := by decide +kernel
theorem dX0_nameDebt_88 : decode cX0_nameDebt 88 = .ok (.lastore, 1) := by decide +kernel
theorem dX0_nameDebt_89 : decode cX0_nameDebt 89 = .ok (.aload_n 0, 1) := by decide +kernel
theorem dX0_nameDebt_90 : decode cX0_nameDebt 90 = .ok (.getfield 9, 3) := by decide +kernel
theorem dX0_nameDebt_93 : decode cX0_nameDebt 93 = .ok (.bipush 6, 2) := by decide +kernel
theorem dX0_nameDebt_95 : decode cX0_nameDebt 95 = .ok (.aload_n 0, 1) := by decide +kernel
theorem dX0_nameDebt_96 : decode cX0_nameDebt 96 = .ok (.getfield 19, 3) := by decide +kernel
theorem dX0_nameDebt_99 : decode cX0_nameDebt 99 = .ok (.getfield 45, 3) := by decide +kernel
theorem dX0_nameDebt_102 : decode cX0_nameDebt 102 = .ok (.i2l, 1) := by decide +kernel
theorem dX0_nameDebt_103 : decode cX0_nameDebt 103 = .ok (.lastore, 1) := by decide +kernel
theorem dX0_nameDebt_104 : decode cX0_nameDebt 104 = .ok (.return_, 1) := by decide +kernel
theorem dX1_add_0 : decode cX1_add 0 = .ok (.aload_n 0, 1) := by decide +kernel
theorem dX1_add_1 : decode cX1_add 1 = .ok (.getfield 19, 3) := by decide +kernel
theorem dX1_add_4 : decode cX1_add 4 = .ok (.bipush 64, 2) := by decide +kernel
theorem dX1_add_6 : decode cX1_add 6 = .ok (.if_icmp .ge 23, 3) := by decide +kernel
theorem dX1_add_9 : decode cX1_add 9 = .ok (.aload_n 0, 1) := by decide +kernel
theorem dX1_add_10 : decode cX1_add 10 = .ok (.getfield 9, 3) := by decide +kernel
theorem dX1_add_13 : decode cX1_add 13 = .ok (.aload_n 0, 1) := by decide +kernel
theorem dX1_add_14 : decode cX1_add 14 = .ok (.getfield 19, 3) := by decide +kernel
theorem dX1_add_17 : decode cX1_add 17 = .ok (.iload_n 1, 1) := by decide +kernel
theorem dX1_add_18 : decode cX1_add 18 = .ok (.iastore, 1) := by decide +kernel
theorem dX1_add_19 : decode cX1_add 19 = .ok (.aload_n 0, 1) := by decide +kernel
theorem dX1_add_20 : decode cX1_add 20 = .ok (.dup, 1) := by decide +kernel
theorem dX1_add_21 : decode cX1_add 21 = .ok (.getfield 19, 3) := by decide +kernel
theorem dX1_add_24 : decode cX1_add 24 = .ok (.iconst 1, 1) := by decide +kernel
theorem dX1_add_25 : decode cX1_add 25 = .ok (.iadd, 1) := by decide +kernel
theorem dX1_add_26 : decode cX1_add 26 = .ok (.putfield 19, 3) := by decide +kernel
theorem dX1_add_29 : decode cX1_add 29 = .ok (.return_, 1) := by decide +kernel
theorem dX1_value_0 : decode cX1_value 0 = .ok (.iconst 0, 1) := by decide +kernel
theorem dX1_value_1 : decode cX1_value 1 = .ok (.istore_n 2, 1) := by decide +kernel
theorem dX1_value_2 : decode cX1_value 2 = .ok (.iconst 0, 1) := by decide +kernel
theorem dX1_value_3 : decode cX1_value 3 = .ok (.istore_n 3, 1) := by decide +kernel
theorem dX1_value_4 : decode cX1_value 4 = .ok (.iload_n 3, 1) := by decide +kernel
theorem dX1_value_5 : decode cX1_value 5 = .ok (.aload_n 0, 1) := by decide +kernel
theorem dX1_value_6 : decode cX1_value 6 = .ok (.getfield 19, 3) := by decide +kernel
theorem dX1_value_9 : decode cX1_value 9 = .ok (.if_icmp .ge 151, 3) := by decide +kernel
theorem dX1_value_12 : decode cX1_value 12 = .ok (.iload_n 3, 1) := by decide +kernel
theorem dX1_value_13 : decode cX1_value 13 = .ok (.bipush 64, 2) := by decide +kernel
theorem dX1_value_15 : decode cX1_value 15 = .ok (.if_icmp .ge 145, 3) := by decide +kernel
theorem dX1_value_18 : decode cX1_value 18 = .ok (.aload_n 0, 1) := by decide +kernel
theorem dX1_value_19 : decode cX1_value 19 = .ok (.getfield 9, 3) := by decide +kernel
theorem dX1_value_22 : decode cX1_value 22 = .ok (.iload_n 3, 1) := by decide +kernel
theorem dX1_value_23 : decode cX1_value 23 = .ok (.iaload, 1) := by decide +kernel
theorem dX1_value_24 : decode cX1_value 24 = .ok (.istore 4, 2) := by decide +kernel
theorem dX1_value_26 : decode cX1_value 26 = .ok (.iload 4, 2) := by decide +kernel
theorem dX1_value_28 : decode cX1_value 28 = .ok (.invokestatic 23, 3) := by decide +kernel
theorem dX1_value_31 : decode cX1_value 31 = .ok (.istore 5, 2) := by decide +kernel
theorem dX1_value_33 : decode cX1_value 33 = .ok (.iload_n 2, 1) := by decide +kernel
theorem dX1_value_34 : decode cX1_value 34 = .ok (.iload 5, 2) := by decide +kernel
theorem dX1_value_36 : decode cX1_value 36 = .ok (.isub, 1) := by decide +kernel
theorem dX1_value_37 : decode cX1_value 37 = .ok (.istore 6, 2) := by decide +kernel
theorem dX1_value_39 : decode cX1_value 39 = .ok (.iload 6, 2) := by decide +kernel
theorem dX1_value_41 : decode cX1_value 41 = .ok (.ifCond .lt 16, 3) := by decide +kernel
theorem dX1_value_44 : decode cX1_value 44 = .ok (.iload 6, 2) := by decide +kernel
theorem dX1_value_46 : decode cX1_value 46 = .ok (.bipush 64, 2) := by decide +kernel
theorem dX1_value_48 : decode cX1_value 48 = .ok (.if_icmp .ge 9, 3) := by decide +kernel
theorem dX1_value_51 : decode cX1_value 51 = .ok (.iload_n 2, 1) := by decide +kernel
theorem dX1_value_52 : decode cX1_value 52 = .ok (.bipush 64, 2) := by decide +kernel
theorem dX1_value_54 : decode cX1_value 54 = .ok (.if_icmp .le 7, 3) := by decide +kernel
theorem dX1_value_57 : decode cX1_value 57 = .ok (.ldc2_w 27, 3) := by decide +kernel
theorem dX1_value_60 : decode cX1_value 60 = .ok (.lreturn, 1) := by decide +kernel
theorem dX1_value_61 : decode cX1_value 61 = .ok (.iload 5, 2) := by decide +kernel
theorem dX1_value_63 : decode cX1_value 63 = .ok (.ifCond .ne 14, 3) := by decide +kernel
theorem dX1_value_66 : decode cX1_value 66 = .ok (.iload 4, 2) := by decide +kernel
theorem dX1_value_68 : decode cX1_value 68 = .ok (.aload_n 1, 1) := by decide +kernel
theorem dX1_value_69 : decode cX1_value 69 = .ok (.invokestatic 29, 3) := by decide +kernel
theorem dX1_value_72 : decode cX1_value 72 = .ok (.lstore 7, 2) := by decide +kernel
theorem dX1_value_74 : decode cX1_value 74 = .ok (.goto 53, 3) := by decide +kernel
theorem dX1_value_77 : decode cX1_value 77 = .ok (.iload 5, 2) := by decide +kernel
theorem dX1_value_79 : decode cX1_value 79 = .ok (.iconst 1, 1) := by decide +kernel
theorem dX1_value_80 : decode cX1_value 80 = .ok (.if_icmp .ne 25, 3) := by decide +kernel
theorem dX1_value_83 : decode cX1_value 83 = .ok (.aload_n 0, 1) := by decide +kernel
theorem dX1_value_84 : decode cX1_value 84 = .ok (.getfield 15, 3) := by decide +kernel
theorem dX1_value_87 : decode cX1_value 87 = .ok (.iload 6, 2) := by decide +kernel
theorem dX1_value_89 : decode cX1_value 89 = .ok (.laload, 1) := by decide +kernel
theorem dX1_value_90 : decode cX1_value 90 = .ok (.lconst 0, 1) := by decide +kernel
theorem dX1_value_91 : decode cX1_value 91 = .ok (.lcmp, 1) := by decide +kernel
theorem dX1_value_92 : decode cX1_value 92 = .ok (.ifCond .ne 7, 3) := by decide +kernel
theorem dX1_value_95 : decode cX1_value 95 = .ok (.lconst 1, 1) := by decide +kernel
theorem dX1_value_96 : decode cX1_value 96 = .ok (.goto 4, 3) := by decide +kernel
theorem dX1_value_99 : decode cX1_value 99 = .ok (.lconst 0, 1) := by decide +kernel
theorem dX1_value_100 : decode cX1_value 100 = .ok (.lstore 7, 2) := by decide +kernel
theorem dX1_value_102 : decode cX1_value 102 = .ok (.goto 25, 3) := by decide +kernel
theorem dX1_value_105 : decode cX1_value 105 = .ok (.iload 4, 2) := by decide +kernel
theorem dX1_value_107 : decode cX1_value 107 = .ok (.aload_n 0, 1) := by decide +kernel
theorem dX1_value_108 : decode cX1_value 108 = .ok (.getfield 15, 3) := by decide +kernel
theorem dX1_value_111 : decode cX1_value 111 = .ok (.iload 6, 2) := by decide +kernel
theorem dX1_value_113 : decode cX1_value 113 = .ok (.laload, 1) := by decide +kernel
theorem dX1_value_114 : decode cX1_value 114 = .ok (.aload_n 0, 1) := by decide +kernel
theorem dX1_value_115 : decode cX1_value 115 = .ok (.getfield 15, 3) := by decide +kernel
theorem dX1_value_118 : decode cX1_value 118 = .ok (.iload_n 2, 1) := by decide +kernel
theorem dX1_value_119 : decode cX1_value 119 = .ok (.iconst 1, 1) := by decide +kernel
theorem dX1_value_120 : decode cX1_value 120 = .ok (.isub, 1) := by decide +kernel
theorem dX1_value_121 : decode cX1_value 121 = .ok (.laload, 1) := by decide +kernel
theorem dX1_value_122 : decode cX1_value 122 = .ok (.invokestatic 33, 3) := by decide +kernel
theorem dX1_value_125 : decode cX1_value 125 = .ok (.lstore 7, 2) := by decide +kernel
theorem dX1_value_127 : decode cX1_value 127 = .ok (.lload 7, 2) := by decide +kernel
theorem dX1_value_129 : decode cX1_value 129 = .ok (.ldc2_w 27, 3) := by decide +kernel
theorem dX1_value_132 : decode cX1_value 132 = .ok (.lcmp, 1) := by decide +kernel
theorem dX1_value_133 : decode cX1_value 133 = .ok (.ifCond .ne 7, 3) := by decide +kernel
theorem dX1_value_136 : decode cX1_value 136 = .ok (.ldc2_w 27, 3) := by decide +kernel
theorem dX1_value_139 : decode cX1_value 139 = .ok (.lreturn, 1) := by decide +kernel
theorem dX1_value_140 : decode cX1_value 140 = .ok (.aload_n 0, 1) := by decide +kernel
theorem dX1_value_141 : decode cX1_value 141 = .ok (.getfield 15, 3) := by decide +kernel
theorem dX1_value_144 : decode cX1_value 144 = .ok (.iload 6, 2) := by decide +kernel
theorem dX1_value_146 : decode cX1_value 146 = .ok (.lload 7, 2) := by decide +kernel
theorem dX1_value_148 : decode cX1_value 148 = .ok (.lastore, 1) := by decide +kernel
theorem dX1_value_149 : decode cX1_value 149 = .ok (.iload 6, 2) := by decide +kernel
theorem dX1_value_151 : decode cX1_value 151 = .ok (.iconst 1, 1) := by decide +kernel
theorem dX1_value_152 : decode cX1_value 152 = .ok (.iadd, 1) := by decide +kernel
theorem dX1_value_153 : decode cX1_value 153 = .ok (.istore_n 2, 1) := by decide +kernel
theorem dX1_value_154 : decode cX1_value 154 = .ok (.iinc 3 1, 3) := by decide +kernel
theorem dX1_value_157 : decode cX1_value 157 = .ok (.goto (-153), 3) := by decide +kernel
theorem dX1_value_160 : decode cX1_value 160 = .ok (.iload_n 2, 1) := by decide +kernel
theorem dX1_value_161 : decode cX1_value 161 = .ok (.iconst 1, 1) := by decide +kernel
theorem dX1_value_162 : decode cX1_value 162 = .ok (.if_icmp .ne 12, 3) := by decide +kernel
theorem dX1_value_165 : decode cX1_value 165 = .ok (.aload_n 0, 1) := by decide +kernel
theorem dX1_value_166 : decode cX1_value 166 = .ok (.getfield 15, 3) := by decide +kernel
theorem dX1_value_169 : decode cX1_value 169 = .ok (.iconst 0, 1) := by decide +kernel
theorem dX1_value_170 : decode cX1_value 170 = .ok (.laload, 1) := by decide +kernel
theorem dX1_value_171 : decode cX1_value 171 = .ok (.goto 6, 3) := by decide +kernel
theorem dX1_value_174 : decode cX1_value 174 = .ok (.ldc2_w 27, 3) := by decide +kernel
theorem dX1_value_177 : decode cX1_value 177 = .ok (.lreturn, 1) := by decide +kernel
theorem dX1_partsOf_0 : decode cX1_partsOf 0 = .ok (.iload_n 0, 1) := by decide +kernel
theorem dX1_partsOf_1 : decode cX1_partsOf 1 = .ok (.bipush 64, 2) := by decide +kernel
theorem dX1_partsOf_3 : decode cX1_partsOf 3 = .ok (.if_icmp .ge 15, 3) := by decide +kernel
theorem dX1_partsOf_6 : decode cX1_partsOf 6 = .ok (.iload_n 0, 1) := by decide +kernel
theorem dX1_partsOf_7 : decode cX1_partsOf 7 = .ok (.bipush 14, 2) := by decide +kernel
theorem dX1_partsOf_9 : decode cX1_partsOf 9 = .ok (.if_icmp .lt 11, 3) := by decide +kernel
theorem dX1_partsOf_12 : decode cX1_partsOf 12 = .ok (.iload_n 0, 1) := by decide +kernel
theorem dX1_partsOf_13 : decode cX1_partsOf 13 = .ok (.bipush 20, 2) := by decide +kernel
theorem dX1_partsOf_15 : decode cX1_partsOf 15 = .ok (.if_icmp .gt 5, 3) := by decide +kernel
theorem dX1_partsOf_18 : decode cX1_partsOf 18 = .ok (.iconst 0, 1) := by decide +kernel
theorem dX1_partsOf_19 : decode cX1_partsOf 19 = .ok (.ireturn, 1) := by decide +kernel
theorem dX1_partsOf_20 : decode cX1_partsOf 20 = .ok (.iload_n 0, 1) := by decide +kernel
theorem dX1_partsOf_21 : decode cX1_partsOf 21 = .ok (.bipush 11, 2) := by decide +kernel
theorem dX1_partsOf_23 : decode cX1_partsOf 23 = .ok (.if_icmp .ne 7, 3) := by decide +kernel
theorem dX1_partsOf_26 : decode cX1_partsOf 26 = .ok (.iconst 1, 1) := by decide +kernel
theorem dX1_partsOf_27 : decode cX1_partsOf 27 = .ok (.goto 4, 3) := by decide +kernel
theorem dX1_partsOf_30 : decode cX1_partsOf 30 = .ok (.iconst 2, 1) := by decide +kernel
theorem dX1_partsOf_31 : decode cX1_partsOf 31 = .ok (.ireturn, 1) := by decide +kernel
theorem dX1_leaf_0 : decode cX1_leaf 0 = .ok (.iload_n 0, 1) := by decide +kernel
theorem dX1_leaf_1 : decode cX1_leaf 1 = .ok (.bipush 64, 2) := by decide +kernel
theorem dX1_leaf_3 : decode cX1_leaf 3 = .ok (.if_icmp .lt 9, 3) := by decide +kernel
theorem dX1_leaf_6 : decode cX1_leaf 6 = .ok (.iload_n 0, 1) := by decide +kernel
theorem dX1_leaf_7 : decode cX1_leaf 7 = .ok (.bipush 64, 2) := by decide +kernel
theorem dX1_leaf_9 : decode cX1_leaf 9 = .ok (.isub, 1) := by decide +kernel
theorem dX1_leaf_10 : decode cX1_leaf 10 = .ok (.i2l, 1) := by decide +kernel
theorem dX1_leaf_11 : decode cX1_leaf 11 = .ok (.lreturn, 1) := by decide +kernel
theorem dX1_leaf_12 : decode cX1_leaf 12 = .ok (.iload_n 0, 1) := by decide +kernel
theorem dX1_leaf_13 : decode cX1_leaf 13 = .ok (.bipush 14, 2) := by decide +kernel
theorem dX1_leaf_15 : decode cX1_leaf 15 = .ok (.isub, 1) := by decide +kernel
theorem dX1_leaf_16 : decode cX1_leaf 16 = .ok (.istore_n 2, 1) := by decide +kernel
theorem dX1_leaf_17 : decode cX1_leaf 17 = .ok (.iload_n 2, 1) := by decide +kernel
theorem dX1_leaf_18 : decode cX1_leaf 18 = .ok (.ifCond .lt 15, 3) := by decide +kernel
theorem dX1_leaf_21 : decode cX1_leaf 21 = .ok (.iload_n 2, 1) := by decide +kernel
theorem dX1_leaf_22 : decode cX1_leaf 22 = .ok (.aload_n 1, 1) := by decide +kernel
theorem dX1_leaf_23 : decode cX1_leaf 23 = .ok (.arraylength, 1) := by decide +kernel
theorem dX1_leaf_24 : decode cX1_leaf 24 = .ok (.if_icmp .ge 9, 3) := by decide +kernel
theorem dX1_leaf_27 : decode cX1_leaf 27 = .ok (.aload_n 1, 1) := by decide +kernel
theorem dX1_leaf_28 : decode cX1_leaf 28 = .ok (.iload_n 2, 1) := by decide +kernel
theorem dX1_leaf_29 : decode cX1_leaf 29 = .ok (.laload, 1) := by decide +kernel
theorem dX1_leaf_30 : decode cX1_leaf 30 = .ok (.goto 6, 3) := by decide +kernel
theorem dX1_leaf_33 : decode cX1_leaf 33 = .ok (.ldc2_w 27, 3) := by decide +kernel
theorem dX1_leaf_36 : decode cX1_leaf 36 = .ok (.lreturn, 1) := by decide +kernel
theorem dX1_joinedValue_0 : decode cX1_joinedValue 0 = .ok (.lconst 0, 1) := by decide +kernel
theorem dX1_joinedValue_1 : decode cX1_joinedValue 1 = .ok (.lstore 5, 2) := by decide +kernel
theorem dX1_joinedValue_3 : decode cX1_joinedValue 3 = .ok (.iload_n 0, 1) := by decide +kernel
theorem dX1_joinedValue_4 : decode cX1_joinedValue 4 = .ok (.tableswitch 308 12 32 #[184, 206, 308, 308, 308, 308, 308, 308, 308, 308, 308, 308, 100, 108, 116, 166, 228, 244, 260, 276, 292], 100) := by decide +kernel
theorem dX1_joinedValue_104 : decode cX1_joinedValue 104 = .ok (.lload_n 1, 1) := by decide +kernel
theorem dX1_joinedValue_105 : decode cX1_joinedValue 105 = .ok (.lload_n 3, 1) := by decide +kernel
theorem dX1_joinedValue_106 : decode cX1_joinedValue 106 = .ok (.ladd, 1) := by decide +kernel
theorem dX1_joinedValue_107 : decode cX1_joinedValue 107 = .ok (.lstore 5, 2) := by decide +kernel
theorem dX1_joinedValue_109 : decode cX1_joinedValue 109 = .ok (.goto 216, 3) := by decide +kernel
theorem dX1_joinedValue_112 : decode cX1_joinedValue 112 = .ok (.lload_n 1, 1) := by decide +kernel
theorem dX1_joinedValue_113 : decode cX1_joinedValue 113 = .ok (.lload_n 3, 1) := by decide +kernel
theorem dX1_joinedValue_114 : decode cX1_joinedValue 114 = .ok (.lsub, 1) := by decide +kernel
theorem dX1_joinedValue_115 : decode cX1_joinedValue 115 = .ok (.lstore 5, 2) := by decide +kernel
theorem dX1_joinedValue_117 : decode cX1_joinedValue 117 = .ok (.goto 208, 3) := by decide +kernel
theorem dX1_joinedValue_120 : decode cX1_joinedValue 120 = .ok (.lload_n 1, 1) := by decide +kernel
theorem dX1_joinedValue_121 : decode cX1_joinedValue 121 = .ok (.lconst 0, 1) := by decide +kernel
theorem dX1_joinedValue_122 : decode cX1_joinedValue 122 = .ok (.lcmp, 1) := by decide +kernel
theorem dX1_joinedValue_123 : decode cX1_joinedValue 123 = .ok (.ifCond .eq 39, 3) := by decide +kernel
theorem dX1_joinedValue_126 : decode cX1_joinedValue 126 = .ok (.lload_n 3, 1) := by decide +kernel
theorem dX1_joinedValue_127 : decode cX1_joinedValue 127 = .ok (.lconst 0, 1) := by decide +kernel
theorem dX1_joinedValue_128 : decode cX1_joinedValue 128 = .ok (.lcmp, 1) := by decide +kernel
theorem dX1_joinedValue_129 : decode cX1_joinedValue 129 = .ok (.ifCond .ge 8, 3) := by decide +kernel
theorem dX1_joinedValue_132 : decode cX1_joinedValue 132 = .ok (.lload_n 3, 1) := by decide +kernel
theorem dX1_joinedValue_133 : decode cX1_joinedValue 133 = .ok (.lneg, 1) := by decide +kernel
theorem dX1_joinedValue_134 : decode cX1_joinedValue 134 = .ok (.goto 4, 3) := by decide +kernel
theorem dX1_joinedValue_137 : decode cX1_joinedValue 137 = .ok (.lload_n 3, 1) := by decide +kernel
theorem dX1_joinedValue_138 : decode cX1_joinedValue 138 = .ok (.ldc2_w 37, 3) := by decide +kernel
theorem dX1_joinedValue_141 : decode cX1_joinedValue 141 = .ok (.lload_n 1, 1) := by decide +kernel
theorem dX1_joinedValue_142 : decode cX1_joinedValue 142 = .ok (.lconst 0, 1) := by decide +kernel
theorem dX1_joinedValue_143 : decode cX1_joinedValue 143 = .ok (.lcmp, 1) := by decide +kernel
theorem dX1_joinedValue_144 : decode cX1_joinedValue 144 = .ok (.ifCond .ge 8, 3) := by decide +kernel
theorem dX1_joinedValue_147 : decode cX1_joinedValue 147 = .ok (.lload_n 1, 1) := by decide +kernel
theorem dX1_joinedValue_148 : decode cX1_joinedValue 148 = .ok (.lneg, 1) := by decide +kernel
theorem dX1_joinedValue_149 : decode cX1_joinedValue 149 = .ok (.goto 4, 3) := by decide +kernel
theorem dX1_joinedValue_152 : decode cX1_joinedValue 152 = .ok (.lload_n 1, 1) := by decide +kernel
theorem dX1_joinedValue_153 : decode cX1_joinedValue 153 = .ok (.ldiv, 1) := by decide +kernel
theorem dX1_joinedValue_154 : decode cX1_joinedValue 154 = .ok (.lcmp, 1) := by decide +kernel
theorem dX1_joinedValue_155 : decode cX1_joinedValue 155 = .ok (.ifCond .le 7, 3) := by decide +kernel
theorem dX1_joinedValue_158 : decode cX1_joinedValue 158 = .ok (.ldc2_w 27, 3) := by decide +kernel
theorem dX1_joinedValue_161 : decode cX1_joinedValue 161 = .ok (.lreturn, 1) := by decide +kernel
theorem dX1_joinedValue_162 : decode cX1_joinedValue 162 = .ok (.lload_n 1, 1) := by decide +kernel
theorem dX1_joinedValue_163 : decode cX1_joinedValue 163 = .ok (.lload_n 3, 1) := by decide +kernel
theorem dX1_joinedValue_164 : decode cX1_joinedValue 164 = .ok (.lmul, 1) := by decide +kernel
theorem dX1_joinedValue_165 : decode cX1_joinedValue 165 = .ok (.lstore 5, 2) := by decide +kernel
theorem dX1_joinedValue_167 : decode cX1_joinedValue 167 = .ok (.goto 158, 3) := by decide +kernel
theorem dX1_joinedValue_170 : decode cX1_joinedValue 170 = .ok (.lload_n 3, 1) := by decide +kernel
theorem dX1_joinedValue_171 : decode cX1_joinedValue 171 = .ok (.lconst 0, 1) := by decide +kernel
theorem dX1_joinedValue_172 : decode cX1_joinedValue 172 = .ok (.lcmp, 1) := by decide +kernel
theorem dX1_joinedValue_173 : decode cX1_joinedValue 173 = .ok (.ifCond .ne 7, 3) := by decide +kernel
theorem dX1_joinedValue_176 : decode cX1_joinedValue 176 = .ok (.ldc2_w 27, 3) := by decide +kernel
theorem dX1_joinedValue_179 : decode cX1_joinedValue 179 = .ok (.lreturn, 1) := by decide +kernel
theorem dX1_joinedValue_180 : decode cX1_joinedValue 180 = .ok (.lload_n 1, 1) := by decide +kernel
theorem dX1_joinedValue_181 : decode cX1_joinedValue 181 = .ok (.lload_n 3, 1) := by decide +kernel
theorem dX1_joinedValue_182 : decode cX1_joinedValue 182 = .ok (.ldiv, 1) := by decide +kernel
theorem dX1_joinedValue_183 : decode cX1_joinedValue 183 = .ok (.lstore 5, 2) := by decide +kernel
theorem dX1_joinedValue_185 : decode cX1_joinedValue 185 = .ok (.goto 140, 3) := by decide +kernel
theorem dX1_joinedValue_188 : decode cX1_joinedValue 188 = .ok (.lload_n 1, 1) := by decide +kernel
theorem dX1_joinedValue_189 : decode cX1_joinedValue 189 = .ok (.lconst 0, 1) := by decide +kernel
theorem dX1_joinedValue_190 : decode cX1_joinedValue 190 = .ok (.lcmp, 1) := by decide +kernel
theorem dX1_joinedValue_191 : decode cX1_joinedValue 191 = .ok (.ifCond .eq 13, 3) := by decide +kernel
theorem dX1_joinedValue_194 : decode cX1_joinedValue 194 = .ok (.lload_n 3, 1) := by decide +kernel
theorem dX1_joinedValue_195 : decode cX1_joinedValue 195 = .ok (.lconst 0, 1) := by decide +kernel
theorem dX1_joinedValue_196 : decode cX1_joinedValue 196 = .ok (.lcmp, 1) := by decide +kernel
theorem dX1_joinedValue_197 : decode cX1_joinedValue 197 = .ok (.ifCond .eq 7, 3) := by decide +kernel
theorem dX1_joinedValue_200 : decode cX1_joinedValue 200 = .ok (.lconst 1, 1) := by decide +kernel
theorem dX1_joinedValue_201 : decode cX1_joinedValue 201 = .ok (.goto 4, 3) := by decide +kernel
theorem dX1_joinedValue_204 : decode cX1_joinedValue 204 = .ok (.lconst 0, 1) := by decide +kernel
theorem dX1_joinedValue_205 : decode cX1_joinedValue 205 = .ok (.lstore 5, 2) := by decide +kernel
theorem dX1_joinedValue_207 : decode cX1_joinedValue 207 = .ok (.goto 118, 3) := by decide +kernel
theorem dX1_joinedValue_210 : decode cX1_joinedValue 210 = .ok (.lload_n 1, 1) := by decide +kernel
theorem dX1_joinedValue_211 : decode cX1_joinedValue 211 = .ok (.lconst 0, 1) := by decide +kernel
theorem dX1_joinedValue_212 : decode cX1_joinedValue 212 = .ok (.lcmp, 1) := by decide +kernel
theorem dX1_joinedValue_213 : decode cX1_joinedValue 213 = .ok (.ifCond .ne 9, 3) := by decide +kernel
theorem dX1_joinedValue_216 : decode cX1_joinedValue 216 = .ok (.lload_n 3, 1) := by decide +kernel
theorem dX1_joinedValue_217 : decode cX1_joinedValue 217 = .ok (.lconst 0, 1) := by decide +kernel
theorem dX1_joinedValue_218 : decode cX1_joinedValue 218 = .ok (.lcmp, 1) := by decide +kernel
theorem dX1_joinedValue_219 : decode cX1_joinedValue 219 = .ok (.ifCond .eq 7, 3) := by decide +kernel
theorem dX1_joinedValue_222 : decode cX1_joinedValue 222 = .ok (.lconst 1, 1) := by decide +kernel
theorem dX1_joinedValue_223 : decode cX1_joinedValue 223 = .ok (.goto 4, 3) := by decide +kernel
theorem dX1_joinedValue_226 : decode cX1_joinedValue 226 = .ok (.lconst 0, 1) := by decide +kernel
theorem dX1_joinedValue_227 : decode cX1_joinedValue 227 = .ok (.lstore 5, 2) := by decide +kernel
theorem dX1_joinedValue_229 : decode cX1_joinedValue 229 = .ok (.goto 96, 3) := by decide +kernel
theorem dX1_joinedValue_232 : decode cX1_joinedValue 232 = .ok (.lload_n 1, 1) := by decide +kernel
theorem dX1_joinedValue_233 : decode cX1_joinedValue 233 = .ok (.lload_n 3, 1) := by decide +kernel
theorem dX1_joinedValue_234 : decode cX1_joinedValue 234 = .ok (.lcmp, 1) := by decide +kernel
theorem dX1_joinedValue_235 : decode cX1_joinedValue 235 = .ok (.ifCond .ge 7, 3) := by decide +kernel
theorem dX1_joinedValue_238 : decode cX1_joinedValue 238 = .ok (.lconst 1, 1) := by decide +kernel
theorem dX1_joinedValue_239 : decode cX1_joinedValue 239 = .ok (.goto 4, 3) := by decide +kernel
theorem dX1_joinedValue_242 : decode cX1_joinedValue 242 = .ok (.lconst 0, 1) := by decide +kernel
theorem dX1_joinedValue_243 : decode cX1_joinedValue 243 = .ok (.lstore 5, 2) := by decide +kernel
theorem dX1_joinedValue_245 : decode cX1_joinedValue 245 = .ok (.goto 80, 3) := by decide +kernel
theorem dX1_joinedValue_248 : decode cX1_joinedValue 248 = .ok (.lload_n 1, 1) := by decide +kernel
theorem dX1_joinedValue_249 : decode cX1_joinedValue 249 = .ok (.lload_n 3, 1) := by decide +kernel
theorem dX1_joinedValue_250 : decode cX1_joinedValue 250 = .ok (.lcmp, 1) := by decide +kernel
theorem dX1_joinedValue_251 : decode cX1_joinedValue 251 = .ok (.ifCond .gt 7, 3) := by decide +kernel
theorem dX1_joinedValue_254 : decode cX1_joinedValue 254 = .ok (.lconst 1, 1) := by decide +kernel
theorem dX1_joinedValue_255 : decode cX1_joinedValue 255 = .ok (.goto 4, 3) := by decide +kernel
theorem dX1_joinedValue_258 : decode cX1_joinedValue 258 = .ok (.lconst 0, 1) := by decide +kernel
theorem dX1_joinedValue_259 : decode cX1_joinedValue 259 = .ok (.lstore 5, 2) := by decide +kernel
theorem dX1_joinedValue_261 : decode cX1_joinedValue 261 = .ok (.goto 64, 3) := by decide +kernel
theorem dX1_joinedValue_264 : decode cX1_joinedValue 264 = .ok (.lload_n 1, 1) := by decide +kernel
theorem dX1_joinedValue_265 : decode cX1_joinedValue 265 = .ok (.lload_n 3, 1) := by decide +kernel
theorem dX1_joinedValue_266 : decode cX1_joinedValue 266 = .ok (.lcmp, 1) := by decide +kernel
theorem dX1_joinedValue_267 : decode cX1_joinedValue 267 = .ok (.ifCond .ne 7, 3) := by decide +kernel
theorem dX1_joinedValue_270 : decode cX1_joinedValue 270 = .ok (.lconst 1, 1) := by decide +kernel
theorem dX1_joinedValue_271 : decode cX1_joinedValue 271 = .ok (.goto 4, 3) := by decide +kernel
theorem dX1_joinedValue_274 : decode cX1_joinedValue 274 = .ok (.lconst 0, 1) := by decide +kernel
theorem dX1_joinedValue_275 : decode cX1_joinedValue 275 = .ok (.lstore 5, 2) := by decide +kernel
theorem dX1_joinedValue_277 : decode cX1_joinedValue 277 = .ok (.goto 48, 3) := by decide +kernel
theorem dX1_joinedValue_280 : decode cX1_joinedValue 280 = .ok (.lload_n 1, 1) := by decide +kernel
theorem dX1_joinedValue_281 : decode cX1_joinedValue 281 = .ok (.lload_n 3, 1) := by decide +kernel
theorem dX1_joinedValue_282 : decode cX1_joinedValue 282 = .ok (.lcmp, 1) := by decide +kernel
theorem dX1_joinedValue_283 : decode cX1_joinedValue 283 = .ok (.ifCond .eq 7, 3) := by decide +kernel
theorem dX1_joinedValue_286 : decode cX1_joinedValue 286 = .ok (.lconst 1, 1) := by decide +kernel
theorem dX1_joinedValue_287 : decode cX1_joinedValue 287 = .ok (.goto 4, 3) := by decide +kernel
theorem dX1_joinedValue_290 : decode cX1_joinedValue 290 = .ok (.lconst 0, 1) := by decide +kernel
theorem dX1_joinedValue_291 : decode cX1_joinedValue 291 = .ok (.lstore 5, 2) := by decide +kernel
theorem dX1_joinedValue_293 : decode cX1_joinedValue 293 = .ok (.goto 32, 3) := by decide +kernel
theorem dX1_joinedValue_296 : decode cX1_joinedValue 296 = .ok (.lload_n 1, 1) := by decide +kernel
theorem dX1_joinedValue_297 : decode cX1_joinedValue 297 = .ok (.lload_n 3, 1) := by decide +kernel
theorem dX1_joinedValue_298 : decode cX1_joinedValue 298 = .ok (.lcmp, 1) := by decide +kernel
theorem dX1_joinedValue_299 : decode cX1_joinedValue 299 = .ok (.ifCond .lt 7, 3) := by decide +kernel
theorem dX1_joinedValue_302 : decode cX1_joinedValue 302 = .ok (.lconst 1, 1) := by decide +kernel
theorem dX1_joinedValue_303 : decode cX1_joinedValue 303 = .ok (.goto 4, 3) := by decide +kernel
theorem dX1_joinedValue_306 : decode cX1_joinedValue 306 = .ok (.lconst 0, 1) := by decide +kernel
theorem dX1_joinedValue_307 : decode cX1_joinedValue 307 = .ok (.lstore 5, 2) := by decide +kernel
theorem dX1_joinedValue_309 : decode cX1_joinedValue 309 = .ok (.goto 16, 3) := by decide +kernel
theorem dX1_joinedValue_312 : decode cX1_joinedValue 312 = .ok (.lload_n 1, 1) := by decide +kernel
theorem dX1_joinedValue_313 : decode cX1_joinedValue 313 = .ok (.lload_n 3, 1) := by decide +kernel
theorem dX1_joinedValue_314 : decode cX1_joinedValue 314 = .ok (.lcmp, 1) := by decide +kernel
theorem dX1_joinedValue_315 : decode cX1_joinedValue 315 = .ok (.ifCond .le 7, 3) := by decide +kernel
theorem dX1_joinedValue_318 : decode cX1_joinedValue 318 = .ok (.lconst 1, 1) := by decide +kernel
theorem dX1_joinedValue_319 : decode cX1_joinedValue 319 = .ok (.goto 4, 3) := by decide +kernel
theorem dX1_joinedValue_322 : decode cX1_joinedValue 322 = .ok (.lconst 0, 1) := by decide +kernel
theorem dX1_joinedValue_323 : decode cX1_joinedValue 323 = .ok (.lstore 5, 2) := by decide +kernel
theorem dX1_joinedValue_325 : decode cX1_joinedValue 325 = .ok (.lload 5, 2) := by decide +kernel
theorem dX1_joinedValue_327 : decode cX1_joinedValue 327 = .ok (.ldc2_w 37, 3) := by decide +kernel
theorem dX1_joinedValue_330 : decode cX1_joinedValue 330 = .ok (.lcmp, 1) := by decide +kernel
theorem dX1_joinedValue_331 : decode cX1_joinedValue 331 = .ok (.ifCond .gt 12, 3) := by decide +kernel
theorem dX1_joinedValue_334 : decode cX1_joinedValue 334 = .ok (.lload 5, 2) := by decide +kernel
theorem dX1_joinedValue_336 : decode cX1_joinedValue 336 = .ok (.ldc2_w 39, 3) := by decide +kernel
theorem dX1_joinedValue_339 : decode cX1_joinedValue 339 = .ok (.lcmp, 1) := by decide +kernel
theorem dX1_joinedValue_340 : decode cX1_joinedValue 340 = .ok (.ifCond .ge 9, 3) := by decide +kernel
theorem dX1_joinedValue_343 : decode cX1_joinedValue 343 = .ok (.ldc2_w 27, 3) := by decide +kernel
theorem dX1_joinedValue_346 : decode cX1_joinedValue 346 = .ok (.goto 5, 3) := by decide +kernel
theorem dX1_joinedValue_349 : decode cX1_joinedValue 349 = .ok (.lload 5, 2) := by decide +kernel
theorem dX1_joinedValue_351 : decode cX1_joinedValue 351 = .ok (.lreturn, 1) := by decide +kernel
theorem dX2_store_0 : decode cX2_store 0 = .ok (.aload_n 0, 1) := by decide +kernel
theorem dX2_store_1 : decode cX2_store 1 = .ok (.getfield 18, 3) := by decide +kernel
theorem dX2_store_4 : decode cX2_store 4 = .ok (.bipush 20, 2) := by decide +kernel
theorem dX2_store_6 : decode cX2_store 6 = .ok (.if_icmp .lt 7, 3) := by decide +kernel
theorem dX2_store_9 : decode cX2_store 9 = .ok (.aload_n 0, 1) := by decide +kernel
theorem dX2_store_10 : decode cX2_store 10 = .ok (.invokevirtual 22, 3) := by decide +kernel
theorem dX2_store_13 : decode cX2_store 13 = .ok (.aload_n 0, 1) := by decide +kernel
theorem dX2_store_14 : decode cX2_store 14 = .ok (.getfield 18, 3) := by decide +kernel
theorem dX2_store_17 : decode cX2_store 17 = .ok (.ifCond .lt 35, 3) := by decide +kernel
theorem dX2_store_20 : decode cX2_store 20 = .ok (.aload_n 0, 1) := by decide +kernel
theorem dX2_store_21 : decode cX2_store 21 = .ok (.getfield 18, 3) := by decide +kernel
theorem dX2_store_24 : decode cX2_store 24 = .ok (.bipush 20, 2) := by decide +kernel
theorem dX2_store_26 : decode cX2_store 26 = .ok (.if_icmp .ge 26, 3) := by decide +kernel
theorem dX2_store_29 : decode cX2_store 29 = .ok (.aload_n 0, 1) := by decide +kernel
theorem dX2_store_30 : decode cX2_store 30 = .ok (.getfield 11, 3) := by decide +kernel
theorem dX2_store_33 : decode cX2_store 33 = .ok (.aload_n 0, 1) := by decide +kernel
theorem dX2_store_34 : decode cX2_store 34 = .ok (.getfield 18, 3) := by decide +kernel
theorem dX2_store_37 : decode cX2_store 37 = .ok (.aaload, 1) := by decide +kernel
theorem dX2_store_38 : decode cX2_store 38 = .ok (.aload_n 1, 1) := by decide +kernel
theorem dX2_store_39 : decode cX2_store 39 = .ok (.invokevirtual 25, 3) := by decide +kernel
theorem dX2_store_42 : decode cX2_store 42 = .ok (.aload_n 0, 1) := by decide +kernel
theorem dX2_store_43 : decode cX2_store 43 = .ok (.dup, 1) := by decide +kernel
theorem dX2_store_44 : decode cX2_store 44 = .ok (.getfield 18, 3) := by decide +kernel
theorem dX2_store_47 : decode cX2_store 47 = .ok (.iconst 1, 1) := by decide +kernel
theorem dX2_store_48 : decode cX2_store 48 = .ok (.iadd, 1) := by decide +kernel
theorem dX2_store_49 : decode cX2_store 49 = .ok (.putfield 18, 3) := by decide +kernel
theorem dX2_store_52 : decode cX2_store 52 = .ok (.return_, 1) := by decide +kernel
theorem dX2_dropFirst_0 : decode cX2_dropFirst 0 = .ok (.aload_n 0, 1) := by decide +kernel
theorem dX2_dropFirst_1 : decode cX2_dropFirst 1 = .ok (.getfield 11, 3) := by decide +kernel
theorem dX2_dropFirst_4 : decode cX2_dropFirst 4 = .ok (.iconst 0, 1) := by decide +kernel
theorem dX2_dropFirst_5 : decode cX2_dropFirst 5 = .ok (.aaload, 1) := by decide +kernel
theorem dX2_dropFirst_6 : decode cX2_dropFirst 6 = .ok (.astore_n 1, 1) := by decide +kernel
theorem dX2_dropFirst_7 : decode cX2_dropFirst 7 = .ok (.iconst 1, 1) := by decide +kernel
theorem dX2_dropFirst_8 : decode cX2_dropFirst 8 = .ok (.istore_n 2, 1) := by decide +kernel
theorem dX2_dropFirst_9 : decode cX2_dropFirst 9 = .ok (.iload_n 2, 1) := by decide +kernel
theorem dX2_dropFirst_10 : decode cX2_dropFirst 10 = .ok (.bipush 20, 2) := by decide +kernel
theorem dX2_dropFirst_12 : decode cX2_dropFirst 12 = .ok (.if_icmp .ge 23, 3) := by decide +kernel
theorem dX2_dropFirst_15 : decode cX2_dropFirst 15 = .ok (.aload_n 0, 1) := by decide +kernel
theorem dX2_dropFirst_16 : decode cX2_dropFirst 16 = .ok (.getfield 11, 3) := by decide +kernel
theorem dX2_dropFirst_19 : decode cX2_dropFirst 19 = .ok (.iload_n 2, 1) := by decide +kernel
theorem dX2_dropFirst_20 : decode cX2_dropFirst 20 = .ok (.iconst 1, 1) := by decide +kernel
theorem dX2_dropFirst_21 : decode cX2_dropFirst 21 = .ok (.isub, 1) := by decide +kernel
theorem dX2_dropFirst_22 : decode cX2_dropFirst 22 = .ok (.aload_n 0, 1) := by decide +kernel
theorem dX2_dropFirst_23 : decode cX2_dropFirst 23 = .ok (.getfield 11, 3) := by decide +kernel
theorem dX2_dropFirst_26 : decode cX2_dropFirst 26 = .ok (.iload_n 2, 1) := by decide +kernel
theorem dX2_dropFirst_27 : decode cX2_dropFirst 27 = .ok (.aaload, 1) := by decide +kernel
theorem dX2_dropFirst_28 : decode cX2_dropFirst 28 = .ok (.aastore, 1) := by decide +kernel
theorem dX2_dropFirst_29 : decode cX2_dropFirst 29 = .ok (.iinc 2 1, 3) := by decide +kernel
theorem dX2_dropFirst_32 : decode cX2_dropFirst 32 = .ok (.goto (-23), 3) := by decide +kernel
theorem dX2_dropFirst_35 : decode cX2_dropFirst 35 = .ok (.aload_n 0, 1) := by decide +kernel
theorem dX2_dropFirst_36 : decode cX2_dropFirst 36 = .ok (.getfield 11, 3) := by decide +kernel
theorem dX2_dropFirst_39 : decode cX2_dropFirst 39 = .ok (.bipush 19, 2) := by decide +kernel
theorem dX2_dropFirst_41 : decode cX2_dropFirst 41 = .ok (.aload_n 1, 1) := by decide +kernel
theorem dX2_dropFirst_42 : decode cX2_dropFirst 42 = .ok (.aastore, 1) := by decide +kernel
theorem dX2_dropFirst_43 : decode cX2_dropFirst 43 = .ok (.aload_n 0, 1) := by decide +kernel
theorem dX2_dropFirst_44 : decode cX2_dropFirst 44 = .ok (.bipush 19, 2) := by decide +kernel
theorem dX2_dropFirst_46 : decode cX2_dropFirst 46 = .ok (.putfield 18, 3) := by decide +kernel
theorem dX2_dropFirst_49 : decode cX2_dropFirst 49 = .ok (.return_, 1) := by decide +kernel
theorem dX2_restore_0 : decode cX2_restore 0 = .ok (.aload_n 0, 1) := by decide +kernel
theorem dX2_restore_1 : decode cX2_restore 1 = .ok (.getfield 18, 3) := by decide +kernel
theorem dX2_restore_4 : decode cX2_restore 4 = .ok (.ifCond .le 35, 3) := by decide +kernel
theorem dX2_restore_7 : decode cX2_restore 7 = .ok (.aload_n 0, 1) := by decide +kernel
theorem dX2_restore_8 : decode cX2_restore 8 = .ok (.getfield 18, 3) := by decide +kernel
theorem dX2_restore_11 : decode cX2_restore 11 = .ok (.bipush 20, 2) := by decide +kernel
theorem dX2_restore_13 : decode cX2_restore 13 = .ok (.if_icmp .gt 26, 3) := by decide +kernel
theorem dX2_restore_16 : decode cX2_restore 16 = .ok (.aload_n 0, 1) := by decide +kernel
theorem dX2_restore_17 : decode cX2_restore 17 = .ok (.dup, 1) := by decide +kernel
theorem dX2_restore_18 : decode cX2_restore 18 = .ok (.getfield 18, 3) := by decide +kernel
theorem dX2_restore_21 : decode cX2_restore 21 = .ok (.iconst 1, 1) := by decide +kernel
theorem dX2_restore_22 : decode cX2_restore 22 = .ok (.isub, 1) := by decide +kernel
theorem dX2_restore_23 : decode cX2_restore 23 = .ok (.putfield 18, 3) := by decide +kernel
theorem dX2_restore_26 : decode cX2_restore 26 = .ok (.aload_n 1, 1) := by decide +kernel
theorem dX2_restore_27 : decode cX2_restore 27 = .ok (.aload_n 0, 1) := by decide +kernel
theorem dX2_restore_28 : decode cX2_restore 28 = .ok (.getfield 11, 3) := by decide +kernel
theorem dX2_restore_31 : decode cX2_restore 31 = .ok (.aload_n 0, 1) := by decide +kernel
theorem dX2_restore_32 : decode cX2_restore 32 = .ok (.getfield 18, 3) := by decide +kernel
theorem dX2_restore_35 : decode cX2_restore 35 = .ok (.aaload, 1) := by decide +kernel
theorem dX2_restore_36 : decode cX2_restore 36 = .ok (.invokevirtual 25, 3) := by decide +kernel
theorem dX2_restore_39 : decode cX2_restore 39 = .ok (.return_, 1) := by decide +kernel
