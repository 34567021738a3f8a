theorem dX4_fewestPayings_0 : decode cX4_fewestPayings 0 = .ok (.iconst 0, 1) := by decide +kernel
theorem dX4_fewestPayings_1 : decode cX4_fewestPayings 1 = .ok (.istore_n 3, 1) := by decide +kernel
theorem dX4_fewestPayings_2 : decode cX4_fewestPayings 2 = .ok (.iconst 0, 1) := by decide +kernel
theorem dX4_fewestPayings_3 : decode cX4_fewestPayings 3 = .ok (.istore 4, 2) := by decide +kernel
theorem dX4_fewestPayings_5 : decode cX4_fewestPayings 5 = .ok (.iload 4, 2) := by decide +kernel
theorem dX4_fewestPayings_7 : decode cX4_fewestPayings 7 = .ok (.iload_n 2, 1) := by decide +kernel
theorem dX4_fewestPayings_8 : decode cX4_fewestPayings 8 = .ok (.if_icmp .ge 51, 3) := by decide +kernel
theorem dX4_fewestPayings_11 : decode cX4_fewestPayings 11 = .ok (.iload 4, 2) := by decide +kernel
theorem dX4_fewestPayings_13 : decode cX4_fewestPayings 13 = .ok (.bipush 6, 2) := by decide +kernel
theorem dX4_fewestPayings_15 : decode cX4_fewestPayings 15 = .ok (.if_icmp .ge 44, 3) := by decide +kernel
theorem dX4_fewestPayings_18 : decode cX4_fewestPayings 18 = .ok (.aload_n 1, 1) := by decide +kernel
theorem dX4_fewestPayings_19 : decode cX4_fewestPayings 19 = .ok (.iload 4, 2) := by decide +kernel
theorem dX4_fewestPayings_21 : decode cX4_fewestPayings 21 = .ok (.invokevirtual 43, 3) := by decide +kernel
theorem dX4_fewestPayings_24 : decode cX4_fewestPayings 24 = .ok (.istore 5, 2) := by decide +kernel
theorem dX4_fewestPayings_26 : decode cX4_fewestPayings 26 = .ok (.aload_n 0, 1) := by decide +kernel
theorem dX4_fewestPayings_27 : decode cX4_fewestPayings 27 = .ok (.getfield 9, 3) := by decide +kernel
theorem dX4_fewestPayings_30 : decode cX4_fewestPayings 30 = .ok (.iconst 1, 1) := by decide +kernel
theorem dX4_fewestPayings_31 : decode cX4_fewestPayings 31 = .ok (.iload 4, 2) := by decide +kernel
theorem dX4_fewestPayings_33 : decode cX4_fewestPayings 33 = .ok (.ishl, 1) := by decide +kernel
theorem dX4_fewestPayings_34 : decode cX4_fewestPayings 34 = .ok (.iload 5, 2) := by decide +kernel
theorem dX4_fewestPayings_36 : decode cX4_fewestPayings 36 = .ok (.iastore, 1) := by decide +kernel
theorem dX4_fewestPayings_37 : decode cX4_fewestPayings 37 = .ok (.iload_n 3, 1) := by decide +kernel
theorem dX4_fewestPayings_38 : decode cX4_fewestPayings 38 = .ok (.iload 5, 2) := by decide +kernel
theorem dX4_fewestPayings_40 : decode cX4_fewestPayings 40 = .ok (.ifCond .ne 7, 3) := by decide +kernel
theorem dX4_fewestPayings_43 : decode cX4_fewestPayings 43 = .ok (.iconst 0, 1) := by decide +kernel
theorem dX4_fewestPayings_44 : decode cX4_fewestPayings 44 = .ok (.goto 7, 3) := by decide +kernel
theorem dX4_fewestPayings_47 : decode cX4_fewestPayings 47 = .ok (.iconst 1, 1) := by decide +kernel
theorem dX4_fewestPayings_48 : decode cX4_fewestPayings 48 = .ok (.iload 4, 2) := by decide +kernel
theorem dX4_fewestPayings_50 : decode cX4_fewestPayings 50 = .ok (.ishl, 1) := by decide +kernel
theorem dX4_fewestPayings_51 : decode cX4_fewestPayings 51 = .ok (.ior, 1) := by decide +kernel
theorem dX4_fewestPayings_52 : decode cX4_fewestPayings 52 = .ok (.istore_n 3, 1) := by decide +kernel
theorem dX4_fewestPayings_53 : decode cX4_fewestPayings 53 = .ok (.iinc 4 1, 3) := by decide +kernel
theorem dX4_fewestPayings_56 : decode cX4_fewestPayings 56 = .ok (.goto (-51), 3) := by decide +kernel
theorem dX4_fewestPayings_59 : decode cX4_fewestPayings 59 = .ok (.iconst 1, 1) := by decide +kernel
theorem dX4_fewestPayings_60 : decode cX4_fewestPayings 60 = .ok (.istore 4, 2) := by decide +kernel
theorem dX4_fewestPayings_62 : decode cX4_fewestPayings 62 = .ok (.iload 4, 2) := by decide +kernel
theorem dX4_fewestPayings_64 : decode cX4_fewestPayings 64 = .ok (.iload_n 3, 1) := by decide +kernel
theorem dX4_fewestPayings_65 : decode cX4_fewestPayings 65 = .ok (.if_icmp .gt 15, 3) := by decide +kernel
theorem dX4_fewestPayings_68 : decode cX4_fewestPayings 68 = .ok (.aload_n 0, 1) := by decide +kernel
theorem dX4_fewestPayings_69 : decode cX4_fewestPayings 69 = .ok (.iload 4, 2) := by decide +kernel
theorem dX4_fewestPayings_71 : decode cX4_fewestPayings 71 = .ok (.invokevirtual 47, 3) := by decide +kernel
theorem dX4_fewestPayings_74 : decode cX4_fewestPayings 74 = .ok (.iinc 4 1, 3) := by decide +kernel
theorem dX4_fewestPayings_77 : decode cX4_fewestPayings 77 = .ok (.goto (-15), 3) := by decide +kernel
theorem dX4_fewestPayings_80 : decode cX4_fewestPayings 80 = .ok (.iload_n 3, 1) := by decide +kernel
theorem dX4_fewestPayings_81 : decode cX4_fewestPayings 81 = .ok (.ifCond .ne 7, 3) := by decide +kernel
theorem dX4_fewestPayings_84 : decode cX4_fewestPayings 84 = .ok (.iconst 0, 1) := by decide +kernel
theorem dX4_fewestPayings_85 : decode cX4_fewestPayings 85 = .ok (.goto 14, 3) := by decide +kernel
theorem dX4_fewestPayings_88 : decode cX4_fewestPayings 88 = .ok (.iload_n 3, 1) := by decide +kernel
theorem dX4_fewestPayings_89 : decode cX4_fewestPayings 89 = .ok (.invokestatic 51, 3) := by decide +kernel
theorem dX4_fewestPayings_92 : decode cX4_fewestPayings 92 = .ok (.aload_n 0, 1) := by decide +kernel
theorem dX4_fewestPayings_93 : decode cX4_fewestPayings 93 = .ok (.getfield 15, 3) := by decide +kernel
theorem dX4_fewestPayings_96 : decode cX4_fewestPayings 96 = .ok (.iload_n 3, 1) := by decide +kernel
theorem dX4_fewestPayings_97 : decode cX4_fewestPayings 97 = .ok (.iaload, 1) := by decide +kernel
theorem dX4_fewestPayings_98 : decode cX4_fewestPayings 98 = .ok (.isub, 1) := by decide +kernel
theorem dX4_fewestPayings_99 : decode cX4_fewestPayings 99 = .ok (.ireturn, 1) := by decide +kernel
theorem dX4_countGroups_0 : decode cX4_countGroups 0 = .ok (.iload_n 1, 1) := by decide +kernel
theorem dX4_countGroups_1 : decode cX4_countGroups 1 = .ok (.iload_n 1, 1) := by decide +kernel
theorem dX4_countGroups_2 : decode cX4_countGroups 2 = .ok (.ineg, 1) := by decide +kernel
theorem dX4_countGroups_3 : decode cX4_countGroups 3 = .ok (.iand, 1) := by decide +kernel
theorem dX4_countGroups_4 : decode cX4_countGroups 4 = .ok (.istore_n 2, 1) := by decide +kernel
theorem dX4_countGroups_5 : decode cX4_countGroups 5 = .ok (.iload_n 1, 1) := by decide +kernel
theorem dX4_countGroups_6 : decode cX4_countGroups 6 = .ok (.iload_n 2, 1) := by decide +kernel
theorem dX4_countGroups_7 : decode cX4_countGroups 7 = .ok (.if_icmp .eq 24, 3) := by decide +kernel
theorem dX4_countGroups_10 : decode cX4_countGroups 10 = .ok (.aload_n 0, 1) := by decide +kernel
theorem dX4_countGroups_11 : decode cX4_countGroups 11 = .ok (.getfield 9, 3) := by decide +kernel
theorem dX4_countGroups_14 : decode cX4_countGroups 14 = .ok (.iload_n 1, 1) := by decide +kernel
theorem dX4_countGroups_15 : decode cX4_countGroups 15 = .ok (.aload_n 0, 1) := by decide +kernel
theorem dX4_countGroups_16 : decode cX4_countGroups 16 = .ok (.getfield 9, 3) := by decide +kernel
theorem dX4_countGroups_19 : decode cX4_countGroups 19 = .ok (.iload_n 2, 1) := by decide +kernel
theorem dX4_countGroups_20 : decode cX4_countGroups 20 = .ok (.iaload, 1) := by decide +kernel
theorem dX4_countGroups_21 : decode cX4_countGroups 21 = .ok (.aload_n 0, 1) := by decide +kernel
theorem dX4_countGroups_22 : decode cX4_countGroups 22 = .ok (.getfield 9, 3) := by decide +kernel
theorem dX4_countGroups_25 : decode cX4_countGroups 25 = .ok (.iload_n 1, 1) := by decide +kernel
theorem dX4_countGroups_26 : decode cX4_countGroups 26 = .ok (.iload_n 2, 1) := by decide +kernel
theorem dX4_countGroups_27 : decode cX4_countGroups 27 = .ok (.ixor, 1) := by decide +kernel
theorem dX4_countGroups_28 : decode cX4_countGroups 28 = .ok (.iaload, 1) := by decide +kernel
theorem dX4_countGroups_29 : decode cX4_countGroups 29 = .ok (.iadd, 1) := by decide +kernel
theorem dX4_countGroups_30 : decode cX4_countGroups 30 = .ok (.iastore, 1) := by decide +kernel
theorem dX4_countGroups_31 : decode cX4_countGroups 31 = .ok (.iconst 0, 1) := by decide +kernel
theorem dX4_countGroups_32 : decode cX4_countGroups 32 = .ok (.istore_n 3, 1) := by decide +kernel
theorem dX4_countGroups_33 : decode cX4_countGroups 33 = .ok (.iconst 0, 1) := by decide +kernel
theorem dX4_countGroups_34 : decode cX4_countGroups 34 = .ok (.istore 4, 2) := by decide +kernel
theorem dX4_countGroups_36 : decode cX4_countGroups 36 = .ok (.iload 4, 2) := by decide +kernel
theorem dX4_countGroups_38 : decode cX4_countGroups 38 = .ok (.bipush 6, 2) := by decide +kernel
theorem dX4_countGroups_40 : decode cX4_countGroups 40 = .ok (.if_icmp .ge 34, 3) := by decide +kernel
theorem dX4_countGroups_43 : decode cX4_countGroups 43 = .ok (.iload_n 1, 1) := by decide +kernel
theorem dX4_countGroups_44 : decode cX4_countGroups 44 = .ok (.iload 4, 2) := by decide +kernel
theorem dX4_countGroups_46 : decode cX4_countGroups 46 = .ok (.ishr, 1) := by decide +kernel
theorem dX4_countGroups_47 : decode cX4_countGroups 47 = .ok (.iconst 1, 1) := by decide +kernel
theorem dX4_countGroups_48 : decode cX4_countGroups 48 = .ok (.iand, 1) := by decide +kernel
theorem dX4_countGroups_49 : decode cX4_countGroups 49 = .ok (.ifCond .eq 19, 3) := by decide +kernel
theorem dX4_countGroups_52 : decode cX4_countGroups 52 = .ok (.iload_n 3, 1) := by decide +kernel
theorem dX4_countGroups_53 : decode cX4_countGroups 53 = .ok (.aload_n 0, 1) := by decide +kernel
theorem dX4_countGroups_54 : decode cX4_countGroups 54 = .ok (.getfield 15, 3) := by decide +kernel
theorem dX4_countGroups_57 : decode cX4_countGroups 57 = .ok (.iload_n 1, 1) := by decide +kernel
theorem dX4_countGroups_58 : decode cX4_countGroups 58 = .ok (.iconst 1, 1) := by decide +kernel
theorem dX4_countGroups_59 : decode cX4_countGroups 59 = .ok (.iload 4, 2) := by decide +kernel
theorem dX4_countGroups_61 : decode cX4_countGroups 61 = .ok (.ishl, 1) := by decide +kernel
theorem dX4_countGroups_62 : decode cX4_countGroups 62 = .ok (.ixor, 1) := by decide +kernel
theorem dX4_countGroups_63 : decode cX4_countGroups 63 = .ok (.iaload, 1) := by decide +kernel
theorem dX4_countGroups_64 : decode cX4_countGroups 64 = .ok (.invokestatic 56, 3) := by decide +kernel
theorem dX4_countGroups_67 : decode cX4_countGroups 67 = .ok (.istore_n 3, 1) := by decide +kernel
theorem dX4_countGroups_68 : decode cX4_countGroups 68 = .ok (.iinc 4 1, 3) := by decide +kernel
theorem dX4_countGroups_71 : decode cX4_countGroups 71 = .ok (.goto (-35), 3) := by decide +kernel
theorem dX4_countGroups_74 : decode cX4_countGroups 74 = .ok (.aload_n 0, 1) := by decide +kernel
theorem dX4_countGroups_75 : decode cX4_countGroups 75 = .ok (.getfield 15, 3) := by decide +kernel
theorem dX4_countGroups_78 : decode cX4_countGroups 78 = .ok (.iload_n 1, 1) := by decide +kernel
theorem dX4_countGroups_79 : decode cX4_countGroups 79 = .ok (.iload_n 3, 1) := by decide +kernel
theorem dX4_countGroups_80 : decode cX4_countGroups 80 = .ok (.aload_n 0, 1) := by decide +kernel
theorem dX4_countGroups_81 : decode cX4_countGroups 81 = .ok (.getfield 9, 3) := by decide +kernel
theorem dX4_countGroups_84 : decode cX4_countGroups 84 = .ok (.iload_n 1, 1) := by decide +kernel
theorem dX4_countGroups_85 : decode cX4_countGroups 85 = .ok (.iaload, 1) := by decide +kernel
theorem dX4_countGroups_86 : decode cX4_countGroups 86 = .ok (.ifCond .ne 7, 3) := by decide +kernel
theorem dX4_countGroups_89 : decode cX4_countGroups 89 = .ok (.iconst 1, 1) := by decide +kernel
theorem dX4_countGroups_90 : decode cX4_countGroups 90 = .ok (.goto 4, 3) := by decide +kernel
theorem dX4_countGroups_93 : decode cX4_countGroups 93 = .ok (.iconst 0, 1) := by decide +kernel
theorem dX4_countGroups_94 : decode cX4_countGroups 94 = .ok (.iadd, 1) := by decide +kernel
theorem dX4_countGroups_95 : decode cX4_countGroups 95 = .ok (.iastore, 1) := by decide +kernel
theorem dX4_countGroups_96 : decode cX4_countGroups 96 = .ok (.return_, 1) := by decide +kernel
theorem dX4_ringOf_0 : decode cX4_ringOf 0 = .ok (.iload_n 2, 1) := by decide +kernel
theorem dX4_ringOf_1 : decode cX4_ringOf 1 = .ok (.bipush 6, 2) := by decide +kernel
theorem dX4_ringOf_3 : decode cX4_ringOf 3 = .ok (.invokestatic 62, 3) := by decide +kernel
theorem dX4_ringOf_6 : decode cX4_ringOf 6 = .ok (.istore_n 3, 1) := by decide +kernel
theorem dX4_ringOf_7 : decode cX4_ringOf 7 = .ok (.iconst 0, 1) := by decide +kernel
theorem dX4_ringOf_8 : decode cX4_ringOf 8 = .ok (.istore 4, 2) := by decide +kernel
theorem dX4_ringOf_10 : decode cX4_ringOf 10 = .ok (.iload 4, 2) := by decide +kernel
theorem dX4_ringOf_12 : decode cX4_ringOf 12 = .ok (.iload_n 3, 1) := by decide +kernel
theorem dX4_ringOf_13 : decode cX4_ringOf 13 = .ok (.if_icmp .ge 22, 3) := by decide +kernel
theorem dX4_ringOf_16 : decode cX4_ringOf 16 = .ok (.aload_n 0, 1) := by decide +kernel
theorem dX4_ringOf_17 : decode cX4_ringOf 17 = .ok (.getfield 18, 3) := by decide +kernel
theorem dX4_ringOf_20 : decode cX4_ringOf 20 = .ok (.iload 4, 2) := by decide +kernel
theorem dX4_ringOf_22 : decode cX4_ringOf 22 = .ok (.iload 4, 2) := by decide +kernel
theorem dX4_ringOf_24 : decode cX4_ringOf 24 = .ok (.aload_n 1, 1) := by decide +kernel
theorem dX4_ringOf_25 : decode cX4_ringOf 25 = .ok (.invokestatic 65, 3) := by decide +kernel
theorem dX4_ringOf_28 : decode cX4_ringOf 28 = .ok (.iastore, 1) := by decide +kernel
theorem dX4_ringOf_29 : decode cX4_ringOf 29 = .ok (.iinc 4 1, 3) := by decide +kernel
theorem dX4_ringOf_32 : decode cX4_ringOf 32 = .ok (.goto (-22), 3) := by decide +kernel
theorem dX4_ringOf_35 : decode cX4_ringOf 35 = .ok (.iconst 0, 1) := by decide +kernel
theorem dX4_ringOf_36 : decode cX4_ringOf 36 = .ok (.istore 4, 2) := by decide +kernel
theorem dX4_ringOf_38 : decode cX4_ringOf 38 = .ok (.iload 4, 2) := by decide +kernel
theorem dX4_ringOf_40 : decode cX4_ringOf 40 = .ok (.iload_n 3, 1) := by decide +kernel
theorem dX4_ringOf_41 : decode cX4_ringOf 41 = .ok (.if_icmp .ge 56, 3) := by decide +kernel
theorem dX4_ringOf_44 : decode cX4_ringOf 44 = .ok (.iconst 0, 1) := by decide +kernel
theorem dX4_ringOf_45 : decode cX4_ringOf 45 = .ok (.istore 5, 2) := by decide +kernel
theorem dX4_ringOf_47 : decode cX4_ringOf 47 = .ok (.iload 5, 2) := by decide +kernel
theorem dX4_ringOf_49 : decode cX4_ringOf 49 = .ok (.iload_n 3, 1) := by decide +kernel
theorem dX4_ringOf_50 : decode cX4_ringOf 50 = .ok (.if_icmp .ge 41, 3) := by decide +kernel
theorem dX4_ringOf_53 : decode cX4_ringOf 53 = .ok (.aload_n 0, 1) := by decide +kernel
theorem dX4_ringOf_54 : decode cX4_ringOf 54 = .ok (.getfield 18, 3) := by decide +kernel
theorem dX4_ringOf_57 : decode cX4_ringOf 57 = .ok (.iload 5, 2) := by decide +kernel
theorem dX4_ringOf_59 : decode cX4_ringOf 59 = .ok (.iaload, 1) := by decide +kernel
theorem dX4_ringOf_60 : decode cX4_ringOf 60 = .ok (.iload 4, 2) := by decide +kernel
theorem dX4_ringOf_62 : decode cX4_ringOf 62 = .ok (.ishr, 1) := by decide +kernel
theorem dX4_ringOf_63 : decode cX4_ringOf 63 = .ok (.iconst 1, 1) := by decide +kernel
theorem dX4_ringOf_64 : decode cX4_ringOf 64 = .ok (.iand, 1) := by decide +kernel
theorem dX4_ringOf_65 : decode cX4_ringOf 65 = .ok (.ifCond .eq 20, 3) := by decide +kernel
theorem dX4_ringOf_68 : decode cX4_ringOf 68 = .ok (.aload_n 0, 1) := by decide +kernel
theorem dX4_ringOf_69 : decode cX4_ringOf 69 = .ok (.getfield 18, 3) := by decide +kernel
theorem dX4_ringOf_72 : decode cX4_ringOf 72 = .ok (.iload 5, 2) := by decide +kernel
theorem dX4_ringOf_74 : decode cX4_ringOf 74 = .ok (.dup2, 1) := by decide +kernel
theorem dX4_ringOf_75 : decode cX4_ringOf 75 = .ok (.iaload, 1) := by decide +kernel
theorem dX4_ringOf_76 : decode cX4_ringOf 76 = .ok (.aload_n 0, 1) := by decide +kernel
theorem dX4_ringOf_77 : decode cX4_ringOf 77 = .ok (.getfield 18, 3) := by decide +kernel
theorem dX4_ringOf_80 : decode cX4_ringOf 80 = .ok (.iload 4, 2) := by decide +kernel
theorem dX4_ringOf_82 : decode cX4_ringOf 82 = .ok (.iaload, 1) := by decide +kernel
theorem dX4_ringOf_83 : decode cX4_ringOf 83 = .ok (.ior, 1) := by decide +kernel
theorem dX4_ringOf_84 : decode cX4_ringOf 84 = .ok (.iastore, 1) := by decide +kernel
theorem dX4_ringOf_85 : decode cX4_ringOf 85 = .ok (.iinc 5 1, 3) := by decide +kernel
theorem dX4_ringOf_88 : decode cX4_ringOf 88 = .ok (.goto (-41), 3) := by decide +kernel
theorem dX4_ringOf_91 : decode cX4_ringOf 91 = .ok (.iinc 4 1, 3) := by decide +kernel
theorem dX4_ringOf_94 : decode cX4_ringOf 94 = .ok (.goto (-56), 3) := by decide +kernel
theorem dX4_ringOf_97 : decode cX4_ringOf 97 = .ok (.iconst 0, 1) := by decide +kernel
theorem dX4_ringOf_98 : decode cX4_ringOf 98 = .ok (.istore 4, 2) := by decide +kernel
theorem dX4_ringOf_100 : decode cX4_ringOf 100 = .ok (.iconst 0, 1) := by decide +kernel
theorem dX4_ringOf_101 : decode cX4_ringOf 101 = .ok (.istore 5, 2) := by decide +kernel
theorem dX4_ringOf_103 : decode cX4_ringOf 103 = .ok (.iload 5, 2) := by decide +kernel
theorem dX4_ringOf_105 : decode cX4_ringOf 105 = .ok (.iload_n 3, 1) := by decide +kernel
theorem dX4_ringOf_106 : decode cX4_ringOf 106 = .ok (.if_icmp .ge 26, 3) := by decide +kernel
theorem dX4_ringOf_109 : decode cX4_ringOf 109 = .ok (.iload 4, 2) := by decide +kernel
theorem dX4_ringOf_111 : decode cX4_ringOf 111 = .ok (.aload_n 0, 1) := by decide +kernel
theorem dX4_ringOf_112 : decode cX4_ringOf 112 = .ok (.getfield 18, 3) := by decide +kernel
theorem dX4_ringOf_115 : decode cX4_ringOf 115 = .ok (.iload 5, 2) := by decide +kernel
theorem dX4_ringOf_117 : decode cX4_ringOf 117 = .ok (.iaload, 1) := by decide +kernel
theorem dX4_ringOf_118 : decode cX4_ringOf 118 = .ok (.iconst 1, 1) := by decide +kernel
theorem dX4_ringOf_119 : decode cX4_ringOf 119 = .ok (.iload 5, 2) := by decide +kernel
theorem dX4_ringOf_121 : decode cX4_ringOf 121 = .ok (.ishl, 1) := by decide +kernel
theorem dX4_ringOf_122 : decode cX4_ringOf 122 = .ok (.iand, 1) := by decide +kernel
theorem dX4_ringOf_123 : decode cX4_ringOf 123 = .ok (.ior, 1) := by decide +kernel
theorem dX4_ringOf_124 : decode cX4_ringOf 124 = .ok (.istore 4, 2) := by decide +kernel
theorem dX4_ringOf_126 : decode cX4_ringOf 126 = .ok (.iinc 5 1, 3) := by decide +kernel
theorem dX4_ringOf_129 : decode cX4_ringOf 129 = .ok (.goto (-26), 3) := by decide +kernel
theorem dX4_ringOf_132 : decode cX4_ringOf 132 = .ok (.iload 4, 2) := by decide +kernel
theorem dX4_ringOf_134 : decode cX4_ringOf 134 = .ok (.ireturn, 1) := by decide +kernel
theorem dX4_lendersOf_0 : decode cX4_lendersOf 0 = .ok (.iconst 0, 1) := by decide +kernel
theorem dX4_lendersOf_1 : decode cX4_lendersOf 1 = .ok (.istore_n 2, 1) := by decide +kernel
theorem dX4_lendersOf_2 : decode cX4_lendersOf 2 = .ok (.iconst 0, 1) := by decide +kernel
theorem dX4_lendersOf_3 : decode cX4_lendersOf 3 = .ok (.istore_n 3, 1) := by decide +kernel
theorem dX4_lendersOf_4 : decode cX4_lendersOf 4 = .ok (.iload_n 3, 1) := by decide +kernel
theorem dX4_lendersOf_5 : decode cX4_lendersOf 5 = .ok (.aload_n 1, 1) := by decide +kernel
theorem dX4_lendersOf_6 : decode cX4_lendersOf 6 = .ok (.getfield 69, 3) := by decide +kernel
theorem dX4_lendersOf_9 : decode cX4_lendersOf 9 = .ok (.if_icmp .ge 40, 3) := by decide +kernel
theorem dX4_lendersOf_12 : decode cX4_lendersOf 12 = .ok (.aload_n 1, 1) := by decide +kernel
theorem dX4_lendersOf_13 : decode cX4_lendersOf 13 = .ok (.getfield 73, 3) := by decide +kernel
theorem dX4_lendersOf_16 : decode cX4_lendersOf 16 = .ok (.iload_n 3, 1) := by decide +kernel
theorem dX4_lendersOf_17 : decode cX4_lendersOf 17 = .ok (.iaload, 1) := by decide +kernel
theorem dX4_lendersOf_18 : decode cX4_lendersOf 18 = .ok (.iconst 1, 1) := by decide +kernel
theorem dX4_lendersOf_19 : decode cX4_lendersOf 19 = .ok (.if_icmp .ne 24, 3) := by decide +kernel
theorem dX4_lendersOf_22 : decode cX4_lendersOf 22 = .ok (.aload_n 1, 1) := by decide +kernel
theorem dX4_lendersOf_23 : decode cX4_lendersOf 23 = .ok (.getfield 76, 3) := by decide +kernel
theorem dX4_lendersOf_26 : decode cX4_lendersOf 26 = .ok (.iload_n 3, 1) := by decide +kernel
theorem dX4_lendersOf_27 : decode cX4_lendersOf 27 = .ok (.iaload, 1) := by decide +kernel
theorem dX4_lendersOf_28 : decode cX4_lendersOf 28 = .ok (.iload_n 0, 1) := by decide +kernel
theorem dX4_lendersOf_29 : decode cX4_lendersOf 29 = .ok (.if_icmp .ne 14, 3) := by decide +kernel
theorem dX4_lendersOf_32 : decode cX4_lendersOf 32 = .ok (.iload_n 2, 1) := by decide +kernel
theorem dX4_lendersOf_33 : decode cX4_lendersOf 33 = .ok (.iconst 1, 1) := by decide +kernel
theorem dX4_lendersOf_34 : decode cX4_lendersOf 34 = .ok (.aload_n 1, 1) := by decide +kernel
theorem dX4_lendersOf_35 : decode cX4_lendersOf 35 = .ok (.getfield 79, 3) := by decide +kernel
theorem dX4_lendersOf_38 : decode cX4_lendersOf 38 = .ok (.iload_n 3, 1) := by decide +kernel
theorem dX4_lendersOf_39 : decode cX4_lendersOf 39 = .ok (.iaload, 1) := by decide +kernel
theorem dX4_lendersOf_40 : decode cX4_lendersOf 40 = .ok (.ishl, 1) := by decide +kernel
theorem dX4_lendersOf_41 : decode cX4_lendersOf 41 = .ok (.ior, 1) := by decide +kernel
theorem dX4_lendersOf_42 : decode cX4_lendersOf 42 = .ok (.istore_n 2, 1) := by decide +kernel
theorem dX4_lendersOf_43 : decode cX4_lendersOf 43 = .ok (.iinc 3 1, 3) := by decide +kernel
theorem dX4_lendersOf_46 : decode cX4_lendersOf 46 = .ok (.goto (-42), 3) := by decide +kernel
theorem dX4_lendersOf_49 : decode cX4_lendersOf 49 = .ok (.iload_n 2, 1) := by decide +kernel
theorem dX4_lendersOf_50 : decode cX4_lendersOf 50 = .ok (.ireturn, 1) := by decide +kernel
theorem dX4_findOrder_0 : decode cX4_findOrder 0 = .ok (.aload_n 0, 1) := by decide +kernel
theorem dX4_findOrder_1 : decode cX4_findOrder 1 = .ok (.iconst 0, 1) := by decide +kernel
theorem dX4_findOrder_2 : decode cX4_findOrder 2 = .ok (.putfield 82, 3) := by decide +kernel
theorem dX4_findOrder_5 : decode cX4_findOrder 5 = .ok (.iconst 0, 1) := by decide +kernel
theorem dX4_findOrder_6 : decode cX4_findOrder 6 = .ok (.istore_n 2, 1) := by decide +kernel
theorem dX4_findOrder_7 : decode cX4_findOrder 7 = .ok (.iload_n 2, 1) := by decide +kernel
theorem dX4_findOrder_8 : decode cX4_findOrder 8 = .ok (.aload_n 1, 1) := by decide +kernel
theorem dX4_findOrder_9 : decode cX4_findOrder 9 = .ok (.getfield 69, 3) := by decide +kernel
theorem dX4_findOrder_12 : decode cX4_findOrder 12 = .ok (.if_icmp .ge 47, 3) := by decide +kernel
theorem dX4_findOrder_15 : decode cX4_findOrder 15 = .ok (.aload_n 0, 1) := by decide +kernel
theorem dX4_findOrder_16 : decode cX4_findOrder 16 = .ok (.getfield 82, 3) := by decide +kernel
theorem dX4_findOrder_19 : decode cX4_findOrder 19 = .ok (.iconst 4, 1) := by decide +kernel
theorem dX4_findOrder_20 : decode cX4_findOrder 20 = .ok (.if_icmp .ge 39, 3) := by decide +kernel
theorem dX4_findOrder_23 : decode cX4_findOrder 23 = .ok (.aload_n 1, 1) := by decide +kernel
theorem dX4_findOrder_24 : decode cX4_findOrder 24 = .ok (.getfield 73, 3) := by decide +kernel
theorem dX4_findOrder_27 : decode cX4_findOrder 27 = .ok (.iload_n 2, 1) := by decide +kernel
theorem dX4_findOrder_28 : decode cX4_findOrder 28 = .ok (.iaload, 1) := by decide +kernel
theorem dX4_findOrder_29 : decode cX4_findOrder 29 = .ok (.iconst 1, 1) := by decide +kernel
theorem dX4_findOrder_30 : decode cX4_findOrder 30 = .ok (.if_icmp .ne 23, 3) := by decide +kernel
theorem dX4_findOrder_33 : decode cX4_findOrder 33 = .ok (.aload_n 0, 1) := by decide +kernel
theorem dX4_findOrder_34 : decode cX4_findOrder 34 = .ok (.getfield 21, 3) := by decide +kernel
theorem dX4_findOrder_37 : decode cX4_findOrder 37 = .ok (.aload_n 0, 1) := by decide +kernel
theorem dX4_findOrder_38 : decode cX4_findOrder 38 = .ok (.getfield 82, 3) := by decide +kernel
theorem dX4_findOrder_41 : decode cX4_findOrder 41 = .ok (.iload_n 2, 1) := by decide +kernel
theorem dX4_findOrder_42 : decode cX4_findOrder 42 = .ok (.iastore, 1) := by decide +kernel
theorem dX4_findOrder_43 : decode cX4_findOrder 43 = .ok (.aload_n 0, 1) := by decide +kernel
theorem dX4_findOrder_44 : decode cX4_findOrder 44 = .ok (.dup, 1) := by decide +kernel
theorem dX4_findOrder_45 : decode cX4_findOrder 45 = .ok (.getfield 82, 3) := by decide +kernel
theorem dX4_findOrder_48 : decode cX4_findOrder 48 = .ok (.iconst 1, 1) := by decide +kernel
theorem dX4_findOrder_49 : decode cX4_findOrder 49 = .ok (.iadd, 1) := by decide +kernel
theorem dX4_findOrder_50 : decode cX4_findOrder 50 = .ok (.putfield 82, 3) := by decide +kernel
theorem dX4_findOrder_53 : decode cX4_findOrder 53 = .ok (.iinc 2 1, 3) := by decide +kernel
theorem dX4_findOrder_56 : decode cX4_findOrder 56 = .ok (.goto (-49), 3) := by decide +kernel
theorem dX4_findOrder_59 : decode cX4_findOrder 59 = .ok (.aload_n 0, 1) := by decide +kernel
theorem dX4_findOrder_60 : decode cX4_findOrder 60 = .ok (.iconst (-1), 1) := by decide +kernel
theorem dX4_findOrder_61 : decode cX4_findOrder 61 = .ok (.putfield 85, 3) := by decide +kernel
theorem dX4_findOrder_64 : decode cX4_findOrder 64 = .ok (.iconst 0, 1) := by decide +kernel
theorem dX4_findOrder_65 : decode cX4_findOrder 65 = .ok (.istore_n 2, 1) := by decide +kernel
theorem dX4_findOrder_66 : decode cX4_findOrder 66 = .ok (.iload_n 2, 1) := by decide +kernel
theorem dX4_findOrder_67 : decode cX4_findOrder 67 = .ok (.iconst 1, 1) := by decide +kernel
theorem dX4_findOrder_68 : decode cX4_findOrder 68 = .ok (.iconst 2, 1) := by decide +kernel
theorem dX4_findOrder_69 : decode cX4_findOrder 69 = .ok (.aload_n 0, 1) := by decide +kernel
theorem dX4_findOrder_70 : decode cX4_findOrder 70 = .ok (.getfield 82, 3) := by decide +kernel
theorem dX4_findOrder_73 : decode cX4_findOrder 73 = .ok (.imul, 1) := by decide +kernel
theorem dX4_findOrder_74 : decode cX4_findOrder 74 = .ok (.ishl, 1) := by decide +kernel
theorem dX4_findOrder_75 : decode cX4_findOrder 75 = .ok (.if_icmp .ge 22, 3) := by decide +kernel
theorem dX4_findOrder_78 : decode cX4_findOrder 78 = .ok (.aload_n 0, 1) := by decide +kernel
theorem dX4_findOrder_79 : decode cX4_findOrder 79 = .ok (.iload_n 2, 1) := by decide +kernel
theorem dX4_findOrder_80 : decode cX4_findOrder 80 = .ok (.invokevirtual 88, 3) := by decide +kernel
theorem dX4_findOrder_83 : decode cX4_findOrder 83 = .ok (.ifCond .eq 8, 3) := by decide +kernel
theorem dX4_findOrder_86 : decode cX4_findOrder 86 = .ok (.aload_n 0, 1) := by decide +kernel
theorem dX4_findOrder_87 : decode cX4_findOrder 87 = .ok (.aload_n 1, 1) := by decide +kernel
theorem dX4_findOrder_88 : decode cX4_findOrder 88 = .ok (.invokevirtual 92, 3) := by decide +kernel
theorem dX4_findOrder_91 : decode cX4_findOrder 91 = .ok (.iinc 2 1, 3) := by decide +kernel
theorem dX4_findOrder_94 : decode cX4_findOrder 94 = .ok (.goto (-28), 3) := by decide +kernel
theorem dX4_findOrder_97 : decode cX4_findOrder 97 = .ok (.return_, 1) := by decide +kernel
theorem dX4_setRow_0 : decode cX4_setRow 0 = .ok (.iconst 0, 1) := by decide +kernel
theorem dX4_setRow_1 : decode cX4_setRow 1 = .ok (.istore_n 2, 1) := by decide +kernel
theorem dX4_setRow_2 : decode cX4_setRow 2 = .ok (.iconst 0, 1) := by decide +kernel
theorem dX4_setRow_3 : decode cX4_setRow 3 = .ok (.istore_n 3, 1) := by decide +kernel
theorem dX4_setRow_4 : decode cX4_setRow 4 = .ok (.iload_n 3, 1) := by decide +kernel
theorem dX4_setRow_5 : decode cX4_setRow 5 = .ok (.aload_n 0, 1) := by decide +kernel
theorem dX4_setRow_6 : decode cX4_setRow 6 = .ok (.getfield 82, 3) := by decide +kernel
theorem dX4_setRow_9 : decode cX4_setRow 9 = .ok (.if_icmp .ge 70, 3) := by decide +kernel
theorem dX4_setRow_12 : decode cX4_setRow 12 = .ok (.iload_n 3, 1) := by decide +kernel
theorem dX4_setRow_13 : decode cX4_setRow 13 = .ok (.iconst 4, 1) := by decide +kernel
theorem dX4_setRow_14 : decode cX4_setRow 14 = .ok (.if_icmp .ge 65, 3) := by decide +kernel
theorem dX4_setRow_17 : decode cX4_setRow 17 = .ok (.iload_n 1, 1) := by decide +kernel
theorem dX4_setRow_18 : decode cX4_setRow 18 = .ok (.iconst 2, 1) := by decide +kernel
theorem dX4_setRow_19 : decode cX4_setRow 19 = .ok (.aload_n 0, 1) := by decide +kernel
theorem dX4_setRow_20 : decode cX4_setRow 20 = .ok (.getfield 82, 3) := by decide +kernel
theorem dX4_setRow_23 : decode cX4_setRow 23 = .ok (.iconst 1, 1) := by decide +kernel
theorem dX4_setRow_24 : decode cX4_setRow 24 = .ok (.isub, 1) := by decide +kernel
theorem dX4_setRow_25 : decode cX4_setRow 25 = .ok (.iload_n 3, 1) := by decide +kernel
theorem dX4_setRow_26 : decode cX4_setRow 26 = .ok (.isub, 1) := by decide +kernel
theorem dX4_setRow_27 : decode cX4_setRow 27 = .ok (.imul, 1) := by decide +kernel
theorem dX4_setRow_28 : decode cX4_setRow 28 = .ok (.ishr, 1) := by decide +kernel
theorem dX4_setRow_29 : decode cX4_setRow 29 = .ok (.iconst 3, 1) := by decide +kernel
theorem dX4_setRow_30 : decode cX4_setRow 30 = .ok (.iand, 1) := by decide +kernel
theorem dX4_setRow_31 : decode cX4_setRow 31 = .ok (.istore 4, 2) := by decide +kernel
theorem dX4_setRow_33 : decode cX4_setRow 33 = .ok (.iload 4, 2) := by decide +kernel
theorem dX4_setRow_35 : decode cX4_setRow 35 = .ok (.aload_n 0, 1) := by decide +kernel
theorem dX4_setRow_36 : decode cX4_setRow 36 = .ok (.getfield 82, 3) := by decide +kernel
theorem dX4_setRow_39 : decode cX4_setRow 39 = .ok (.if_icmp .ge 12, 3) := by decide +kernel
theorem dX4_setRow_42 : decode cX4_setRow 42 = .ok (.iload_n 2, 1) := by decide +kernel
theorem dX4_setRow_43 : decode cX4_setRow 43 = .ok (.iload 4, 2) := by decide +kernel
theorem dX4_setRow_45 : decode cX4_setRow 45 = .ok (.ishr, 1) := by decide +kernel
theorem dX4_setRow_46 : decode cX4_setRow 46 = .ok (.iconst 1, 1) := by decide +kernel
theorem dX4_setRow_47 : decode cX4_setRow 47 = .ok (.iand, 1) := by decide +kernel
theorem dX4_setRow_48 : decode cX4_setRow 48 = .ok (.ifCond .eq 5, 3) := by decide +kernel
theorem dX4_setRow_51 : decode cX4_setRow 51 = .ok (.iconst 0, 1) := by decide +kernel
theorem dX4_setRow_52 : decode cX4_setRow 52 = .ok (.ireturn, 1) := by decide +kernel
theorem dX4_setRow_53 : decode cX4_setRow 53 = .ok (.iload_n 2, 1) := by decide +kernel
theorem dX4_setRow_54 : decode cX4_setRow 54 = .ok (.iconst 1, 1) := by decide +kernel
theorem dX4_setRow_55 : decode cX4_setRow 55 = .ok (.iload 4, 2) := by decide +kernel
theorem dX4_setRow_57 : decode cX4_setRow 57 = .ok (.ishl, 1) := by decide +kernel
theorem dX4_setRow_58 : decode cX4_setRow 58 = .ok (.ior, 1) := by decide +kernel
theorem dX4_setRow_59 : decode cX4_setRow 59 = .ok (.istore_n 2, 1) := by decide +kernel
theorem dX4_setRow_60 : decode cX4_setRow 60 = .ok (.aload_n 0, 1) := by decide +kernel
theorem dX4_setRow_61 : decode cX4_setRow 61 = .ok (.getfield 24, 3) := by decide +kernel
theorem dX4_setRow_64 : decode cX4_setRow 64 = .ok (.iload_n 3, 1) := by decide +kernel
theorem dX4_setRow_65 : decode cX4_setRow 65 = .ok (.aload_n 0, 1) := by decide +kernel
theorem dX4_setRow_66 : decode cX4_setRow 66 = .ok (.getfield 21, 3) := by decide +kernel
theorem dX4_setRow_69 : decode cX4_setRow 69 = .ok (.iload 4, 2) := by decide +kernel
theorem dX4_setRow_71 : decode cX4_setRow 71 = .ok (.iaload, 1) := by decide +kernel
theorem dX4_setRow_72 : decode cX4_setRow 72 = .ok (.iastore, 1) := by decide +kernel
theorem dX4_setRow_73 : decode cX4_setRow 73 = .ok (.iinc 3 1, 3) := by decide +kernel
theorem dX4_setRow_76 : decode cX4_setRow 76 = .ok (.goto (-72), 3) := by decide +kernel
theorem dX4_setRow_79 : decode cX4_setRow 79 = .ok (.iconst 1, 1) := by decide +kernel
theorem dX4_setRow_80 : decode cX4_setRow 80 = .ok (.ireturn, 1) := by decide +kernel
theorem dX4_tryRow_0 : decode cX4_tryRow 0 = .ok (.aload_n 0, 1) := by decide +kernel
theorem dX4_tryRow_1 : decode cX4_tryRow 1 = .ok (.getfield 30, 3) := by decide +kernel
theorem dX4_tryRow_4 : decode cX4_tryRow 4 = .ok (.aload_n 1, 1) := by decide +kernel
theorem dX4_tryRow_5 : decode cX4_tryRow 5 = .ok (.invokevirtual 96, 3) := by decide +kernel
theorem dX4_tryRow_8 : decode cX4_tryRow 8 = .ok (.iconst 0, 1) := by decide +kernel
theorem dX4_tryRow_9 : decode cX4_tryRow 9 = .ok (.istore_n 2, 1) := by decide +kernel
theorem dX4_tryRow_10 : decode cX4_tryRow 10 = .ok (.iconst 0, 1) := by decide +kernel
theorem dX4_tryRow_11 : decode cX4_tryRow 11 = .ok (.istore_n 3, 1) := by decide +kernel
theorem dX4_tryRow_12 : decode cX4_tryRow 12 = .ok (.iload_n 3, 1) := by decide +kernel
theorem dX4_tryRow_13 : decode cX4_tryRow 13 = .ok (.aload_n 0, 1) := by decide +kernel
theorem dX4_tryRow_14 : decode cX4_tryRow 14 = .ok (.getfield 82, 3) := by decide +kernel
theorem dX4_tryRow_17 : decode cX4_tryRow 17 = .ok (.if_icmp .ge 73, 3) := by decide +kernel
theorem dX4_tryRow_20 : decode cX4_tryRow 20 = .ok (.iload_n 3, 1) := by decide +kernel
theorem dX4_tryRow_21 : decode cX4_tryRow 21 = .ok (.iconst 4, 1) := by decide +kernel
theorem dX4_tryRow_22 : decode cX4_tryRow 22 = .ok (.if_icmp .ge 68, 3) := by decide +kernel
theorem dX4_tryRow_25 : decode cX4_tryRow 25 = .ok (.aload_n 0, 1) := by decide +kernel
theorem dX4_tryRow_26 : decode cX4_tryRow 26 = .ok (.getfield 24, 3) := by decide +kernel
theorem dX4_tryRow_29 : decode cX4_tryRow 29 = .ok (.iload_n 3, 1) := by decide +kernel
theorem dX4_tryRow_30 : decode cX4_tryRow 30 = .ok (.iaload, 1) := by decide +kernel
theorem dX4_tryRow_31 : decode cX4_tryRow 31 = .ok (.istore 4, 2) := by decide +kernel
theorem dX4_tryRow_33 : decode cX4_tryRow 33 = .ok (.iload 4, 2) := by decide +kernel
theorem dX4_tryRow_35 : decode cX4_tryRow 35 = .ok (.ifCond .lt 49, 3) := by decide +kernel
theorem dX4_tryRow_38 : decode cX4_tryRow 38 = .ok (.iload 4, 2) := by decide +kernel
theorem dX4_tryRow_40 : decode cX4_tryRow 40 = .ok (.aload_n 0, 1) := by decide +kernel
theorem dX4_tryRow_41 : decode cX4_tryRow 41 = .ok (.getfield 30, 3) := by decide +kernel
theorem dX4_tryRow_44 : decode cX4_tryRow 44 = .ok (.getfield 69, 3) := by decide +kernel
theorem dX4_tryRow_47 : decode cX4_tryRow 47 = .ok (.if_icmp .ge 37, 3) := by decide +kernel
theorem dX4_tryRow_50 : decode cX4_tryRow 50 = .ok (.aload_n 0, 1) := by decide +kernel
theorem dX4_tryRow_51 : decode cX4_tryRow 51 = .ok (.getfield 30, 3) := by decide +kernel
theorem dX4_tryRow_54 : decode cX4_tryRow 54 = .ok (.iload 4, 2) := by decide +kernel
theorem dX4_tryRow_56 : decode cX4_tryRow 56 = .ok (.invokevirtual 99, 3) := by decide +kernel
theorem dX4_tryRow_59 : decode cX4_tryRow 59 = .ok (.ifCond .eq 25, 3) := by decide +kernel
theorem dX4_tryRow_62 : decode cX4_tryRow 62 = .ok (.iload_n 2, 1) := by decide +kernel
theorem dX4_tryRow_63 : decode cX4_tryRow 63 = .ok (.aload_n 0, 1) := by decide +kernel
theorem dX4_tryRow_64 : decode cX4_tryRow 64 = .ok (.getfield 30, 3) := by decide +kernel
theorem dX4_tryRow_67 : decode cX4_tryRow 67 = .ok (.getfield 102, 3) := by decide +kernel
theorem dX4_tryRow_70 : decode cX4_tryRow 70 = .ok (.iload 4, 2) := by decide +kernel
theorem dX4_tryRow_72 : decode cX4_tryRow 72 = .ok (.iaload, 1) := by decide +kernel
theorem dX4_tryRow_73 : decode cX4_tryRow 73 = .ok (.iadd, 1) := by decide +kernel
theorem dX4_tryRow_74 : decode cX4_tryRow 74 = .ok (.istore_n 2, 1) := by decide +kernel
theorem dX4_tryRow_75 : decode cX4_tryRow 75 = .ok (.aload_n 0, 1) := by decide +kernel
theorem dX4_tryRow_76 : decode cX4_tryRow 76 = .ok (.getfield 30, 3) := by decide +kernel
theorem dX4_tryRow_79 : decode cX4_tryRow 79 = .ok (.iload 4, 2) := by decide +kernel
theorem dX4_tryRow_81 : decode cX4_tryRow 81 = .ok (.invokevirtual 105, 3) := by decide +kernel
theorem dX4_tryRow_84 : decode cX4_tryRow 84 = .ok (.iinc 3 1, 3) := by decide +kernel
theorem dX4_tryRow_87 : decode cX4_tryRow 87 = .ok (.goto (-75), 3) := by decide +kernel
theorem dX4_tryRow_90 : decode cX4_tryRow 90 = .ok (.iload_n 2, 1) := by decide +kernel
theorem dX4_tryRow_91 : decode cX4_tryRow 91 = .ok (.aload_n 0, 1) := by decide +kernel
theorem dX4_tryRow_92 : decode cX4_tryRow 92 = .ok (.getfield 85, 3) := by decide +kernel
theorem dX4_tryRow_95 : decode cX4_tryRow 95 = .ok (.if_icmp .le 22, 3) := by decide +kernel
theorem dX4_tryRow_98 : decode cX4_tryRow 98 = .ok (.aload_n 0, 1) := by decide +kernel
theorem dX4_tryRow_99 : decode cX4_tryRow 99 = .ok (.iload_n 2, 1) := by decide +kernel
theorem dX4_tryRow_100 : decode cX4_tryRow 100 = .ok (.putfield 85, 3) := by decide +kernel
theorem dX4_tryRow_103 : decode cX4_tryRow 103 = .ok (.aload_n 0, 1) := by decide +kernel
theorem dX4_tryRow_104 : decode cX4_tryRow 104 = .ok (.getfield 24, 3) := by decide +kernel
theorem dX4_tryRow_107 : decode cX4_tryRow 107 = .ok (.iconst 0, 1) := by decide +kernel
theorem dX4_tryRow_108 : decode cX4_tryRow 108 = .ok (.aload_n 0, 1) := by decide +kernel
theorem dX4_tryRow_109 : decode cX4_tryRow 109 = .ok (.getfield 34, 3) := by decide +kernel
theorem dX4_tryRow_112 : decode cX4_tryRow 112 = .ok (.iconst 0, 1) := by decide +kernel
theorem dX4_tryRow_113 : decode cX4_tryRow 113 = .ok (.iconst 4, 1) := by decide +kernel
theorem dX4_tryRow_114 : decode cX4_tryRow 114 = .ok (.invokestatic 108, 3) := by decide +kernel
theorem dX4_tryRow_117 : decode cX4_tryRow 117 = .ok (.return_, 1) := by decide +kernel
theorem dX4_findRests_0 : decode cX4_findRests 0 = .ok (.iconst 0, 1) := by decide +kernel
theorem dX4_findRests_1 : decode cX4_findRests 1 = .ok (.istore 4, 2) := by decide +kernel
theorem dX4_findRests_3 : decode cX4_findRests 3 = .ok (.iconst 0, 1) := by decide +kernel
theorem dX4_findRests_4 : decode cX4_findRests 4 = .ok (.istore 5, 2) := by decide +kernel
theorem dX4_findRests_6 : decode cX4_findRests 6 = .ok (.iload 5, 2) := by decide +kernel
theorem dX4_findRests_8 : decode cX4_findRests 8 = .ok (.aload_n 0, 1) := by decide +kernel
theorem dX4_findRests_9 : decode cX4_findRests 9 = .ok (.getfield 37, 3) := by decide +kernel
theorem dX4_findRests_12 : decode cX4_findRests 12 = .ok (.arraylength, 1) := by decide +kernel
theorem dX4_findRests_13 : decode cX4_findRests 13 = .ok (.if_icmp .ge 101, 3) := by decide +kernel
theorem dX4_findRests_16 : decode cX4_findRests 16 = .ok (.iload 5, 2) := by decide +kernel
theorem dX4_findRests_18 : decode cX4_findRests 18 = .ok (.iconst 1, 1) := by decide +kernel
theorem dX4_findRests_19 : decode cX4_findRests 19 = .ok (.ishr, 1) := by decide +kernel
theorem dX4_findRests_20 : decode cX4_findRests 20 = .ok (.istore 6, 2) := by decide +kernel
theorem dX4_findRests_22 : decode cX4_findRests 22 = .ok (.iload 5, 2) := by decide +kernel
theorem dX4_findRests_24 : decode cX4_findRests 24 = .ok (.iconst 1, 1) := by decide +kernel
theorem dX4_findRests_25 : decode cX4_findRests 25 = .ok (.iand, 1) := by decide +kernel
theorem dX4_findRests_26 : decode cX4_findRests 26 = .ok (.istore 7, 2) := by decide +kernel
theorem dX4_findRests_28 : decode cX4_findRests 28 = .ok (.aload_n 1, 1) := by decide +kernel
theorem dX4_findRests_29 : decode cX4_findRests 29 = .ok (.iload_n 2, 1) := by decide +kernel
theorem dX4_findRests_30 : decode cX4_findRests 30 = .ok (.iload_n 3, 1) := by decide +kernel
theorem dX4_findRests_31 : decode cX4_findRests 31 = .ok (.iload 6, 2) := by decide +kernel
theorem dX4_findRests_33 : decode cX4_findRests 33 = .ok (.iload 7, 2) := by decide +kernel
theorem dX4_findRests_35 : decode cX4_findRests 35 = .ok (.invokestatic 114, 3) := by decide +kernel
theorem dX4_findRests_38 : decode cX4_findRests 38 = .ok (.aload_n 1, 1) := by decide +kernel
theorem dX4_findRests_39 : decode cX4_findRests 39 = .ok (.iload_n 2, 1) := by decide +kernel
theorem dX4_findRests_40 : decode cX4_findRests 40 = .ok (.iload_n 3, 1) := by decide +kernel
theorem dX4_findRests_41 : decode cX4_findRests 41 = .ok (.iconst 1, 1) := by decide +kernel
theorem dX4_findRests_42 : decode cX4_findRests 42 = .ok (.iload 6, 2) := by decide +kernel
theorem dX4_findRests_44 : decode cX4_findRests 44 = .ok (.isub, 1) := by decide +kernel
theorem dX4_findRests_45 : decode cX4_findRests 45 = .ok (.iload 7, 2) := by decide +kernel
theorem dX4_findRests_47 : decode cX4_findRests 47 = .ok (.invokestatic 114, 3) := by decide +kernel
theorem dX4_findRests_50 : decode cX4_findRests 50 = .ok (.if_icmp .lt 7, 3) := by decide +kernel
theorem dX4_findRests_53 : decode cX4_findRests 53 = .ok (.iconst 1, 1) := by decide +kernel
theorem dX4_findRests_54 : decode cX4_findRests 54 = .ok (.goto 4, 3) := by decide +kernel
theorem dX4_findRests_57 : decode cX4_findRests 57 = .ok (.iconst 0, 1) := by decide +kernel
theorem dX4_findRests_58 : decode cX4_findRests 58 = .ok (.istore 8, 2) := by decide +kernel
theorem dX4_findRests_60 : decode cX4_findRests 60 = .ok (.iload 8, 2) := by decide +kernel
theorem dX4_findRests_62 : decode cX4_findRests 62 = .ok (.ifCond .eq 46, 3) := by decide +kernel
theorem dX4_findRests_65 : decode cX4_findRests 65 = .ok (.aload_n 1, 1) := by decide +kernel
theorem dX4_findRests_66 : decode cX4_findRests 66 = .ok (.iload_n 3, 1) := by decide +kernel
theorem dX4_findRests_67 : decode cX4_findRests 67 = .ok (.iload_n 2, 1) := by decide +kernel
theorem dX4_findRests_68 : decode cX4_findRests 68 = .ok (.iload 7, 2) := by decide +kernel
theorem dX4_findRests_70 : decode cX4_findRests 70 = .ok (.iload 6, 2) := by decide +kernel
theorem dX4_findRests_72 : decode cX4_findRests 72 = .ok (.invokestatic 114, 3) := by decide +kernel
theorem dX4_findRests_75 : decode cX4_findRests 75 = .ok (.aload_n 1, 1) := by decide +kernel
theorem dX4_findRests_76 : decode cX4_findRests 76 = .ok (.iload_n 3, 1) := by decide +kernel
theorem dX4_findRests_77 : decode cX4_findRests 77 = .ok (.iload_n 2, 1) := by decide +kernel
theorem dX4_findRests_78 : decode cX4_findRests 78 = .ok (.iconst 1, 1) := by decide +kernel
theorem dX4_findRests_79 : decode cX4_findRests 79 = .ok (.iload 7, 2) := by decide +kernel
theorem dX4_findRests_81 : decode cX4_findRests 81 = .ok (.isub, 1) := by decide +kernel
theorem dX4_findRests_82 : decode cX4_findRests 82 = .ok (.iload 6, 2) := by decide +kernel
theorem dX4_findRests_84 : decode cX4_findRests 84 = .ok (.invokestatic 114, 3) := by decide +kernel
theorem dX4_findRests_87 : decode cX4_findRests 87 = .ok (.if_icmp .lt 21, 3) := by decide +kernel
theorem dX4_findRests_90 : decode cX4_findRests 90 = .ok (.aload_n 0, 1) := by decide +kernel
theorem dX4_findRests_91 : decode cX4_findRests 91 = .ok (.getfield 37, 3) := by decide +kernel
theorem dX4_findRests_94 : decode cX4_findRests 94 = .ok (.iload 4, 2) := by decide +kernel
theorem dX4_findRests_96 : decode cX4_findRests 96 = .ok (.bipush 10, 2) := by decide +kernel
theorem dX4_findRests_98 : decode cX4_findRests 98 = .ok (.iload 6, 2) := by decide +kernel
theorem dX4_findRests_100 : decode cX4_findRests 100 = .ok (.imul, 1) := by decide +kernel
theorem dX4_findRests_101 : decode cX4_findRests 101 = .ok (.iload 7, 2) := by decide +kernel
theorem dX4_findRests_103 : decode cX4_findRests 103 = .ok (.iadd, 1) := by decide +kernel
theorem dX4_findRests_104 : decode cX4_findRests 104 = .ok (.iastore, 1) := by decide +kernel
theorem dX4_findRests_105 : decode cX4_findRests 105 = .ok (.iinc 4 1, 3) := by decide +kernel
theorem dX4_findRests_108 : decode cX4_findRests 108 = .ok (.iinc 5 1, 3) := by decide +kernel
theorem dX4_findRests_111 : decode cX4_findRests 111 = .ok (.goto (-105), 3) := by decide +kernel
theorem dX4_findRests_114 : decode cX4_findRests 114 = .ok (.iload 4, 2) := by decide +kernel
theorem dX4_findRests_116 : decode cX4_findRests 116 = .ok (.ireturn, 1) := by decide +kernel
theorem dX4_share_0 : decode cX4_share 0 = .ok (.aload_n 0, 1) := by decide +kernel
theorem dX4_share_1 : decode cX4_share 1 = .ok (.aload_n 0, 1) := by decide +kernel
theorem dX4_share_2 : decode cX4_share 2 = .ok (.getfield 76, 3) := by decide +kernel
theorem dX4_share_5 : decode cX4_share 5 = .ok (.iload_n 1, 1) := by decide +kernel
theorem dX4_share_6 : decode cX4_share 6 = .ok (.iaload, 1) := by decide +kernel
theorem dX4_share_7 : decode cX4_share 7 = .ok (.invokevirtual 118, 3) := by decide +kernel
theorem dX4_share_10 : decode cX4_share 10 = .ok (.istore 5, 2) := by decide +kernel
theorem dX4_share_12 : decode cX4_share 12 = .ok (.aload_n 0, 1) := by decide +kernel
theorem dX4_share_13 : decode cX4_share 13 = .ok (.getfield 102, 3) := by decide +kernel
theorem dX4_share_16 : decode cX4_share 16 = .ok (.iload_n 1, 1) := by decide +kernel
theorem dX4_share_17 : decode cX4_share 17 = .ok (.iaload, 1) := by decide +kernel
theorem dX4_share_18 : decode cX4_share 18 = .ok (.istore 6, 2) := by decide +kernel
theorem dX4_share_20 : decode cX4_share 20 = .ok (.iload_n 3, 1) := by decide +kernel
theorem dX4_share_21 : decode cX4_share 21 = .ok (.iload 4, 2) := by decide +kernel
theorem dX4_share_23 : decode cX4_share 23 = .ok (.if_icmp .ne 15, 3) := by decide +kernel
theorem dX4_share_26 : decode cX4_share 26 = .ok (.iload 6, 2) := by decide +kernel
theorem dX4_share_28 : decode cX4_share 28 = .ok (.iload 5, 2) := by decide +kernel
theorem dX4_share_30 : decode cX4_share 30 = .ok (.iconst 2, 1) := by decide +kernel
theorem dX4_share_31 : decode cX4_share 31 = .ok (.idiv, 1) := by decide +kernel
theorem dX4_share_32 : decode cX4_share 32 = .ok (.invokestatic 62, 3) := by decide +kernel
theorem dX4_share_35 : decode cX4_share 35 = .ok (.iload_n 3, 1) := by decide +kernel
theorem dX4_share_36 : decode cX4_share 36 = .ok (.isub, 1) := by decide +kernel
theorem dX4_share_37 : decode cX4_share 37 = .ok (.ireturn, 1) := by decide +kernel
theorem dX4_share_38 : decode cX4_share 38 = .ok (.iload_n 3, 1) := by decide +kernel
theorem dX4_share_39 : decode cX4_share 39 = .ok (.ifCond .ne 11, 3) := by decide +kernel
theorem dX4_share_42 : decode cX4_share 42 = .ok (.iload 6, 2) := by decide +kernel
theorem dX4_share_44 : decode cX4_share 44 = .ok (.iload 5, 2) := by decide +kernel
theorem dX4_share_46 : decode cX4_share 46 = .ok (.invokestatic 62, 3) := by decide +kernel
theorem dX4_share_49 : decode cX4_share 49 = .ok (.ireturn, 1) := by decide +kernel
theorem dX4_share_50 : decode cX4_share 50 = .ok (.iload 5, 2) := by decide +kernel
theorem dX4_share_52 : decode cX4_share 52 = .ok (.aload_n 0, 1) := by decide +kernel
theorem dX4_share_53 : decode cX4_share 53 = .ok (.getfield 102, 3) := by decide +kernel
theorem dX4_share_56 : decode cX4_share 56 = .ok (.iload_n 2, 1) := by decide +kernel
theorem dX4_share_57 : decode cX4_share 57 = .ok (.iaload, 1) := by decide +kernel
theorem dX4_share_58 : decode cX4_share 58 = .ok (.iload 5, 2) := by decide +kernel
theorem dX4_share_60 : decode cX4_share 60 = .ok (.invokestatic 62, 3) := by decide +kernel
theorem dX4_share_63 : decode cX4_share 63 = .ok (.isub, 1) := by decide +kernel
theorem dX4_share_64 : decode cX4_share 64 = .ok (.istore 7, 2) := by decide +kernel
theorem dX4_share_66 : decode cX4_share 66 = .ok (.iload 6, 2) := by decide +kernel
theorem dX4_share_68 : decode cX4_share 68 = .ok (.iload 7, 2) := by decide +kernel
theorem dX4_share_70 : decode cX4_share 70 = .ok (.invokestatic 62, 3) := by decide +kernel
theorem dX4_share_73 : decode cX4_share 73 = .ok (.iconst 1, 1) := by decide +kernel
theorem dX4_share_74 : decode cX4_share 74 = .ok (.isub, 1) := by decide +kernel
theorem dX4_share_75 : decode cX4_share 75 = .ok (.ireturn, 1) := by decide +kernel
theorem dX5_forget_0 : decode cX5_forget 0 = .ok (.aload_n 0, 1) := by decide +kernel
theorem dX5_forget_1 : decode cX5_forget 1 = .ok (.iconst 0, 1) := by decide +kernel
theorem dX5_forget_2 : decode cX5_forget 2 = .ok (.putfield 32, 3) := by decide +kernel
theorem dX5_forget_5 : decode cX5_forget 5 = .ok (.aload_n 0, 1) := by decide +kernel
theorem dX5_forget_6 : decode cX5_forget 6 = .ok (.iconst (-1), 1) := by decide +kernel
theorem dX5_forget_7 : decode cX5_forget 7 = .ok (.putfield 28, 3) := by decide +kernel
theorem dX5_forget_10 : decode cX5_forget 10 = .ok (.return_, 1) := by decide +kernel
theorem dX5_add_0 : decode cX5_add 0 = .ok (.aload_n 0, 1) := by decide +kernel
theorem dX5_add_1 : decode cX5_add 1 = .ok (.getfield 32, 3) := by decide +kernel
theorem dX5_add_4 : decode cX5_add 4 = .ok (.bipush 24, 2) := by decide +kernel
theorem dX5_add_6 : decode cX5_add 6 = .ok (.if_icmp .lt 5, 3) := by decide +kernel
theorem dX5_add_9 : decode cX5_add 9 = .ok (.iconst (-1), 1) := by decide +kernel
theorem dX5_add_10 : decode cX5_add 10 = .ok (.ireturn, 1) := by decide +kernel
theorem dX5_add_11 : decode cX5_add 11 = .ok (.aload_n 0, 1) := by decide +kernel
theorem dX5_add_12 : decode cX5_add 12 = .ok (.getfield 9, 3) := by decide +kernel
theorem dX5_add_15 : decode cX5_add 15 = .ok (.aload_n 0, 1) := by decide +kernel
theorem dX5_add_16 : decode cX5_add 16 = .ok (.getfield 32, 3) := by decide +kernel
theorem dX5_add_19 : decode cX5_add 19 = .ok (.iload_n 1, 1) := by decide +kernel
theorem dX5_add_20 : decode cX5_add 20 = .ok (.iastore, 1) := by decide +kernel
theorem dX5_add_21 : decode cX5_add 21 = .ok (.aload_n 0, 1) := by decide +kernel
theorem dX5_add_22 : decode cX5_add 22 = .ok (.getfield 15, 3) := by decide +kernel
theorem dX5_add_25 : decode cX5_add 25 = .ok (.aload_n 0, 1) := by decide +kernel
theorem dX5_add_26 : decode cX5_add 26 = .ok (.getfield 32, 3) := by decide +kernel
theorem dX5_add_29 : decode cX5_add 29 = .ok (.iload_n 2, 1) := by decide +kernel
theorem dX5_add_30 : decode cX5_add 30 = .ok (.iastore, 1) := by decide +kernel
theorem dX5_add_31 : decode cX5_add 31 = .ok (.aload_n 0, 1) := by decide +kernel
theorem dX5_add_32 : decode cX5_add 32 = .ok (.getfield 18, 3) := by decide +kernel
theorem dX5_add_35 : decode cX5_add 35 = .ok (.aload_n 0, 1) := by decide +kernel
theorem dX5_add_36 : decode cX5_add 36 = .ok (.getfield 32, 3) := by decide +kernel
theorem dX5_add_39 : decode cX5_add 39 = .ok (.iload_n 3, 1) := by decide +kernel
theorem dX5_add_40 : decode cX5_add 40 = .ok (.bastore, 1) := by decide +kernel
theorem dX5_add_41 : decode cX5_add 41 = .ok (.aload_n 0, 1) := by decide +kernel
theorem dX5_add_42 : decode cX5_add 42 = .ok (.getfield 22, 3) := by decide +kernel
theorem dX5_add_45 : decode cX5_add 45 = .ok (.aload_n 0, 1) := by decide +kernel
theorem dX5_add_46 : decode cX5_add 46 = .ok (.getfield 32, 3) := by decide +kernel
theorem dX5_add_49 : decode cX5_add 49 = .ok (.iload 4, 2) := by decide +kernel
theorem dX5_add_51 : decode cX5_add 51 = .ok (.iastore, 1) := by decide +kernel
theorem dX5_add_52 : decode cX5_add 52 = .ok (.aload_n 0, 1) := by decide +kernel
theorem dX5_add_53 : decode cX5_add 53 = .ok (.dup, 1) := by decide +kernel
theorem dX5_add_54 : decode cX5_add 54 = .ok (.getfield 32, 3) := by decide +kernel
theorem dX5_add_57 : decode cX5_add 57 = .ok (.iconst 1, 1) := by decide +kernel
theorem dX5_add_58 : decode cX5_add 58 = .ok (.iadd, 1) := by decide +kernel
theorem dX5_add_59 : decode cX5_add 59 = .ok (.putfield 32, 3) := by decide +kernel
theorem dX5_add_62 : decode cX5_add 62 = .ok (.aload_n 0, 1) := by decide +kernel
theorem dX5_add_63 : decode cX5_add 63 = .ok (.getfield 32, 3) := by decide +kernel
theorem dX5_add_66 : decode cX5_add 66 = .ok (.iconst 1, 1) := by decide +kernel
theorem dX5_add_67 : decode cX5_add 67 = .ok (.isub, 1) := by decide +kernel
theorem dX5_add_68 : decode cX5_add 68 = .ok (.ireturn, 1) := by decide +kernel
theorem dX5_ruling_0 : decode cX5_ruling 0 = .ok (.aload_n 0, 1) := by decide +kernel
theorem dX5_ruling_1 : decode cX5_ruling 1 = .ok (.getfield 28, 3) := by decide +kernel
theorem dX5_ruling_4 : decode cX5_ruling 4 = .ok (.iconst (-1), 1) := by decide +kernel
theorem dX5_ruling_5 : decode cX5_ruling 5 = .ok (.if_icmp .ne 10, 3) := by decide +kernel
theorem dX5_ruling_8 : decode cX5_ruling 8 = .ok (.aload_n 0, 1) := by decide +kernel
theorem dX5_ruling_9 : decode cX5_ruling 9 = .ok (.getfield 32, 3) := by decide +kernel
theorem dX5_ruling_12 : decode cX5_ruling 12 = .ok (.goto 7, 3) := by decide +kernel
theorem dX5_ruling_15 : decode cX5_ruling 15 = .ok (.aload_n 0, 1) := by decide +kernel
theorem dX5_ruling_16 : decode cX5_ruling 16 = .ok (.getfield 28, 3) := by decide +kernel
theorem dX5_ruling_19 : decode cX5_ruling 19 = .ok (.ireturn, 1) := by decide +kernel
theorem dX5_strikeOut_0 : decode cX5_strikeOut 0 = .ok (.aload_n 0, 1) := by decide +kernel
theorem dX5_strikeOut_1 : decode cX5_strikeOut 1 = .ok (.invokevirtual 35, 3) := by decide +kernel
theorem dX5_strikeOut_4 : decode cX5_strikeOut 4 = .ok (.bipush 24, 2) := by decide +kernel
theorem dX5_strikeOut_6 : decode cX5_strikeOut 6 = .ok (.invokestatic 39, 3) := by decide +kernel
theorem dX5_strikeOut_9 : decode cX5_strikeOut 9 = .ok (.istore_n 1, 1) := by decide +kernel
theorem dX5_strikeOut_10 : decode cX5_strikeOut 10 = .ok (.iconst 0, 1) := by decide +kernel
theorem dX5_strikeOut_11 : decode cX5_strikeOut 11 = .ok (.istore_n 2, 1) := by decide +kernel
theorem dX5_strikeOut_12 : decode cX5_strikeOut 12 = .ok (.iload_n 2, 1) := by decide +kernel
theorem dX5_strikeOut_13 : decode cX5_strikeOut 13 = .ok (.iload_n 1, 1) := by decide +kernel
theorem dX5_strikeOut_14 : decode cX5_strikeOut 14 = .ok (.if_icmp .ge 16, 3) := by decide +kernel
theorem dX5_strikeOut_17 : decode cX5_strikeOut 17 = .ok (.aload_n 0, 1) := by decide +kernel
theorem dX5_strikeOut_18 : decode cX5_strikeOut 18 = .ok (.getfield 25, 3) := by decide +kernel
theorem dX5_strikeOut_21 : decode cX5_strikeOut 21 = .ok (.iload_n 2, 1) := by decide +kernel
theorem dX5_strikeOut_22 : decode cX5_strikeOut 22 = .ok (.iconst 0, 1) := by decide +kernel
theorem dX5_strikeOut_23 : decode cX5_strikeOut 23 = .ok (.bastore, 1) := by decide +kernel
theorem dX5_strikeOut_24 : decode cX5_strikeOut 24 = .ok (.iinc 2 1, 3) := by decide +kernel
theorem dX5_strikeOut_27 : decode cX5_strikeOut 27 = .ok (.goto (-15), 3) := by decide +kernel
theorem dX5_strikeOut_30 : decode cX5_strikeOut 30 = .ok (.iload_n 1, 1) := by decide +kernel
theorem dX5_strikeOut_31 : decode cX5_strikeOut 31 = .ok (.iconst 1, 1) := by decide +kernel
theorem dX5_strikeOut_32 : decode cX5_strikeOut 32 = .ok (.isub, 1) := by decide +kernel
theorem dX5_strikeOut_33 : decode cX5_strikeOut 33 = .ok (.istore_n 2, 1) := by decide +kernel
theorem dX5_strikeOut_34 : decode cX5_strikeOut 34 = .ok (.iload_n 2, 1) := by decide +kernel
theorem dX5_strikeOut_35 : decode cX5_strikeOut 35 = .ok (.ifCond .lt 41, 3) := by decide +kernel
theorem dX5_strikeOut_38 : decode cX5_strikeOut 38 = .ok (.aload_n 0, 1) := by decide +kernel
theorem dX5_strikeOut_39 : decode cX5_strikeOut 39 = .ok (.getfield 22, 3) := by decide +kernel
theorem dX5_strikeOut_42 : decode cX5_strikeOut 42 = .ok (.iload_n 2, 1) := by decide +kernel
theorem dX5_strikeOut_43 : decode cX5_strikeOut 43 = .ok (.iaload, 1) := by decide +kernel
theorem dX5_strikeOut_44 : decode cX5_strikeOut 44 = .ok (.istore_n 3, 1) := by decide +kernel
theorem dX5_strikeOut_45 : decode cX5_strikeOut 45 = .ok (.aload_n 0, 1) := by decide +kernel
theorem dX5_strikeOut_46 : decode cX5_strikeOut 46 = .ok (.getfield 25, 3) := by decide +kernel
theorem dX5_strikeOut_49 : decode cX5_strikeOut 49 = .ok (.iload_n 2, 1) := by decide +kernel
theorem dX5_strikeOut_50 : decode cX5_strikeOut 50 = .ok (.baload, 1) := by decide +kernel
theorem dX5_strikeOut_51 : decode cX5_strikeOut 51 = .ok (.ifCond .ne 19, 3) := by decide +kernel
theorem dX5_strikeOut_54 : decode cX5_strikeOut 54 = .ok (.iload_n 3, 1) := by decide +kernel
theorem dX5_strikeOut_55 : decode cX5_strikeOut 55 = .ok (.ifCond .lt 15, 3) := by decide +kernel
theorem dX5_strikeOut_58 : decode cX5_strikeOut 58 = .ok (.iload_n 3, 1) := by decide +kernel
theorem dX5_strikeOut_59 : decode cX5_strikeOut 59 = .ok (.iload_n 2, 1) := by decide +kernel
theorem dX5_strikeOut_60 : decode cX5_strikeOut 60 = .ok (.if_icmp .ge 10, 3) := by decide +kernel
theorem dX5_strikeOut_63 : decode cX5_strikeOut 63 = .ok (.aload_n 0, 1) := by decide +kernel
theorem dX5_strikeOut_64 : decode cX5_strikeOut 64 = .ok (.getfield 25, 3) := by decide +kernel
theorem dX5_strikeOut_67 : decode cX5_strikeOut 67 = .ok (.iload_n 3, 1) := by decide +kernel
theorem dX5_strikeOut_68 : decode cX5_strikeOut 68 = .ok (.iconst 1, 1) := by decide +kernel
theorem dX5_strikeOut_69 : decode cX5_strikeOut 69 = .ok (.bastore, 1) := by decide +kernel
theorem dX5_strikeOut_70 : decode cX5_strikeOut 70 = .ok (.iinc 2 (-1), 3) := by decide +kernel
theorem dX5_strikeOut_73 : decode cX5_strikeOut 73 = .ok (.goto (-39), 3) := by decide +kernel
theorem dX5_strikeOut_76 : decode cX5_strikeOut 76 = .ok (.return_, 1) := by decide +kernel
theorem dX5_agrees_0 : decode cX5_agrees 0 = .ok (.aload_n 0, 1) := by decide +kernel
theorem dX5_agrees_1 : decode cX5_agrees 1 = .ok (.invokevirtual 35, 3) := by decide +kernel
theorem dX5_agrees_4 : decode cX5_agrees 4 = .ok (.bipush 24, 2) := by decide +kernel
theorem dX5_agrees_6 : decode cX5_agrees 6 = .ok (.invokestatic 39, 3) := by decide +kernel
theorem dX5_agrees_9 : decode cX5_agrees 9 = .ok (.istore_n 3, 1) := by decide +kernel
theorem dX5_agrees_10 : decode cX5_agrees 10 = .ok (.iconst 0, 1) := by decide +kernel
theorem dX5_agrees_11 : decode cX5_agrees 11 = .ok (.istore 4, 2) := by decide +kernel
theorem dX5_agrees_13 : decode cX5_agrees 13 = .ok (.iload 4, 2) := by decide +kernel
theorem dX5_agrees_15 : decode cX5_agrees 15 = .ok (.iload_n 3, 1) := by decide +kernel
theorem dX5_agrees_16 : decode cX5_agrees 16 = .ok (.if_icmp .ge 64, 3) := by decide +kernel
theorem dX5_agrees_19 : decode cX5_agrees 19 = .ok (.aload_n 0, 1) := by decide +kernel
theorem dX5_agrees_20 : decode cX5_agrees 20 = .ok (.getfield 25, 3) := by decide +kernel
theorem dX5_agrees_23 : decode cX5_agrees 23 = .ok (.iload 4, 2) := by decide +kernel
theorem dX5_agrees_25 : decode cX5_agrees 25 = .ok (.baload, 1) := by decide +kernel
theorem dX5_agrees_26 : decode cX5_agrees 26 = .ok (.ifCond .ne 48, 3) := by decide +kernel
theorem dX5_agrees_29 : decode cX5_agrees 29 = .ok (.aload_n 0, 1) := by decide +kernel
theorem dX5_agrees_30 : decode cX5_agrees 30 = .ok (.getfield 22, 3) := by decide +kernel
theorem dX5_agrees_33 : decode cX5_agrees 33 = .ok (.iload 4, 2) := by decide +kernel
theorem dX5_agrees_35 : decode cX5_agrees 35 = .ok (.iaload, 1) := by decide +kernel
theorem dX5_agrees_36 : decode cX5_agrees 36 = .ok (.iconst (-1), 1) := by decide +kernel
theorem dX5_agrees_37 : decode cX5_agrees 37 = .ok (.if_icmp .ne 37, 3) := by decide +kernel
theorem dX5_agrees_40 : decode cX5_agrees 40 = .ok (.aload_n 0, 1) := by decide +kernel
theorem dX5_agrees_41 : decode cX5_agrees 41 = .ok (.getfield 9, 3) := by decide +kernel
theorem dX5_agrees_44 : decode cX5_agrees 44 = .ok (.iload 4, 2) := by decide +kernel
theorem dX5_agrees_46 : decode cX5_agrees 46 = .ok (.iaload, 1) := by decide +kernel
theorem dX5_agrees_47 : decode cX5_agrees 47 = .ok (.iload_n 1, 1) := by decide +kernel
theorem dX5_agrees_48 : decode cX5_agrees 48 = .ok (.if_icmp .ne 26, 3) := by decide +kernel
theorem dX5_agrees_51 : decode cX5_agrees 51 = .ok (.aload_n 0, 1) := by decide +kernel
theorem dX5_agrees_52 : decode cX5_agrees 52 = .ok (.getfield 15, 3) := by decide +kernel
theorem dX5_agrees_55 : decode cX5_agrees 55 = .ok (.iload 4, 2) := by decide +kernel
theorem dX5_agrees_57 : decode cX5_agrees 57 = .ok (.iaload, 1) := by decide +kernel
theorem dX5_agrees_58 : decode cX5_agrees 58 = .ok (.aload_n 2, 1) := by decide +kernel
theorem dX5_agrees_59 : decode cX5_agrees 59 = .ok (.invokestatic 45, 3) := by decide +kernel
theorem dX5_agrees_62 : decode cX5_agrees 62 = .ok (.aload_n 0, 1) := by decide +kernel
theorem dX5_agrees_63 : decode cX5_agrees 63 = .ok (.getfield 18, 3) := by decide +kernel
theorem dX5_agrees_66 : decode cX5_agrees 66 = .ok (.iload 4, 2) := by decide +kernel
theorem dX5_agrees_68 : decode cX5_agrees 68 = .ok (.baload, 1) := by decide +kernel
theorem dX5_agrees_69 : decode cX5_agrees 69 = .ok (.if_icmp .eq 5, 3) := by decide +kernel
theorem dX5_agrees_72 : decode cX5_agrees 72 = .ok (.iconst 0, 1) := by decide +kernel
theorem dX5_agrees_73 : decode cX5_agrees 73 = .ok (.ireturn, 1) := by decide +kernel
theorem dX5_agrees_74 : decode cX5_agrees 74 = .ok (.iinc 4 1, 3) := by decide +kernel
theorem dX5_agrees_77 : decode cX5_agrees 77 = .ok (.goto (-64), 3) := by decide +kernel
theorem dX5_agrees_80 : decode cX5_agrees 80 = .ok (.iconst 1, 1) := by decide +kernel
theorem dX5_agrees_81 : decode cX5_agrees 81 = .ok (.ireturn, 1) := by decide +kernel
theorem dX5_isPaid_0 : decode cX5_isPaid 0 = .ok (.iload_n 0, 1) := by decide +kernel
theorem dX5_isPaid_1 : decode cX5_isPaid 1 = .ok (.ifCond .lt 25, 3) := by decide +kernel
theorem dX5_isPaid_4 : decode cX5_isPaid 4 = .ok (.iload_n 0, 1) := by decide +kernel
theorem dX5_isPaid_5 : decode cX5_isPaid 5 = .ok (.aload_n 1, 1) := by decide +kernel
theorem dX5_isPaid_6 : decode cX5_isPaid 6 = .ok (.getfield 49, 3) := by decide +kernel
theorem dX5_isPaid_9 : decode cX5_isPaid 9 = .ok (.if_icmp .ge 17, 3) := by decide +kernel
theorem dX5_isPaid_12 : decode cX5_isPaid 12 = .ok (.aload_n 1, 1) := by decide +kernel
theorem dX5_isPaid_13 : decode cX5_isPaid 13 = .ok (.getfield 53, 3) := by decide +kernel
theorem dX5_isPaid_16 : decode cX5_isPaid 16 = .ok (.iload_n 0, 1) := by decide +kernel
theorem dX5_isPaid_17 : decode cX5_isPaid 17 = .ok (.iaload, 1) := by decide +kernel
theorem dX5_isPaid_18 : decode cX5_isPaid 18 = .ok (.iconst 2, 1) := by decide +kernel
theorem dX5_isPaid_19 : decode cX5_isPaid 19 = .ok (.if_icmp .ne 7, 3) := by decide +kernel
theorem dX5_isPaid_22 : decode cX5_isPaid 22 = .ok (.iconst 1, 1) := by decide +kernel
theorem dX5_isPaid_23 : decode cX5_isPaid 23 = .ok (.goto 4, 3) := by decide +kernel
theorem dX5_isPaid_26 : decode cX5_isPaid 26 = .ok (.iconst 0, 1) := by decide +kernel
theorem dX5_isPaid_27 : decode cX5_isPaid 27 = .ok (.ireturn, 1) := by decide +kernel
theorem dX6_empty_0 : decode cX6_empty 0 = .ok (.aload_n 0, 1) := by decide +kernel
theorem dX6_empty_1 : decode cX6_empty 1 = .ok (.getfield 36, 3) := by decide +kernel
theorem dX6_empty_4 : decode cX6_empty 4 = .ok (.iconst 0, 1) := by decide +kernel
theorem dX6_empty_5 : decode cX6_empty 5 = .ok (.putfield 53, 3) := by decide +kernel
theorem dX6_empty_8 : decode cX6_empty 8 = .ok (.aload_n 0, 1) := by decide +kernel
theorem dX6_empty_9 : decode cX6_empty 9 = .ok (.getfield 40, 3) := by decide +kernel
theorem dX6_empty_12 : decode cX6_empty 12 = .ok (.iconst 0, 1) := by decide +kernel
theorem dX6_empty_13 : decode cX6_empty 13 = .ok (.putfield 53, 3) := by decide +kernel
theorem dX6_empty_16 : decode cX6_empty 16 = .ok (.aload_n 0, 1) := by decide +kernel
theorem dX6_empty_17 : decode cX6_empty 17 = .ok (.getfield 43, 3) := by decide +kernel
theorem dX6_empty_20 : decode cX6_empty 20 = .ok (.iconst 0, 1) := by decide +kernel
theorem dX6_empty_21 : decode cX6_empty 21 = .ok (.putfield 53, 3) := by decide +kernel
theorem dX6_empty_24 : decode cX6_empty 24 = .ok (.aload_n 0, 1) := by decide +kernel
theorem dX6_empty_25 : decode cX6_empty 25 = .ok (.getfield 49, 3) := by decide +kernel
theorem dX6_empty_28 : decode cX6_empty 28 = .ok (.invokevirtual 57, 3) := by decide +kernel
theorem dX6_empty_31 : decode cX6_empty 31 = .ok (.aload_n 0, 1) := by decide +kernel
theorem dX6_empty_32 : decode cX6_empty 32 = .ok (.iconst 0, 1) := by decide +kernel
theorem dX6_empty_33 : decode cX6_empty 33 = .ok (.putfield 60, 3) := by decide +kernel
theorem dX6_empty_36 : decode cX6_empty 36 = .ok (.aload_n 0, 1) := by decide +kernel
theorem dX6_empty_37 : decode cX6_empty 37 = .ok (.iconst 0, 1) := by decide +kernel
theorem dX6_empty_38 : decode cX6_empty 38 = .ok (.putfield 63, 3) := by decide +kernel
theorem dX6_empty_41 : decode cX6_empty 41 = .ok (.aload_n 0, 1) := by decide +kernel
theorem dX6_empty_42 : decode cX6_empty 42 = .ok (.iconst 0, 1) := by decide +kernel
theorem dX6_empty_43 : decode cX6_empty 43 = .ok (.putfield 66, 3) := by decide +kernel
theorem dX6_empty_46 : decode cX6_empty 46 = .ok (.aload_n 0, 1) := by decide +kernel
theorem dX6_empty_47 : decode cX6_empty 47 = .ok (.iconst 0, 1) := by decide +kernel
theorem dX6_empty_48 : decode cX6_empty 48 = .ok (.putfield 69, 3) := by decide +kernel
theorem dX6_empty_51 : decode cX6_empty 51 = .ok (.aload_n 0, 1) := by decide +kernel
theorem dX6_empty_52 : decode cX6_empty 52 = .ok (.iconst 0, 1) := by decide +kernel
theorem dX6_empty_53 : decode cX6_empty 53 = .ok (.putfield 72, 3) := by decide +kernel
theorem dX6_empty_56 : decode cX6_empty 56 = .ok (.aload_n 0, 1) := by decide +kernel
theorem dX6_empty_57 : decode cX6_empty 57 = .ok (.iconst 0, 1) := by decide +kernel
theorem dX6_empty_58 : decode cX6_empty 58 = .ok (.putfield 76, 3) := by decide +kernel
theorem dX6_empty_61 : decode cX6_empty 61 = .ok (.aload_n 0, 1) := by decide +kernel
theorem dX6_empty_62 : decode cX6_empty 62 = .ok (.iconst 0, 1) := by decide +kernel
theorem dX6_empty_63 : decode cX6_empty 63 = .ok (.putfield 79, 3) := by decide +kernel
theorem dX6_empty_66 : decode cX6_empty 66 = .ok (.aload_n 0, 1) := by decide +kernel
theorem dX6_empty_67 : decode cX6_empty 67 = .ok (.iconst 0, 1) := by decide +kernel
theorem dX6_empty_68 : decode cX6_empty 68 = .ok (.putfield 82, 3) := by decide +kernel
theorem dX6_empty_71 : decode cX6_empty 71 = .ok (.return_, 1) := by decide +kernel
theorem dX6_addMan_0 : decode cX6_addMan 0 = .ok (.aload_n 0, 1) := by decide +kernel
theorem dX6_addMan_1 : decode cX6_addMan 1 = .ok (.getfield 60, 3) := by decide +kernel
theorem dX6_addMan_4 : decode cX6_addMan 4 = .ok (.bipush 6, 2) := by decide +kernel
theorem dX6_addMan_6 : decode cX6_addMan 6 = .ok (.if_icmp .ge 36, 3) := by decide +kernel
theorem dX6_addMan_9 : decode cX6_addMan 9 = .ok (.aload_n 0, 1) := by decide +kernel
theorem dX6_addMan_10 : decode cX6_addMan 10 = .ok (.getfield 9, 3) := by decide +kernel
theorem dX6_addMan_13 : decode cX6_addMan 13 = .ok (.aload_n 0, 1) := by decide +kernel
theorem dX6_addMan_14 : decode cX6_addMan 14 = .ok (.getfield 60, 3) := by decide +kernel
theorem dX6_addMan_17 : decode cX6_addMan 17 = .ok (.iload_n 1, 1) := by decide +kernel
theorem dX6_addMan_18 : decode cX6_addMan 18 = .ok (.iastore, 1) := by decide +kernel
theorem dX6_addMan_19 : decode cX6_addMan 19 = .ok (.aload_n 0, 1) := by decide +kernel
theorem dX6_addMan_20 : decode cX6_addMan 20 = .ok (.getfield 49, 3) := by decide +kernel
theorem dX6_addMan_23 : decode cX6_addMan 23 = .ok (.getfield 85, 3) := by decide +kernel
theorem dX6_addMan_26 : decode cX6_addMan 26 = .ok (.aload_n 0, 1) := by decide +kernel
theorem dX6_addMan_27 : decode cX6_addMan 27 = .ok (.getfield 60, 3) := by decide +kernel
theorem dX6_addMan_30 : decode cX6_addMan 30 = .ok (.iload_n 2, 1) := by decide +kernel
theorem dX6_addMan_31 : decode cX6_addMan 31 = .ok (.iastore, 1) := by decide +kernel
theorem dX6_addMan_32 : decode cX6_addMan 32 = .ok (.aload_n 0, 1) := by decide +kernel
theorem dX6_addMan_33 : decode cX6_addMan 33 = .ok (.dup, 1) := by decide +kernel
theorem dX6_addMan_34 : decode cX6_addMan 34 = .ok (.getfield 60, 3) := by decide +kernel
theorem dX6_addMan_37 : decode cX6_addMan 37 = .ok (.iconst 1, 1) := by decide +kernel
theorem dX6_addMan_38 : decode cX6_addMan 38 = .ok (.iadd, 1) := by decide +kernel
theorem dX6_addMan_39 : decode cX6_addMan 39 = .ok (.putfield 60, 3) := by decide +kernel
theorem dX6_addMan_42 : decode cX6_addMan 42 = .ok (.return_, 1) := by decide +kernel
theorem dX6_addTusk_0 : decode cX6_addTusk 0 = .ok (.aload_n 0, 1) := by decide +kernel
theorem dX6_addTusk_1 : decode cX6_addTusk 1 = .ok (.getfield 63, 3) := by decide +kernel
theorem dX6_addTusk_4 : decode cX6_addTusk 4 = .ok (.bipush 6, 2) := by decide +kernel
theorem dX6_addTusk_6 : decode cX6_addTusk 6 = .ok (.if_icmp .ge 74, 3) := by decide +kernel
theorem dX6_addTusk_9 : decode cX6_addTusk 9 = .ok (.aload_n 0, 1) := by decide +kernel
theorem dX6_addTusk_10 : decode cX6_addTusk 10 = .ok (.getfield 15, 3) := by decide +kernel
theorem dX6_addTusk_13 : decode cX6_addTusk 13 = .ok (.aload_n 0, 1) := by decide +kernel
theorem dX6_addTusk_14 : decode cX6_addTusk 14 = .ok (.getfield 63, 3) := by decide +kernel
theorem dX6_addTusk_17 : decode cX6_addTusk 17 = .ok (.iload_n 1, 1) := by decide +kernel
theorem dX6_addTusk_18 : decode cX6_addTusk 18 = .ok (.iastore, 1) := by decide +kernel
theorem dX6_addTusk_19 : decode cX6_addTusk 19 = .ok (.aload_n 0, 1) := by decide +kernel
theorem dX6_addTusk_20 : decode cX6_addTusk 20 = .ok (.getfield 49, 3) := by decide +kernel
theorem dX6_addTusk_23 : decode cX6_addTusk 23 = .ok (.getfield 88, 3) := by decide +kernel
theorem dX6_addTusk_26 : decode cX6_addTusk 26 = .ok (.aload_n 0, 1) := by decide +kernel
theorem dX6_addTusk_27 : decode cX6_addTusk 27 = .ok (.getfield 63, 3) := by decide +kernel
theorem dX6_addTusk_30 : decode cX6_addTusk 30 = .ok (.iload_n 2, 1) := by decide +kernel
theorem dX6_addTusk_31 : decode cX6_addTusk 31 = .ok (.iastore, 1) := by decide +kernel
theorem dX6_addTusk_32 : decode cX6_addTusk 32 = .ok (.aload_n 0, 1) := by decide +kernel
theorem dX6_addTusk_33 : decode cX6_addTusk 33 = .ok (.getfield 18, 3) := by decide +kernel
theorem dX6_addTusk_36 : decode cX6_addTusk 36 = .ok (.aload_n 0, 1) := by decide +kernel
theorem dX6_addTusk_37 : decode cX6_addTusk 37 = .ok (.getfield 63, 3) := by decide +kernel
theorem dX6_addTusk_40 : decode cX6_addTusk 40 = .ok (.iload_n 3, 1) := by decide +kernel
theorem dX6_addTusk_41 : decode cX6_addTusk 41 = .ok (.iastore, 1) := by decide +kernel
theorem dX6_addTusk_42 : decode cX6_addTusk 42 = .ok (.aload_n 0, 1) := by decide +kernel
theorem dX6_addTusk_43 : decode cX6_addTusk 43 = .ok (.getfield 21, 3) := by decide +kernel
theorem dX6_addTusk_46 : decode cX6_addTusk 46 = .ok (.aload_n 0, 1) := by decide +kernel
theorem dX6_addTusk_47 : decode cX6_addTusk 47 = .ok (.getfield 63, 3) := by decide +kernel
theorem dX6_addTusk_50 : decode cX6_addTusk 50 = .ok (.iconst (-1), 1) := by decide +kernel
theorem dX6_addTusk_51 : decode cX6_addTusk 51 = .ok (.iastore, 1) := by decide +kernel
theorem dX6_addTusk_52 : decode cX6_addTusk 52 = .ok (.aload_n 0, 1) := by decide +kernel
theorem dX6_addTusk_53 : decode cX6_addTusk 53 = .ok (.getfield 49, 3) := by decide +kernel
theorem dX6_addTusk_56 : decode cX6_addTusk 56 = .ok (.dup, 1) := by decide +kernel
theorem dX6_addTusk_57 : decode cX6_addTusk 57 = .ok (.getfield 91, 3) := by decide +kernel
theorem dX6_addTusk_60 : decode cX6_addTusk 60 = .ok (.iconst 1, 1) := by decide +kernel
theorem dX6_addTusk_61 : decode cX6_addTusk 61 = .ok (.aload_n 0, 1) := by decide +kernel
theorem dX6_addTusk_62 : decode cX6_addTusk 62 = .ok (.getfield 63, 3) := by decide +kernel
theorem dX6_addTusk_65 : decode cX6_addTusk 65 = .ok (.ishl, 1) := by decide +kernel
theorem dX6_addTusk_66 : decode cX6_addTusk 66 = .ok (.ior, 1) := by decide +kernel
theorem dX6_addTusk_67 : decode cX6_addTusk 67 = .ok (.putfield 91, 3) := by decide +kernel
theorem dX6_addTusk_70 : decode cX6_addTusk 70 = .ok (.aload_n 0, 1) := by decide +kernel
theorem dX6_addTusk_71 : decode cX6_addTusk 71 = .ok (.dup, 1) := by decide +kernel
theorem dX6_addTusk_72 : decode cX6_addTusk 72 = .ok (.getfield 63, 3) := by decide +kernel
theorem dX6_addTusk_75 : decode cX6_addTusk 75 = .ok (.iconst 1, 1) := by decide +kernel
theorem dX6_addTusk_76 : decode cX6_addTusk 76 = .ok (.iadd, 1) := by decide +kernel
theorem dX6_addTusk_77 : decode cX6_addTusk 77 = .ok (.putfield 63, 3) := by decide +kernel
theorem dX6_addTusk_80 : decode cX6_addTusk 80 = .ok (.return_, 1) := by decide +kernel
theorem dX6_addLeaning_0 : decode cX6_addLeaning 0 = .ok (.aload_n 0, 1) := by decide +kernel
theorem dX6_addLeaning_1 : decode cX6_addLeaning 1 = .ok (.getfield 66, 3) := by decide +kernel
theorem dX6_addLeaning_4 : decode cX6_addLeaning 4 = .ok (.bipush 10, 2) := by decide +kernel
theorem dX6_addLeaning_6 : decode cX6_addLeaning 6 = .ok (.if_icmp .ge 43, 3) := by decide +kernel
theorem dX6_addLeaning_9 : decode cX6_addLeaning 9 = .ok (.aload_n 0, 1) := by decide +kernel
theorem dX6_addLeaning_10 : decode cX6_addLeaning 10 = .ok (.getfield 24, 3) := by decide +kernel
theorem dX6_addLeaning_13 : decode cX6_addLeaning 13 = .ok (.aload_n 0, 1) := by decide +kernel
theorem dX6_addLeaning_14 : decode cX6_addLeaning 14 = .ok (.getfield 66, 3) := by decide +kernel
theorem dX6_addLeaning_17 : decode cX6_addLeaning 17 = .ok (.iload_n 1, 1) := by decide +kernel
theorem dX6_addLeaning_18 : decode cX6_addLeaning 18 = .ok (.iastore, 1) := by decide +kernel
theorem dX6_addLeaning_19 : decode cX6_addLeaning 19 = .ok (.aload_n 0, 1) := by decide +kernel
theorem dX6_addLeaning_20 : decode cX6_addLeaning 20 = .ok (.getfield 27, 3) := by decide +kernel
theorem dX6_addLeaning_23 : decode cX6_addLeaning 23 = .ok (.aload_n 0, 1) := by decide +kernel
theorem dX6_addLeaning_24 : decode cX6_addLeaning 24 = .ok (.getfield 66, 3) := by decide +kernel
theorem dX6_addLeaning_27 : decode cX6_addLeaning 27 = .ok (.iload_n 2, 1) := by decide +kernel
theorem dX6_addLeaning_28 : decode cX6_addLeaning 28 = .ok (.iastore, 1) := by decide +kernel
theorem dX6_addLeaning_29 : decode cX6_addLeaning 29 = .ok (.aload_n 0, 1) := by decide +kernel
theorem dX6_addLeaning_30 : decode cX6_addLeaning 30 = .ok (.getfield 30, 3) := by decide +kernel
theorem dX6_addLeaning_33 : decode cX6_addLeaning 33 = .ok (.aload_n 0, 1) := by decide +kernel
theorem dX6_addLeaning_34 : decode cX6_addLeaning 34 = .ok (.getfield 66, 3) := by decide +kernel
theorem dX6_addLeaning_37 : decode cX6_addLeaning 37 = .ok (.iload_n 3, 1) := by decide +kernel
theorem dX6_addLeaning_38 : decode cX6_addLeaning 38 = .ok (.iastore, 1) := by decide +kernel
theorem dX6_addLeaning_39 : decode cX6_addLeaning 39 = .ok (.aload_n 0, 1) := by decide +kernel
theorem dX6_addLeaning_40 : decode cX6_addLeaning 40 = .ok (.dup, 1) := by decide +kernel
theorem dX6_addLeaning_41 : decode cX6_addLeaning 41 = .ok (.getfield 66, 3) := by decide +kernel
theorem dX6_addLeaning_44 : decode cX6_addLeaning 44 = .ok (.iconst 1, 1) := by decide +kernel
theorem dX6_addLeaning_45 : decode cX6_addLeaning 45 = .ok (.iadd, 1) := by decide +kernel
theorem dX6_addLeaning_46 : decode cX6_addLeaning 46 = .ok (.putfield 66, 3) := by decide +kernel
theorem dX6_addLeaning_49 : decode cX6_addLeaning 49 = .ok (.return_, 1) := by decide +kernel
theorem dX6_bunsOf_0 : decode cX6_bunsOf 0 = .ok (.iload_n 1, 1) := by decide +kernel
theorem dX6_bunsOf_1 : decode cX6_bunsOf 1 = .ok (.ifCond .lt 18, 3) := by decide +kernel
theorem dX6_bunsOf_4 : decode cX6_bunsOf 4 = .ok (.iload_n 1, 1) := by decide +kernel
theorem dX6_bunsOf_5 : decode cX6_bunsOf 5 = .ok (.bipush 6, 2) := by decide +kernel
theorem dX6_bunsOf_7 : decode cX6_bunsOf 7 = .ok (.if_icmp .ge 12, 3) := by decide +kernel
theorem dX6_bunsOf_10 : decode cX6_bunsOf 10 = .ok (.aload_n 0, 1) := by decide +kernel
theorem dX6_bunsOf_11 : decode cX6_bunsOf 11 = .ok (.getfield 18, 3) := by decide +kernel
theorem dX6_bunsOf_14 : decode cX6_bunsOf 14 = .ok (.iload_n 1, 1) := by decide +kernel
theorem dX6_bunsOf_15 : decode cX6_bunsOf 15 = .ok (.iaload, 1) := by decide +kernel
theorem dX6_bunsOf_16 : decode cX6_bunsOf 16 = .ok (.goto 4, 3) := by decide +kernel
theorem dX6_bunsOf_19 : decode cX6_bunsOf 19 = .ok (.iconst 0, 1) := by decide +kernel
theorem dX6_bunsOf_20 : decode cX6_bunsOf 20 = .ok (.ireturn, 1) := by decide +kernel
theorem dX8_copyFrom_0 : decode cX8_copyFrom 0 = .ok (.aload_n 1, 1) := by decide +kernel
theorem dX8_copyFrom_1 : decode cX8_copyFrom 1 = .ok (.getfield 9, 3) := by decide +kernel
theorem dX8_copyFrom_4 : decode cX8_copyFrom 4 = .ok (.iconst 0, 1) := by decide +kernel
theorem dX8_copyFrom_5 : decode cX8_copyFrom 5 = .ok (.aload_n 0, 1) := by decide +kernel
theorem dX8_copyFrom_6 : decode cX8_copyFrom 6 = .ok (.getfield 9, 3) := by decide +kernel
theorem dX8_copyFrom_9 : decode cX8_copyFrom 9 = .ok (.iconst 0, 1) := by decide +kernel
theorem dX8_copyFrom_10 : decode cX8_copyFrom 10 = .ok (.bipush 6, 2) := by decide +kernel
theorem dX8_copyFrom_12 : decode cX8_copyFrom 12 = .ok (.invokestatic 45, 3) := by decide +kernel
theorem dX8_copyFrom_15 : decode cX8_copyFrom 15 = .ok (.aload_n 1, 1) := by decide +kernel
theorem dX8_copyFrom_16 : decode cX8_copyFrom 16 = .ok (.getfield 15, 3) := by decide +kernel
theorem dX8_copyFrom_19 : decode cX8_copyFrom 19 = .ok (.iconst 0, 1) := by decide +kernel
theorem dX8_copyFrom_20 : decode cX8_copyFrom 20 = .ok (.aload_n 0, 1) := by decide +kernel
theorem dX8_copyFrom_21 : decode cX8_copyFrom 21 = .ok (.getfield 15, 3) := by decide +kernel
theorem dX8_copyFrom_24 : decode cX8_copyFrom 24 = .ok (.iconst 0, 1) := by decide +kernel
theorem dX8_copyFrom_25 : decode cX8_copyFrom 25 = .ok (.bipush 6, 2) := by decide +kernel
theorem dX8_copyFrom_27 : decode cX8_copyFrom 27 = .ok (.invokestatic 45, 3) := by decide +kernel
theorem dX8_copyFrom_30 : decode cX8_copyFrom 30 = .ok (.aload_n 1, 1) := by decide +kernel
theorem dX8_copyFrom_31 : decode cX8_copyFrom 31 = .ok (.getfield 18, 3) := by decide +kernel
theorem dX8_copyFrom_34 : decode cX8_copyFrom 34 = .ok (.iconst 0, 1) := by decide +kernel
theorem dX8_copyFrom_35 : decode cX8_copyFrom 35 = .ok (.aload_n 0, 1) := by decide +kernel
theorem dX8_copyFrom_36 : decode cX8_copyFrom 36 = .ok (.getfield 18, 3) := by decide +kernel
theorem dX8_copyFrom_39 : decode cX8_copyFrom 39 = .ok (.iconst 0, 1) := by decide +kernel
theorem dX8_copyFrom_40 : decode cX8_copyFrom 40 = .ok (.bipush 8, 2) := by decide +kernel
theorem dX8_copyFrom_42 : decode cX8_copyFrom 42 = .ok (.invokestatic 45, 3) := by decide +kernel
theorem dX8_copyFrom_45 : decode cX8_copyFrom 45 = .ok (.aload_n 1, 1) := by decide +kernel
theorem dX8_copyFrom_46 : decode cX8_copyFrom 46 = .ok (.getfield 21, 3) := by decide +kernel
theorem dX8_copyFrom_49 : decode cX8_copyFrom 49 = .ok (.iconst 0, 1) := by decide +kernel
theorem dX8_copyFrom_50 : decode cX8_copyFrom 50 = .ok (.aload_n 0, 1) := by decide +kernel
theorem dX8_copyFrom_51 : decode cX8_copyFrom 51 = .ok (.getfield 21, 3) := by decide +kernel
theorem dX8_copyFrom_54 : decode cX8_copyFrom 54 = .ok (.iconst 0, 1) := by decide +kernel
theorem dX8_copyFrom_55 : decode cX8_copyFrom 55 = .ok (.bipush 8, 2) := by decide +kernel
theorem dX8_copyFrom_57 : decode cX8_copyFrom 57 = .ok (.invokestatic 45, 3) := by decide +kernel
theorem dX8_copyFrom_60 : decode cX8_copyFrom 60 = .ok (.aload_n 1, 1) := by decide +kernel
theorem dX8_copyFrom_61 : decode cX8_copyFrom 61 = .ok (.getfield 24, 3) := by decide +kernel
theorem dX8_copyFrom_64 : decode cX8_copyFrom 64 = .ok (.iconst 0, 1) := by decide +kernel
theorem dX8_copyFrom_65 : decode cX8_copyFrom 65 = .ok (.aload_n 0, 1) := by decide +kernel
theorem dX8_copyFrom_66 : decode cX8_copyFrom 66 = .ok (.getfield 24, 3) := by decide +kernel
theorem dX8_copyFrom_69 : decode cX8_copyFrom 69 = .ok (.iconst 0, 1) := by decide +kernel
theorem dX8_copyFrom_70 : decode cX8_copyFrom 70 = .ok (.bipush 8, 2) := by decide +kernel
theorem dX8_copyFrom_72 : decode cX8_copyFrom 72 = .ok (.invokestatic 45, 3) := by decide +kernel
theorem dX8_copyFrom_75 : decode cX8_copyFrom 75 = .ok (.aload_n 1, 1) := by decide +kernel
theorem dX8_copyFrom_76 : decode cX8_copyFrom 76 = .ok (.getfield 27, 3) := by decide +kernel
theorem dX8_copyFrom_79 : decode cX8_copyFrom 79 = .ok (.iconst 0, 1) := by decide +kernel
theorem dX8_copyFrom_80 : decode cX8_copyFrom 80 = .ok (.aload_n 0, 1) := by decide +kernel
theorem dX8_copyFrom_81 : decode cX8_copyFrom 81 = .ok (.getfield 27, 3) := by decide +kernel
theorem dX8_copyFrom_84 : decode cX8_copyFrom 84 = .ok (.iconst 0, 1) := by decide +kernel
theorem dX8_copyFrom_85 : decode cX8_copyFrom 85 = .ok (.bipush 8, 2) := by decide +kernel
theorem dX8_copyFrom_87 : decode cX8_copyFrom 87 = .ok (.invokestatic 45, 3) := by decide +kernel
theorem dX8_copyFrom_90 : decode cX8_copyFrom 90 = .ok (.aload_n 1, 1) := by decide +kernel
theorem dX8_copyFrom_91 : decode cX8_copyFrom 91 = .ok (.getfield 30, 3) := by decide +kernel
theorem dX8_copyFrom_94 : decode cX8_copyFrom 94 = .ok (.iconst 0, 1) := by decide +kernel
theorem dX8_copyFrom_95 : decode cX8_copyFrom 95 = .ok (.aload_n 0, 1) := by decide +kernel
theorem dX8_copyFrom_96 : decode cX8_copyFrom 96 = .ok (.getfield 30, 3) := by decide +kernel
theorem dX8_copyFrom_99 : decode cX8_copyFrom 99 = .ok (.iconst 0, 1) := by decide +kernel
theorem dX8_copyFrom_100 : decode cX8_copyFrom 100 = .ok (.bipush 8, 2) := by decide +kernel
theorem dX8_copyFrom_102 : decode cX8_copyFrom 102 = .ok (.invokestatic 45, 3) := by decide +kernel
theorem dX8_copyFrom_105 : decode cX8_copyFrom 105 = .ok (.aload_n 1, 1) := by decide +kernel
theorem dX8_copyFrom_106 : decode cX8_copyFrom 106 = .ok (.getfield 33, 3) := by decide +kernel
theorem dX8_copyFrom_109 : decode cX8_copyFrom 109 = .ok (.iconst 0, 1) := by decide +kernel
theorem dX8_copyFrom_110 : decode cX8_copyFrom 110 = .ok (.aload_n 0, 1) := by decide +kernel
theorem dX8_copyFrom_111 : decode cX8_copyFrom 111 = .ok (.getfield 33, 3) := by decide +kernel
theorem dX8_copyFrom_114 : decode cX8_copyFrom 114 = .ok (.iconst 0, 1) := by decide +kernel
theorem dX8_copyFrom_115 : decode cX8_copyFrom 115 = .ok (.bipush 8, 2) := by decide +kernel
theorem dX8_copyFrom_117 : decode cX8_copyFrom 117 = .ok (.invokestatic 45, 3) := by decide +kernel
theorem dX8_copyFrom_120 : decode cX8_copyFrom 120 = .ok (.aload_n 1, 1) := by decide +kernel
theorem dX8_copyFrom_121 : decode cX8_copyFrom 121 = .ok (.getfield 36, 3) := by decide +kernel
theorem dX8_copyFrom_124 : decode cX8_copyFrom 124 = .ok (.iconst 0, 1) := by decide +kernel
theorem dX8_copyFrom_125 : decode cX8_copyFrom 125 = .ok (.aload_n 0, 1) := by decide +kernel
theorem dX8_copyFrom_126 : decode cX8_copyFrom 126 = .ok (.getfield 36, 3) := by decide +kernel
theorem dX8_copyFrom_129 : decode cX8_copyFrom 129 = .ok (.iconst 0, 1) := by decide +kernel
theorem dX8_copyFrom_130 : decode cX8_copyFrom 130 = .ok (.bipush 8, 2) := by decide +kernel
theorem dX8_copyFrom_132 : decode cX8_copyFrom 132 = .ok (.invokestatic 45, 3) := by decide +kernel
theorem dX8_copyFrom_135 : decode cX8_copyFrom 135 = .ok (.aload_n 1, 1) := by decide +kernel
theorem dX8_copyFrom_136 : decode cX8_copyFrom 136 = .ok (.getfield 39, 3) := by decide +kernel
theorem dX8_copyFrom_139 : decode cX8_copyFrom 139 = .ok (.iconst 0, 1) := by decide +kernel
theorem dX8_copyFrom_140 : decode cX8_copyFrom 140 = .ok (.aload_n 0, 1) := by decide +kernel
theorem dX8_copyFrom_141 : decode cX8_copyFrom 141 = .ok (.getfield 39, 3) := by decide +kernel
theorem dX8_copyFrom_144 : decode cX8_copyFrom 144 = .ok (.iconst 0, 1) := by decide +kernel
theorem dX8_copyFrom_145 : decode cX8_copyFrom 145 = .ok (.bipush 8, 2) := by decide +kernel
theorem dX8_copyFrom_147 : decode cX8_copyFrom 147 = .ok (.invokestatic 45, 3) := by decide +kernel
theorem dX8_copyFrom_150 : decode cX8_copyFrom 150 = .ok (.aload_n 1, 1) := by decide +kernel
theorem dX8_copyFrom_151 : decode cX8_copyFrom 151 = .ok (.getfield 42, 3) := by decide +kernel
theorem dX8_copyFrom_154 : decode cX8_copyFrom 154 = .ok (.iconst 0, 1) := by decide +kernel
theorem dX8_copyFrom_155 : decode cX8_copyFrom 155 = .ok (.aload_n 0, 1) := by decide +kernel
theorem dX8_copyFrom_156 : decode cX8_copyFrom 156 = .ok (.getfield 42, 3) := by decide +kernel
theorem dX8_copyFrom_159 : decode cX8_copyFrom 159 = .ok (.iconst 0, 1) := by decide +kernel
theorem dX8_copyFrom_160 : decode cX8_copyFrom 160 = .ok (.bipush 14, 2) := by decide +kernel
theorem dX8_copyFrom_162 : decode cX8_copyFrom 162 = .ok (.invokestatic 45, 3) := by decide +kernel
theorem dX8_copyFrom_165 : decode cX8_copyFrom 165 = .ok (.aload_n 0, 1) := by decide +kernel
theorem dX8_copyFrom_166 : decode cX8_copyFrom 166 = .ok (.aload_n 1, 1) := by decide +kernel
theorem dX8_copyFrom_167 : decode cX8_copyFrom 167 = .ok (.getfield 51, 3) := by decide +kernel
theorem dX8_copyFrom_170 : decode cX8_copyFrom 170 = .ok (.putfield 51, 3) := by decide +kernel
theorem dX8_copyFrom_173 : decode cX8_copyFrom 173 = .ok (.aload_n 0, 1) := by decide +kernel
theorem dX8_copyFrom_174 : decode cX8_copyFrom 174 = .ok (.aload_n 1, 1) := by decide +kernel
theorem dX8_copyFrom_175 : decode cX8_copyFrom 175 = .ok (.getfield 55, 3) := by decide +kernel
theorem dX8_copyFrom_178 : decode cX8_copyFrom 178 = .ok (.putfield 55, 3) := by decide +kernel
theorem dX8_copyFrom_181 : decode cX8_copyFrom 181 = .ok (.aload_n 0, 1) := by decide +kernel
theorem dX8_copyFrom_182 : decode cX8_copyFrom 182 = .ok (.aload_n 1, 1) := by decide +kernel
theorem dX8_copyFrom_183 : decode cX8_copyFrom 183 = .ok (.getfield 58, 3) := by decide +kernel
theorem dX8_copyFrom_186 : decode cX8_copyFrom 186 = .ok (.putfield 58, 3) := by decide +kernel
theorem dX8_copyFrom_189 : decode cX8_copyFrom 189 = .ok (.aload_n 0, 1) := by decide +kernel
theorem dX8_copyFrom_190 : decode cX8_copyFrom 190 = .ok (.aload_n 1, 1) := by decide +kernel
theorem dX8_copyFrom_191 : decode cX8_copyFrom 191 = .ok (.getfield 61, 3) := by decide +kernel
theorem dX8_copyFrom_194 : decode cX8_copyFrom 194 = .ok (.putfield 61, 3) := by decide +kernel
theorem dX8_copyFrom_197 : decode cX8_copyFrom 197 = .ok (.return_, 1) := by decide +kernel
theorem dX8_empty_0 : decode cX8_empty 0 = .ok (.aload_n 0, 1) := by decide +kernel
theorem dX8_empty_1 : decode cX8_empty 1 = .ok (.iconst 0, 1) := by decide +kernel
theorem dX8_empty_2 : decode cX8_empty 2 = .ok (.putfield 51, 3) := by decide +kernel
theorem dX8_empty_5 : decode cX8_empty 5 = .ok (.aload_n 0, 1) := by decide +kernel
theorem dX8_empty_6 : decode cX8_empty 6 = .ok (.iconst 0, 1) := by decide +kernel
theorem dX8_empty_7 : decode cX8_empty 7 = .ok (.putfield 55, 3) := by decide +kernel
theorem dX8_empty_10 : decode cX8_empty 10 = .ok (.aload_n 0, 1) := by decide +kernel
theorem dX8_empty_11 : decode cX8_empty 11 = .ok (.iconst 0, 1) := by decide +kernel
theorem dX8_empty_12 : decode cX8_empty 12 = .ok (.putfield 58, 3) := by decide +kernel
theorem dX8_empty_15 : decode cX8_empty 15 = .ok (.aload_n 0, 1) := by decide +kernel
theorem dX8_empty_16 : decode cX8_empty 16 = .ok (.iconst 0, 1) := by decide +kernel
theorem dX8_empty_17 : decode cX8_empty 17 = .ok (.putfield 61, 3) := by decide +kernel
theorem dX8_empty_20 : decode cX8_empty 20 = .ok (.return_, 1) := by decide +kernel
theorem dX8_addDebt_0 : decode cX8_addDebt 0 = .ok (.aload_n 0, 1) := by decide +kernel
theorem dX8_addDebt_1 : decode cX8_addDebt 1 = .ok (.getfield 51, 3) := by decide +kernel
theorem dX8_addDebt_4 : decode cX8_addDebt 4 = .ok (.bipush 8, 2) := by decide +kernel
theorem dX8_addDebt_6 : decode cX8_addDebt 6 = .ok (.if_icmp .lt 4, 3) := by decide +kernel
theorem dX8_addDebt_9 : decode cX8_addDebt 9 = .ok (.return_, 1) := by decide +kernel
theorem dX8_addDebt_10 : decode cX8_addDebt 10 = .ok (.aload_n 0, 1) := by decide +kernel
theorem dX8_addDebt_11 : decode cX8_addDebt 11 = .ok (.getfield 18, 3) := by decide +kernel
theorem dX8_addDebt_14 : decode cX8_addDebt 14 = .ok (.aload_n 0, 1) := by decide +kernel
theorem dX8_addDebt_15 : decode cX8_addDebt 15 = .ok (.getfield 51, 3) := by decide +kernel
theorem dX8_addDebt_18 : decode cX8_addDebt 18 = .ok (.iload_n 1, 1) := by decide +kernel
theorem dX8_addDebt_19 : decode cX8_addDebt 19 = .ok (.iastore, 1) := by decide +kernel
theorem dX8_addDebt_20 : decode cX8_addDebt 20 = .ok (.aload_n 0, 1) := by decide +kernel
theorem dX8_addDebt_21 : decode cX8_addDebt 21 = .ok (.getfield 21, 3) := by decide +kernel
theorem dX8_addDebt_24 : decode cX8_addDebt 24 = .ok (.aload_n 0, 1) := by decide +kernel
theorem dX8_addDebt_25 : decode cX8_addDebt 25 = .ok (.getfield 51, 3) := by decide +kernel
theorem dX8_addDebt_28 : decode cX8_addDebt 28 = .ok (.iload_n 2, 1) := by decide +kernel
theorem dX8_addDebt_29 : decode cX8_addDebt 29 = .ok (.iastore, 1) := by decide +kernel
theorem dX8_addDebt_30 : decode cX8_addDebt 30 = .ok (.aload_n 0, 1) := by decide +kernel
theorem dX8_addDebt_31 : decode cX8_addDebt 31 = .ok (.getfield 24, 3) := by decide +kernel
theorem dX8_addDebt_34 : decode cX8_addDebt 34 = .ok (.aload_n 0, 1) := by decide +kernel
theorem dX8_addDebt_35 : decode cX8_addDebt 35 = .ok (.getfield 51, 3) := by decide +kernel
theorem dX8_addDebt_38 : decode cX8_addDebt 38 = .ok (.iload_n 3, 1) := by decide +kernel
theorem dX8_addDebt_39 : decode cX8_addDebt 39 = .ok (.iastore, 1) := by decide +kernel
theorem dX8_addDebt_40 : decode cX8_addDebt 40 = .ok (.aload_n 0, 1) := by decide +kernel
theorem dX8_addDebt_41 : decode cX8_addDebt 41 = .ok (.getfield 27, 3) := by decide +kernel
theorem dX8_addDebt_44 : decode cX8_addDebt 44 = .ok (.aload_n 0, 1) := by decide +kernel
theorem dX8_addDebt_45 : decode cX8_addDebt 45 = .ok (.getfield 51, 3) := by decide +kernel
theorem dX8_addDebt_48 : decode cX8_addDebt 48 = .ok (.iload 4, 2) := by decide +kernel
theorem dX8_addDebt_50 : decode cX8_addDebt 50 = .ok (.iastore, 1) := by decide +kernel
theorem dX8_addDebt_51 : decode cX8_addDebt 51 = .ok (.aload_n 0, 1) := by decide +kernel
theorem dX8_addDebt_52 : decode cX8_addDebt 52 = .ok (.getfield 30, 3) := by decide +kernel
theorem dX8_addDebt_55 : decode cX8_addDebt 55 = .ok (.aload_n 0, 1) := by decide +kernel
theorem dX8_addDebt_56 : decode cX8_addDebt 56 = .ok (.getfield 51, 3) := by decide +kernel
theorem dX8_addDebt_59 : decode cX8_addDebt 59 = .ok (.iload 5, 2) := by decide +kernel
theorem dX8_addDebt_61 : decode cX8_addDebt 61 = .ok (.iastore, 1) := by decide +kernel
theorem dX8_addDebt_62 : decode cX8_addDebt 62 = .ok (.aload_n 0, 1) := by decide +kernel
theorem dX8_addDebt_63 : decode cX8_addDebt 63 = .ok (.getfield 33, 3) := by decide +kernel
theorem dX8_addDebt_66 : decode cX8_addDebt 66 = .ok (.aload_n 0, 1) := by decide +kernel
theorem dX8_addDebt_67 : decode cX8_addDebt 67 = .ok (.getfield 51, 3) := by decide +kernel
theorem dX8_addDebt_70 : decode cX8_addDebt 70 = .ok (.iconst 0, 1) := by decide +kernel
theorem dX8_addDebt_71 : decode cX8_addDebt 71 = .ok (.iastore, 1) := by decide +kernel
theorem dX8_addDebt_72 : decode cX8_addDebt 72 = .ok (.aload_n 0, 1) := by decide +kernel
theorem dX8_addDebt_73 : decode cX8_addDebt 73 = .ok (.getfield 36, 3) := by decide +kernel
theorem dX8_addDebt_76 : decode cX8_addDebt 76 = .ok (.aload_n 0, 1) := by decide +kernel
theorem dX8_addDebt_77 : decode cX8_addDebt 77 = .ok (.getfield 51, 3) := by decide +kernel
theorem dX8_addDebt_80 : decode cX8_addDebt 80 = .ok (.iconst 0, 1) := by decide +kernel
theorem dX8_addDebt_81 : decode cX8_addDebt 81 = .ok (.iastore, 1) := by decide +kernel
theorem dX8_addDebt_82 : decode cX8_addDebt 82 = .ok (.aload_n 0, 1) := by decide +kernel
theorem dX8_addDebt_83 : decode cX8_addDebt 83 = .ok (.getfield 39, 3) := by decide +kernel
theorem dX8_addDebt_86 : decode cX8_addDebt 86 = .ok (.aload_n 0, 1) := by decide +kernel
theorem dX8_addDebt_87 : decode cX8_addDebt 87 = .ok (.getfield 51, 3) := by decide +kernel
theorem dX8_addDebt_90 : decode cX8_addDebt 90 = .ok (.iconst 0, 1) := by decide +kernel
theorem dX8_addDebt_91 : decode cX8_addDebt 91 = .ok (.iastore, 1) := by decide +kernel
theorem dX8_addDebt_92 : decode cX8_addDebt 92 = .ok (.aload_n 0, 1) := by decide +kernel
theorem dX8_addDebt_93 : decode cX8_addDebt 93 = .ok (.getfield 42, 3) := by decide +kernel
theorem dX8_addDebt_96 : decode cX8_addDebt 96 = .ok (.aload_n 0, 1) := by decide +kernel
theorem dX8_addDebt_97 : decode cX8_addDebt 97 = .ok (.getfield 51, 3) := by decide +kernel
theorem dX8_addDebt_100 : decode cX8_addDebt 100 = .ok (.iconst 0, 1) := by decide +kernel
theorem dX8_addDebt_101 : decode cX8_addDebt 101 = .ok (.iastore, 1) := by decide +kernel
theorem dX8_addDebt_102 : decode cX8_addDebt 102 = .ok (.aload_n 0, 1) := by decide +kernel
theorem dX8_addDebt_103 : decode cX8_addDebt 103 = .ok (.dup, 1) := by decide +kernel
theorem dX8_addDebt_104 : decode cX8_addDebt 104 = .ok (.getfield 51, 3) := by decide +kernel
theorem dX8_addDebt_107 : decode cX8_addDebt 107 = .ok (.iconst 1, 1) := by decide +kernel
theorem dX8_addDebt_108 : decode cX8_addDebt 108 = .ok (.iadd, 1) := by decide +kernel
theorem dX8_addDebt_109 : decode cX8_addDebt 109 = .ok (.putfield 51, 3) := by decide +kernel
theorem dX8_addDebt_112 : decode cX8_addDebt 112 = .ok (.return_, 1) := by decide +kernel
theorem dX8_isAlive_0 : decode cX8_isAlive 0 = .ok (.aload_n 0, 1) := by decide +kernel
theorem dX8_isAlive_1 : decode cX8_isAlive 1 = .ok (.getfield 55, 3) := by decide +kernel
theorem dX8_isAlive_4 : decode cX8_isAlive 4 = .ok (.iload_n 1, 1) := by decide +kernel
theorem dX8_isAlive_5 : decode cX8_isAlive 5 = .ok (.ishr, 1) := by decide +kernel
theorem dX8_isAlive_6 : decode cX8_isAlive 6 = .ok (.iconst 1, 1) := by decide +kernel
theorem dX8_isAlive_7 : decode cX8_isAlive 7 = .ok (.iand, 1) := by decide +kernel
theorem dX8_isAlive_8 : decode cX8_isAlive 8 = .ok (.ifCond .eq 7, 3) := by decide +kernel
theorem dX8_isAlive_11 : decode cX8_isAlive 11 = .ok (.iconst 1, 1) := by decide +kernel
theorem dX8_isAlive_12 : decode cX8_isAlive 12 = .ok (.goto 4, 3) := by decide +kernel
theorem dX8_isAlive_15 : decode cX8_isAlive 15 = .ok (.iconst 0, 1) := by decide +kernel
theorem dX8_isAlive_16 : decode cX8_isAlive 16 = .ok (.ireturn, 1) := by decide +kernel
theorem dX8_purseOf_0 : decode cX8_purseOf 0 = .ok (.iload_n 1, 1) := by decide +kernel
theorem dX8_purseOf_1 : decode cX8_purseOf 1 = .ok (.ifCond .lt 18, 3) := by decide +kernel
theorem dX8_purseOf_4 : decode cX8_purseOf 4 = .ok (.iload_n 1, 1) := by decide +kernel
theorem dX8_purseOf_5 : decode cX8_purseOf 5 = .ok (.bipush 6, 2) := by decide +kernel
theorem dX8_purseOf_7 : decode cX8_purseOf 7 = .ok (.if_icmp .ge 12, 3) := by decide +kernel
theorem dX8_purseOf_10 : decode cX8_purseOf 10 = .ok (.aload_n 0, 1) := by decide +kernel
theorem dX8_purseOf_11 : decode cX8_purseOf 11 = .ok (.getfield 9, 3) := by decide +kernel
theorem dX8_purseOf_14 : decode cX8_purseOf 14 = .ok (.iload_n 1, 1) := by decide +kernel
theorem dX8_purseOf_15 : decode cX8_purseOf 15 = .ok (.iaload, 1) := by decide +kernel
theorem dX8_purseOf_16 : decode cX8_purseOf 16 = .ok (.goto 4, 3) := by decide +kernel
theorem dX8_purseOf_19 : decode cX8_purseOf 19 = .ok (.iconst 0, 1) := by decide +kernel
theorem dX8_purseOf_20 : decode cX8_purseOf 20 = .ok (.ireturn, 1) := by decide +kernel
theorem dX8_earn_0 : decode cX8_earn 0 = .ok (.iload_n 1, 1) := by decide +kernel
theorem dX8_earn_1 : decode cX8_earn 1 = .ok (.ifCond .lt 19, 3) := by decide +kernel
theorem dX8_earn_4 : decode cX8_earn 4 = .ok (.iload_n 1, 1) := by decide +kernel
theorem dX8_earn_5 : decode cX8_earn 5 = .ok (.bipush 6, 2) := by decide +kernel
theorem dX8_earn_7 : decode cX8_earn 7 = .ok (.if_icmp .ge 13, 3) := by decide +kernel
theorem dX8_earn_10 : decode cX8_earn 10 = .ok (.aload_n 0, 1) := by decide +kernel
theorem dX8_earn_11 : decode cX8_earn 11 = .ok (.getfield 9, 3) := by decide +kernel
theorem dX8_earn_14 : decode cX8_earn 14 = .ok (.iload_n 1, 1) := by decide +kernel
theorem dX8_earn_15 : decode cX8_earn 15 = .ok (.dup2, 1) := by decide +kernel
theorem dX8_earn_16 : decode cX8_earn 16 = .ok (.iaload, 1) := by decide +kernel
theorem dX8_earn_17 : decode cX8_earn 17 = .ok (.iload_n 2, 1) := by decide +kernel
theorem dX8_earn_18 : decode cX8_earn 18 = .ok (.iadd, 1) := by decide +kernel
theorem dX8_earn_19 : decode cX8_earn 19 = .ok (.iastore, 1) := by decide +kernel
theorem dX8_earn_20 : decode cX8_earn 20 = .ok (.return_, 1) := by decide +kernel
theorem dX8_isInPurse_0 : decode cX8_isInPurse 0 = .ok (.aload_n 0, 1) := by decide +kernel
theorem dX8_isInPurse_1 : decode cX8_isInPurse 1 = .ok (.aload_n 0, 1) := by decide +kernel
theorem dX8_isInPurse_2 : decode cX8_isInPurse 2 = .ok (.getfield 21, 3) := by decide +kernel
theorem dX8_isInPurse_5 : decode cX8_isInPurse 5 = .ok (.iload_n 1, 1) := by decide +kernel
theorem dX8_isInPurse_6 : decode cX8_isInPurse 6 = .ok (.iaload, 1) := by decide +kernel
theorem dX8_isInPurse_7 : decode cX8_isInPurse 7 = .ok (.invokevirtual 64, 3) := by decide +kernel
theorem dX8_isInPurse_10 : decode cX8_isInPurse 10 = .ok (.aload_n 0, 1) := by decide +kernel
theorem dX8_isInPurse_11 : decode cX8_isInPurse 11 = .ok (.getfield 36, 3) := by decide +kernel
theorem dX8_isInPurse_14 : decode cX8_isInPurse 14 = .ok (.iload_n 1, 1) := by decide +kernel
theorem dX8_isInPurse_15 : decode cX8_isInPurse 15 = .ok (.iaload, 1) := by decide +kernel
theorem dX8_isInPurse_16 : decode cX8_isInPurse 16 = .ok (.if_icmp .lt 7, 3) := by decide +kernel
theorem dX8_isInPurse_19 : decode cX8_isInPurse 19 = .ok (.iconst 1, 1) := by decide +kernel
theorem dX8_isInPurse_20 : decode cX8_isInPurse 20 = .ok (.goto 4, 3) := by decide +kernel
theorem dX8_isInPurse_23 : decode cX8_isInPurse 23 = .ok (.iconst 0, 1) := by decide +kernel
theorem dX8_isInPurse_24 : decode cX8_isInPurse 24 = .ok (.ireturn, 1) := by decide +kernel
theorem dX8_daysOpen_0 : decode cX8_daysOpen 0 = .ok (.aload_n 0, 1) := by decide +kernel
theorem dX8_daysOpen_1 : decode cX8_daysOpen 1 = .ok (.getfield 33, 3) := by decide +kernel
theorem dX8_daysOpen_4 : decode cX8_daysOpen 4 = .ok (.iload_n 1, 1) := by decide +kernel
theorem dX8_daysOpen_5 : decode cX8_daysOpen 5 = .ok (.iaload, 1) := by decide +kernel
theorem dX8_daysOpen_6 : decode cX8_daysOpen 6 = .ok (.iconst 1, 1) := by decide +kernel
theorem dX8_daysOpen_7 : decode cX8_daysOpen 7 = .ok (.if_icmp .ne 17, 3) := by decide +kernel
theorem dX8_daysOpen_10 : decode cX8_daysOpen 10 = .ok (.aload_n 0, 1) := by decide +kernel
theorem dX8_daysOpen_11 : decode cX8_daysOpen 11 = .ok (.getfield 58, 3) := by decide +kernel
theorem dX8_daysOpen_14 : decode cX8_daysOpen 14 = .ok (.aload_n 0, 1) := by decide +kernel
theorem dX8_daysOpen_15 : decode cX8_daysOpen 15 = .ok (.getfield 39, 3) := by decide +kernel
theorem dX8_daysOpen_18 : decode cX8_daysOpen 18 = .ok (.iload_n 1, 1) := by decide +kernel
theorem dX8_daysOpen_19 : decode cX8_daysOpen 19 = .ok (.iaload, 1) := by decide +kernel
theorem dX8_daysOpen_20 : decode cX8_daysOpen 20 = .ok (.isub, 1) := by decide +kernel
theorem dX8_daysOpen_21 : decode cX8_daysOpen 21 = .ok (.goto 4, 3) := by decide +kernel
theorem dX8_daysOpen_24 : decode cX8_daysOpen 24 = .ok (.iconst 0, 1) := by decide +kernel
theorem dX8_daysOpen_25 : decode cX8_daysOpen 25 = .ok (.ireturn, 1) := by decide +kernel
theorem dX8_open_0 : decode cX8_open 0 = .ok (.aload_n 0, 1) := by decide +kernel
theorem dX8_open_1 : decode cX8_open 1 = .ok (.aload_n 0, 1) := by decide +kernel
theorem dX8_open_2 : decode cX8_open 2 = .ok (.getfield 18, 3) := by decide +kernel
theorem dX8_open_5 : decode cX8_open 5 = .ok (.iload_n 1, 1) := by decide +kernel
theorem dX8_open_6 : decode cX8_open 6 = .ok (.iaload, 1) := by decide +kernel
theorem dX8_open_7 : decode cX8_open 7 = .ok (.aload_n 0, 1) := by decide +kernel
theorem dX8_open_8 : decode cX8_open 8 = .ok (.getfield 24, 3) := by decide +kernel
theorem dX8_open_11 : decode cX8_open 11 = .ok (.iload_n 1, 1) := by decide +kernel
theorem dX8_open_12 : decode cX8_open 12 = .ok (.iaload, 1) := by decide +kernel
theorem dX8_open_13 : decode cX8_open 13 = .ok (.ineg, 1) := by decide +kernel
theorem dX8_open_14 : decode cX8_open 14 = .ok (.iload_n 2, 1) := by decide +kernel
theorem dX8_open_15 : decode cX8_open 15 = .ok (.isub, 1) := by decide +kernel
theorem dX8_open_16 : decode cX8_open 16 = .ok (.invokevirtual 68, 3) := by decide +kernel
theorem dX8_open_19 : decode cX8_open 19 = .ok (.aload_n 0, 1) := by decide +kernel
theorem dX8_open_20 : decode cX8_open 20 = .ok (.aload_n 0, 1) := by decide +kernel
theorem dX8_open_21 : decode cX8_open 21 = .ok (.getfield 21, 3) := by decide +kernel
theorem dX8_open_24 : decode cX8_open 24 = .ok (.iload_n 1, 1) := by decide +kernel
theorem dX8_open_25 : decode cX8_open 25 = .ok (.iaload, 1) := by decide +kernel
theorem dX8_open_26 : decode cX8_open 26 = .ok (.aload_n 0, 1) := by decide +kernel
theorem dX8_open_27 : decode cX8_open 27 = .ok (.getfield 24, 3) := by decide +kernel
theorem dX8_open_30 : decode cX8_open 30 = .ok (.iload_n 1, 1) := by decide +kernel
theorem dX8_open_31 : decode cX8_open 31 = .ok (.iaload, 1) := by decide +kernel
theorem dX8_open_32 : decode cX8_open 32 = .ok (.invokevirtual 68, 3) := by decide +kernel
theorem dX8_open_35 : decode cX8_open 35 = .ok (.aload_n 0, 1) := by decide +kernel
theorem dX8_open_36 : decode cX8_open 36 = .ok (.getfield 33, 3) := by decide +kernel
theorem dX8_open_39 : decode cX8_open 39 = .ok (.iload_n 1, 1) := by decide +kernel
theorem dX8_open_40 : decode cX8_open 40 = .ok (.iconst 1, 1) := by decide +kernel
theorem dX8_open_41 : decode cX8_open 41 = .ok (.iastore, 1) := by decide +kernel
theorem dX8_open_42 : decode cX8_open 42 = .ok (.aload_n 0, 1) := by decide +kernel
theorem dX8_open_43 : decode cX8_open 43 = .ok (.getfield 36, 3) := by decide +kernel
theorem dX8_open_46 : decode cX8_open 46 = .ok (.iload_n 1, 1) := by decide +kernel
theorem dX8_open_47 : decode cX8_open 47 = .ok (.aload_n 0, 1) := by decide +kernel
theorem dX8_open_48 : decode cX8_open 48 = .ok (.getfield 24, 3) := by decide +kernel
theorem dX8_open_51 : decode cX8_open 51 = .ok (.iload_n 1, 1) := by decide +kernel
theorem dX8_open_52 : decode cX8_open 52 = .ok (.iaload, 1) := by decide +kernel
theorem dX8_open_53 : decode cX8_open 53 = .ok (.iastore, 1) := by decide +kernel
theorem dX8_open_54 : decode cX8_open 54 = .ok (.aload_n 0, 1) := by decide +kernel
theorem dX8_open_55 : decode cX8_open 55 = .ok (.getfield 39, 3) := by decide +kernel
theorem dX8_open_58 : decode cX8_open 58 = .ok (.iload_n 1, 1) := by decide +kernel
theorem dX8_open_59 : decode cX8_open 59 = .ok (.aload_n 0, 1) := by decide +kernel
theorem dX8_open_60 : decode cX8_open 60 = .ok (.getfield 58, 3) := by decide +kernel
theorem dX8_open_63 : decode cX8_open 63 = .ok (.iastore, 1) := by decide +kernel
theorem dX8_open_64 : decode cX8_open 64 = .ok (.aload_n 0, 1) := by decide +kernel
theorem dX8_open_65 : decode cX8_open 65 = .ok (.getfield 42, 3) := by decide +kernel
theorem dX8_open_68 : decode cX8_open 68 = .ok (.iload_n 1, 1) := by decide +kernel
theorem dX8_open_69 : decode cX8_open 69 = .ok (.iconst 1, 1) := by decide +kernel
theorem dX8_open_70 : decode cX8_open 70 = .ok (.aload_n 0, 1) := by decide +kernel
theorem dX8_open_71 : decode cX8_open 71 = .ok (.getfield 27, 3) := by decide +kernel
theorem dX8_open_74 : decode cX8_open 74 = .ok (.iload_n 1, 1) := by decide +kernel
theorem dX8_open_75 : decode cX8_open 75 = .ok (.iaload, 1) := by decide +kernel
theorem dX8_open_76 : decode cX8_open 76 = .ok (.ishl, 1) := by decide +kernel
theorem dX8_open_77 : decode cX8_open 77 = .ok (.iload_n 3, 1) := by decide +kernel
theorem dX8_open_78 : decode cX8_open 78 = .ok (.iconst (-1), 1) := by decide +kernel
theorem dX8_open_79 : decode cX8_open 79 = .ok (.ixor, 1) := by decide +kernel
theorem dX8_open_80 : decode cX8_open 80 = .ok (.iand, 1) := by decide +kernel
theorem dX8_open_81 : decode cX8_open 81 = .ok (.iastore, 1) := by decide +kernel
theorem dX8_open_82 : decode cX8_open 82 = .ok (.return_, 1) := by decide +kernel
theorem dX8_settle_0 : decode cX8_settle 0 = .ok (.aload_n 0, 1) := by decide +kernel
theorem dX8_settle_1 : decode cX8_settle 1 = .ok (.aload_n 0, 1) := by decide +kernel
theorem dX8_settle_2 : decode cX8_settle 2 = .ok (.getfield 21, 3) := by decide +kernel
theorem dX8_settle_5 : decode cX8_settle 5 = .ok (.iload_n 1, 1) := by decide +kernel
theorem dX8_settle_6 : decode cX8_settle 6 = .ok (.iaload, 1) := by decide +kernel
theorem dX8_settle_7 : decode cX8_settle 7 = .ok (.aload_n 0, 1) := by decide +kernel
theorem dX8_settle_8 : decode cX8_settle 8 = .ok (.getfield 36, 3) := by decide +kernel
theorem dX8_settle_11 : decode cX8_settle 11 = .ok (.iload_n 1, 1) := by decide +kernel
theorem dX8_settle_12 : decode cX8_settle 12 = .ok (.iaload, 1) := by decide +kernel
theorem dX8_settle_13 : decode cX8_settle 13 = .ok (.ineg, 1) := by decide +kernel
theorem dX8_settle_14 : decode cX8_settle 14 = .ok (.invokevirtual 68, 3) := by decide +kernel
theorem dX8_settle_17 : decode cX8_settle 17 = .ok (.aload_n 0, 1) := by decide +kernel
theorem dX8_settle_18 : decode cX8_settle 18 = .ok (.aload_n 0, 1) := by decide +kernel
theorem dX8_settle_19 : decode cX8_settle 19 = .ok (.getfield 18, 3) := by decide +kernel
theorem dX8_settle_22 : decode cX8_settle 22 = .ok (.iload_n 1, 1) := by decide +kernel
theorem dX8_settle_23 : decode cX8_settle 23 = .ok (.iaload, 1) := by decide +kernel
theorem dX8_settle_24 : decode cX8_settle 24 = .ok (.aload_n 0, 1) := by decide +kernel
theorem dX8_settle_25 : decode cX8_settle 25 = .ok (.getfield 36, 3) := by decide +kernel
theorem dX8_settle_28 : decode cX8_settle 28 = .ok (.iload_n 1, 1) := by decide +kernel
theorem dX8_settle_29 : decode cX8_settle 29 = .ok (.iaload, 1) := by decide +kernel
theorem dX8_settle_30 : decode cX8_settle 30 = .ok (.invokevirtual 68, 3) := by decide +kernel
theorem dX8_settle_33 : decode cX8_settle 33 = .ok (.aload_n 0, 1) := by decide +kernel
theorem dX8_settle_34 : decode cX8_settle 34 = .ok (.iload_n 1, 1) := by decide +kernel
theorem dX8_settle_35 : decode cX8_settle 35 = .ok (.iconst 2, 1) := by decide +kernel
theorem dX8_settle_36 : decode cX8_settle 36 = .ok (.invokevirtual 72, 3) := by decide +kernel
theorem dX8_settle_39 : decode cX8_settle 39 = .ok (.return_, 1) := by decide +kernel
theorem dX8_end_0 : decode cX8_end 0 = .ok (.aload_n 0, 1) := by decide +kernel
theorem dX8_end_1 : decode cX8_end 1 = .ok (.getfield 33, 3) := by decide +kernel
theorem dX8_end_4 : decode cX8_end 4 = .ok (.iload_n 1, 1) := by decide +kernel
theorem dX8_end_5 : decode cX8_end 5 = .ok (.iload_n 2, 1) := by decide +kernel
theorem dX8_end_6 : decode cX8_end 6 = .ok (.iastore, 1) := by decide +kernel
theorem dX8_end_7 : decode cX8_end 7 = .ok (.aload_n 0, 1) := by decide +kernel
theorem dX8_end_8 : decode cX8_end 8 = .ok (.getfield 36, 3) := by decide +kernel
theorem dX8_end_11 : decode cX8_end 11 = .ok (.iload_n 1, 1) := by decide +kernel
theorem dX8_end_12 : decode cX8_end 12 = .ok (.iconst 0, 1) := by decide +kernel
theorem dX8_end_13 : decode cX8_end 13 = .ok (.iastore, 1) := by decide +kernel
theorem dX8_end_14 : decode cX8_end 14 = .ok (.aload_n 0, 1) := by decide +kernel
theorem dX8_end_15 : decode cX8_end 15 = .ok (.getfield 42, 3) := by decide +kernel
theorem dX8_end_18 : decode cX8_end 18 = .ok (.iload_n 1, 1) := by decide +kernel
theorem dX8_end_19 : decode cX8_end 19 = .ok (.iconst 0, 1) := by decide +kernel
theorem dX8_end_20 : decode cX8_end 20 = .ok (.iastore, 1) := by decide +kernel
theorem dX8_end_21 : decode cX8_end 21 = .ok (.return_, 1) := by decide +kernel
theorem dX8_bury_0 : decode cX8_bury 0 = .ok (.aload_n 0, 1) := by decide +kernel
theorem dX8_bury_1 : decode cX8_bury 1 = .ok (.dup, 1) := by decide +kernel
theorem dX8_bury_2 : decode cX8_bury 2 = .ok (.getfield 55, 3) := by decide +kernel
theorem dX8_bury_5 : decode cX8_bury 5 = .ok (.iconst 1, 1) := by decide +kernel
theorem dX8_bury_6 : decode cX8_bury 6 = .ok (.iload_n 1, 1) := by decide +kernel
theorem dX8_bury_7 : decode cX8_bury 7 = .ok (.ishl, 1) := by decide +kernel
theorem dX8_bury_8 : decode cX8_bury 8 = .ok (.iconst (-1), 1) := by decide +kernel
theorem dX8_bury_9 : decode cX8_bury 9 = .ok (.ixor, 1) := by decide +kernel
theorem dX8_bury_10 : decode cX8_bury 10 = .ok (.iand, 1) := by decide +kernel
theorem dX8_bury_11 : decode cX8_bury 11 = .ok (.putfield 55, 3) := by decide +kernel
theorem dX8_bury_14 : decode cX8_bury 14 = .ok (.aload_n 0, 1) := by decide +kernel
theorem dX8_bury_15 : decode cX8_bury 15 = .ok (.iconst 1, 1) := by decide +kernel
theorem dX8_bury_16 : decode cX8_bury 16 = .ok (.iload_n 1, 1) := by decide +kernel
theorem dX8_bury_17 : decode cX8_bury 17 = .ok (.ishl, 1) := by decide +kernel
theorem dX8_bury_18 : decode cX8_bury 18 = .ok (.invokevirtual 75, 3) := by decide +kernel
theorem dX8_bury_21 : decode cX8_bury 21 = .ok (.return_, 1) := by decide +kernel
theorem dX8_forgetAll_0 : decode cX8_forgetAll 0 = .ok (.iconst 0, 1) := by decide +kernel
theorem dX8_forgetAll_1 : decode cX8_forgetAll 1 = .ok (.istore_n 2, 1) := by decide +kernel
theorem dX8_forgetAll_2 : decode cX8_forgetAll 2 = .ok (.iload_n 2, 1) := by decide +kernel
theorem dX8_forgetAll_3 : decode cX8_forgetAll 3 = .ok (.aload_n 0, 1) := by decide +kernel
theorem dX8_forgetAll_4 : decode cX8_forgetAll 4 = .ok (.getfield 42, 3) := by decide +kernel
theorem dX8_forgetAll_7 : decode cX8_forgetAll 7 = .ok (.arraylength, 1) := by decide +kernel
theorem dX8_forgetAll_8 : decode cX8_forgetAll 8 = .ok (.if_icmp .ge 21, 3) := by decide +kernel
theorem dX8_forgetAll_11 : decode cX8_forgetAll 11 = .ok (.aload_n 0, 1) := by decide +kernel
theorem dX8_forgetAll_12 : decode cX8_forgetAll 12 = .ok (.getfield 42, 3) := by decide +kernel
theorem dX8_forgetAll_15 : decode cX8_forgetAll 15 = .ok (.iload_n 2, 1) := by decide +kernel
theorem dX8_forgetAll_16 : decode cX8_forgetAll 16 = .ok (.dup2, 1) := by decide +kernel
theorem dX8_forgetAll_17 : decode cX8_forgetAll 17 = .ok (.iaload, 1) := by decide +kernel
theorem dX8_forgetAll_18 : decode cX8_forgetAll 18 = .ok (.iload_n 1, 1) := by decide +kernel
theorem dX8_forgetAll_19 : decode cX8_forgetAll 19 = .ok (.iconst (-1), 1) := by decide +kernel
theorem dX8_forgetAll_20 : decode cX8_forgetAll 20 = .ok (.ixor, 1) := by decide +kernel
theorem dX8_forgetAll_21 : decode cX8_forgetAll 21 = .ok (.iand, 1) := by decide +kernel
theorem dX8_forgetAll_22 : decode cX8_forgetAll 22 = .ok (.iastore, 1) := by decide +kernel
theorem dX8_forgetAll_23 : decode cX8_forgetAll 23 = .ok (.iinc 2 1, 3) := by decide +kernel
theorem dX8_forgetAll_26 : decode cX8_forgetAll 26 = .ok (.goto (-24), 3) := by decide +kernel
theorem dX8_forgetAll_29 : decode cX8_forgetAll 29 = .ok (.return_, 1) := by decide +kernel
theorem dX8_tellAll_0 : decode cX8_tellAll 0 = .ok (.iconst 0, 1) := by decide +kernel
theorem dX8_tellAll_1 : decode cX8_tellAll 1 = .ok (.istore_n 1, 1) := by decide +kernel
theorem dX8_tellAll_2 : decode cX8_tellAll 2 = .ok (.iload_n 1, 1) := by decide +kernel
theorem dX8_tellAll_3 : decode cX8_tellAll 3 = .ok (.aload_n 0, 1) := by decide +kernel
theorem dX8_tellAll_4 : decode cX8_tellAll 4 = .ok (.getfield 51, 3) := by decide +kernel
theorem dX8_tellAll_7 : decode cX8_tellAll 7 = .ok (.if_icmp .ge 29, 3) := by decide +kernel
theorem dX8_tellAll_10 : decode cX8_tellAll 10 = .ok (.aload_n 0, 1) := by decide +kernel
theorem dX8_tellAll_11 : decode cX8_tellAll 11 = .ok (.getfield 33, 3) := by decide +kernel
theorem dX8_tellAll_14 : decode cX8_tellAll 14 = .ok (.iload_n 1, 1) := by decide +kernel
theorem dX8_tellAll_15 : decode cX8_tellAll 15 = .ok (.iaload, 1) := by decide +kernel
theorem dX8_tellAll_16 : decode cX8_tellAll 16 = .ok (.iconst 1, 1) := by decide +kernel
theorem dX8_tellAll_17 : decode cX8_tellAll 17 = .ok (.if_icmp .ne 13, 3) := by decide +kernel
theorem dX8_tellAll_20 : decode cX8_tellAll 20 = .ok (.aload_n 0, 1) := by decide +kernel
theorem dX8_tellAll_21 : decode cX8_tellAll 21 = .ok (.getfield 42, 3) := by decide +kernel
theorem dX8_tellAll_24 : decode cX8_tellAll 24 = .ok (.iload_n 1, 1) := by decide +kernel
theorem dX8_tellAll_25 : decode cX8_tellAll 25 = .ok (.aload_n 0, 1) := by decide +kernel
theorem dX8_tellAll_26 : decode cX8_tellAll 26 = .ok (.getfield 55, 3) := by decide +kernel
theorem dX8_tellAll_29 : decode cX8_tellAll 29 = .ok (.iastore, 1) := by decide +kernel
theorem dX8_tellAll_30 : decode cX8_tellAll 30 = .ok (.iinc 1 1, 3) := by decide +kernel
theorem dX8_tellAll_33 : decode cX8_tellAll 33 = .ok (.goto (-31), 3) := by decide +kernel
theorem dX8_tellAll_36 : decode cX8_tellAll 36 = .ok (.return_, 1) := by decide +kernel
theorem dX8_drawNumber_0 : decode cX8_drawNumber 0 = .ok (.aload_n 0, 1) := by decide +kernel
theorem dX8_drawNumber_1 : decode cX8_drawNumber 1 = .ok (.aload_n 0, 1) := by decide +kernel
theorem dX8_drawNumber_2 : decode cX8_drawNumber 2 = .ok (.getfield 61, 3) := by decide +kernel
theorem dX8_drawNumber_5 : decode cX8_drawNumber 5 = .ok (.i2l, 1) := by decide +kernel
theorem dX8_drawNumber_6 : decode cX8_drawNumber 6 = .ok (.ldc2_w 79, 3) := by decide +kernel
theorem dX8_drawNumber_9 : decode cX8_drawNumber 9 = .ok (.lmul, 1) := by decide +kernel
theorem dX8_drawNumber_10 : decode cX8_drawNumber 10 = .ok (.ldc2_w 81, 3) := by decide +kernel
theorem dX8_drawNumber_13 : decode cX8_drawNumber 13 = .ok (.ladd, 1) := by decide +kernel
theorem dX8_drawNumber_14 : decode cX8_drawNumber 14 = .ok (.ldc2_w 83, 3) := by decide +kernel
theorem dX8_drawNumber_17 : decode cX8_drawNumber 17 = .ok (.land, 1) := by decide +kernel
theorem dX8_drawNumber_18 : decode cX8_drawNumber 18 = .ok (.l2i, 1) := by decide +kernel
theorem dX8_drawNumber_19 : decode cX8_drawNumber 19 = .ok (.putfield 61, 3) := by decide +kernel
theorem dX8_drawNumber_22 : decode cX8_drawNumber 22 = .ok (.aload_n 0, 1) := by decide +kernel
theorem dX8_drawNumber_23 : decode cX8_drawNumber 23 = .ok (.getfield 61, 3) := by decide +kernel
theorem dX8_drawNumber_26 : decode cX8_drawNumber 26 = .ok (.ldc 85, 2) := by decide +kernel
theorem dX8_drawNumber_28 : decode cX8_drawNumber 28 = .ok (.idiv, 1) := by decide +kernel
theorem dX8_drawNumber_29 : decode cX8_drawNumber 29 = .ok (.ireturn, 1) := by decide +kernel
theorem dX8_debtsKnownBy_0 : decode cX8_debtsKnownBy 0 = .ok (.iconst 0, 1) := by decide +kernel
theorem dX8_debtsKnownBy_1 : decode cX8_debtsKnownBy 1 = .ok (.istore_n 2, 1) := by decide +kernel
theorem dX8_debtsKnownBy_2 : decode cX8_debtsKnownBy 2 = .ok (.iconst 0, 1) := by decide +kernel
theorem dX8_debtsKnownBy_3 : decode cX8_debtsKnownBy 3 = .ok (.istore_n 3, 1) := by decide +kernel
theorem dX8_debtsKnownBy_4 : decode cX8_debtsKnownBy 4 = .ok (.iload_n 3, 1) := by decide +kernel
theorem dX8_debtsKnownBy_5 : decode cX8_debtsKnownBy 5 = .ok (.aload_n 0, 1) := by decide +kernel
theorem dX8_debtsKnownBy_6 : decode cX8_debtsKnownBy 6 = .ok (.getfield 51, 3) := by decide +kernel
theorem dX8_debtsKnownBy_9 : decode cX8_debtsKnownBy 9 = .ok (.if_icmp .ge 24, 3) := by decide +kernel
theorem dX8_debtsKnownBy_12 : decode cX8_debtsKnownBy 12 = .ok (.iload_n 2, 1) := by decide +kernel
theorem dX8_debtsKnownBy_13 : decode cX8_debtsKnownBy 13 = .ok (.aload_n 0, 1) := by decide +kernel
theorem dX8_debtsKnownBy_14 : decode cX8_debtsKnownBy 14 = .ok (.getfield 42, 3) := by decide +kernel
theorem dX8_debtsKnownBy_17 : decode cX8_debtsKnownBy 17 = .ok (.iload_n 3, 1) := by decide +kernel
theorem dX8_debtsKnownBy_18 : decode cX8_debtsKnownBy 18 = .ok (.iaload, 1) := by decide +kernel
theorem dX8_debtsKnownBy_19 : decode cX8_debtsKnownBy 19 = .ok (.iload_n 1, 1) := by decide +kernel
theorem dX8_debtsKnownBy_20 : decode cX8_debtsKnownBy 20 = .ok (.ishr, 1) := by decide +kernel
theorem dX8_debtsKnownBy_21 : decode cX8_debtsKnownBy 21 = .ok (.iconst 1, 1) := by decide +kernel
theorem dX8_debtsKnownBy_22 : decode cX8_debtsKnownBy 22 = .ok (.iand, 1) := by decide +kernel
theorem dX8_debtsKnownBy_23 : decode cX8_debtsKnownBy 23 = .ok (.iload_n 3, 1) := by decide +kernel
theorem dX8_debtsKnownBy_24 : decode cX8_debtsKnownBy 24 = .ok (.ishl, 1) := by decide +kernel
theorem dX8_debtsKnownBy_25 : decode cX8_debtsKnownBy 25 = .ok (.ior, 1) := by decide +kernel
theorem dX8_debtsKnownBy_26 : decode cX8_debtsKnownBy 26 = .ok (.istore_n 2, 1) := by decide +kernel
theorem dX8_debtsKnownBy_27 : decode cX8_debtsKnownBy 27 = .ok (.iinc 3 1, 3) := by decide +kernel
theorem dX8_debtsKnownBy_30 : decode cX8_debtsKnownBy 30 = .ok (.goto (-26), 3) := by decide +kernel
theorem dX8_debtsKnownBy_33 : decode cX8_debtsKnownBy 33 = .ok (.iload_n 2, 1) := by decide +kernel
theorem dX8_debtsKnownBy_34 : decode cX8_debtsKnownBy 34 = .ok (.ireturn, 1) := by decide +kernel
theorem dX8_debtsKnownOnlyBy_0 : decode cX8_debtsKnownOnlyBy 0 = .ok (.iconst 0, 1) := by decide +kernel
theorem dX8_debtsKnownOnlyBy_1 : decode cX8_debtsKnownOnlyBy 1 = .ok (.istore_n 2, 1) := by decide +kernel
theorem dX8_debtsKnownOnlyBy_2 : decode cX8_debtsKnownOnlyBy 2 = .ok (.iconst 0, 1) := by decide +kernel
theorem dX8_debtsKnownOnlyBy_3 : decode cX8_debtsKnownOnlyBy 3 = .ok (.istore_n 3, 1) := by decide +kernel
theorem dX8_debtsKnownOnlyBy_4 : decode cX8_debtsKnownOnlyBy 4 = .ok (.iload_n 3, 1) := by decide +kernel
theorem dX8_debtsKnownOnlyBy_5 : decode cX8_debtsKnownOnlyBy 5 = .ok (.aload_n 0, 1) := by decide +kernel
theorem dX8_debtsKnownOnlyBy_6 : decode cX8_debtsKnownOnlyBy 6 = .ok (.getfield 51, 3) := by decide +kernel
theorem dX8_debtsKnownOnlyBy_9 : decode cX8_debtsKnownOnlyBy 9 = .ok (.if_icmp .ge 27, 3) := by decide +kernel
theorem dX8_debtsKnownOnlyBy_12 : decode cX8_debtsKnownOnlyBy 12 = .ok (.aload_n 0, 1) := by decide +kernel
theorem dX8_debtsKnownOnlyBy_13 : decode cX8_debtsKnownOnlyBy 13 = .ok (.getfield 42, 3) := by decide +kernel
theorem dX8_debtsKnownOnlyBy_16 : decode cX8_debtsKnownOnlyBy 16 = .ok (.iload_n 3, 1) := by decide +kernel
theorem dX8_debtsKnownOnlyBy_17 : decode cX8_debtsKnownOnlyBy 17 = .ok (.iaload, 1) := by decide +kernel
theorem dX8_debtsKnownOnlyBy_18 : decode cX8_debtsKnownOnlyBy 18 = .ok (.iconst 1, 1) := by decide +kernel
theorem dX8_debtsKnownOnlyBy_19 : decode cX8_debtsKnownOnlyBy 19 = .ok (.iload_n 1, 1) := by decide +kernel
theorem dX8_debtsKnownOnlyBy_20 : decode cX8_debtsKnownOnlyBy 20 = .ok (.ishl, 1) := by decide +kernel
theorem dX8_debtsKnownOnlyBy_21 : decode cX8_debtsKnownOnlyBy 21 = .ok (.if_icmp .ne 9, 3) := by decide +kernel
theorem dX8_debtsKnownOnlyBy_24 : decode cX8_debtsKnownOnlyBy 24 = .ok (.iload_n 2, 1) := by decide +kernel
theorem dX8_debtsKnownOnlyBy_25 : decode cX8_debtsKnownOnlyBy 25 = .ok (.iconst 1, 1) := by decide +kernel
theorem dX8_debtsKnownOnlyBy_26 : decode cX8_debtsKnownOnlyBy 26 = .ok (.iload_n 3, 1) := by decide +kernel
theorem dX8_debtsKnownOnlyBy_27 : decode cX8_debtsKnownOnlyBy 27 = .ok (.ishl, 1) := by decide +kernel
theorem dX8_debtsKnownOnlyBy_28 : decode cX8_debtsKnownOnlyBy 28 = .ok (.ior, 1) := by decide +kernel
theorem dX8_debtsKnownOnlyBy_29 : decode cX8_debtsKnownOnlyBy 29 = .ok (.istore_n 2, 1) := by decide +kernel
theorem dX8_debtsKnownOnlyBy_30 : decode cX8_debtsKnownOnlyBy 30 = .ok (.iinc 3 1, 3) := by decide +kernel
theorem dX8_debtsKnownOnlyBy_33 : decode cX8_debtsKnownOnlyBy 33 = .ok (.goto (-29), 3) := by decide +kernel
theorem dX8_debtsKnownOnlyBy_36 : decode cX8_debtsKnownOnlyBy 36 = .ok (.iload_n 2, 1) := by decide +kernel
theorem dX8_debtsKnownOnlyBy_37 : decode cX8_debtsKnownOnlyBy 37 = .ok (.ireturn, 1) := by decide +kernel
theorem dX8_oldestOf_0 : decode cX8_oldestOf 0 = .ok (.iconst (-1), 1) := by decide +kernel
theorem dX8_oldestOf_1 : decode cX8_oldestOf 1 = .ok (.istore_n 2, 1) := by decide +kernel
theorem dX8_oldestOf_2 : decode cX8_oldestOf 2 = .ok (.iconst (-1), 1) := by decide +kernel
theorem dX8_oldestOf_3 : decode cX8_oldestOf 3 = .ok (.istore_n 3, 1) := by decide +kernel
theorem dX8_oldestOf_4 : decode cX8_oldestOf 4 = .ok (.iconst 0, 1) := by decide +kernel
theorem dX8_oldestOf_5 : decode cX8_oldestOf 5 = .ok (.istore 4, 2) := by decide +kernel
theorem dX8_oldestOf_7 : decode cX8_oldestOf 7 = .ok (.iload 4, 2) := by decide +kernel
theorem dX8_oldestOf_9 : decode cX8_oldestOf 9 = .ok (.bipush 6, 2) := by decide +kernel
theorem dX8_oldestOf_11 : decode cX8_oldestOf 11 = .ok (.if_icmp .ge 45, 3) := by decide +kernel
theorem dX8_oldestOf_14 : decode cX8_oldestOf 14 = .ok (.aload_n 0, 1) := by decide +kernel
theorem dX8_oldestOf_15 : decode cX8_oldestOf 15 = .ok (.getfield 42, 3) := by decide +kernel
theorem dX8_oldestOf_18 : decode cX8_oldestOf 18 = .ok (.iload_n 1, 1) := by decide +kernel
theorem dX8_oldestOf_19 : decode cX8_oldestOf 19 = .ok (.iaload, 1) := by decide +kernel
theorem dX8_oldestOf_20 : decode cX8_oldestOf 20 = .ok (.iload 4, 2) := by decide +kernel
theorem dX8_oldestOf_22 : decode cX8_oldestOf 22 = .ok (.ishr, 1) := by decide +kernel
theorem dX8_oldestOf_23 : decode cX8_oldestOf 23 = .ok (.iconst 1, 1) := by decide +kernel
theorem dX8_oldestOf_24 : decode cX8_oldestOf 24 = .ok (.iand, 1) := by decide +kernel
theorem dX8_oldestOf_25 : decode cX8_oldestOf 25 = .ok (.ifCond .eq 25, 3) := by decide +kernel
theorem dX8_oldestOf_28 : decode cX8_oldestOf 28 = .ok (.aload_n 0, 1) := by decide +kernel
theorem dX8_oldestOf_29 : decode cX8_oldestOf 29 = .ok (.getfield 15, 3) := by decide +kernel
theorem dX8_oldestOf_32 : decode cX8_oldestOf 32 = .ok (.iload 4, 2) := by decide +kernel
theorem dX8_oldestOf_34 : decode cX8_oldestOf 34 = .ok (.iaload, 1) := by decide +kernel
theorem dX8_oldestOf_35 : decode cX8_oldestOf 35 = .ok (.iload_n 3, 1) := by decide +kernel
theorem dX8_oldestOf_36 : decode cX8_oldestOf 36 = .ok (.if_icmp .le 14, 3) := by decide +kernel
theorem dX8_oldestOf_39 : decode cX8_oldestOf 39 = .ok (.iload 4, 2) := by decide +kernel
theorem dX8_oldestOf_41 : decode cX8_oldestOf 41 = .ok (.istore_n 2, 1) := by decide +kernel
theorem dX8_oldestOf_42 : decode cX8_oldestOf 42 = .ok (.aload_n 0, 1) := by decide +kernel
theorem dX8_oldestOf_43 : decode cX8_oldestOf 43 = .ok (.getfield 15, 3) := by decide +kernel
theorem dX8_oldestOf_46 : decode cX8_oldestOf 46 = .ok (.iload 4, 2) := by decide +kernel
theorem dX8_oldestOf_48 : decode cX8_oldestOf 48 = .ok (.iaload, 1) := by decide +kernel
theorem dX8_oldestOf_49 : decode cX8_oldestOf 49 = .ok (.istore_n 3, 1) := by decide +kernel
theorem dX8_oldestOf_50 : decode cX8_oldestOf 50 = .ok (.iinc 4 1, 3) := by decide +kernel
theorem dX8_oldestOf_53 : decode cX8_oldestOf 53 = .ok (.goto (-46), 3) := by decide +kernel
theorem dX8_oldestOf_56 : decode cX8_oldestOf 56 = .ok (.iload_n 2, 1) := by decide +kernel
theorem dX8_oldestOf_57 : decode cX8_oldestOf 57 = .ok (.ireturn, 1) := by decide +kernel
theorem dX8_netOf_0 : decode cX8_netOf 0 = .ok (.iconst 0, 1) := by decide +kernel
theorem dX8_netOf_1 : decode cX8_netOf 1 = .ok (.istore_n 2, 1) := by decide +kernel
theorem dX8_netOf_2 : decode cX8_netOf 2 = .ok (.iconst 0, 1) := by decide +kernel
theorem dX8_netOf_3 : decode cX8_netOf 3 = .ok (.istore_n 3, 1) := by decide +kernel
theorem dX8_netOf_4 : decode cX8_netOf 4 = .ok (.iload_n 3, 1) := by decide +kernel
theorem dX8_netOf_5 : decode cX8_netOf 5 = .ok (.aload_n 0, 1) := by decide +kernel
theorem dX8_netOf_6 : decode cX8_netOf 6 = .ok (.getfield 51, 3) := by decide +kernel
theorem dX8_netOf_9 : decode cX8_netOf 9 = .ok (.if_icmp .ge 50, 3) := by decide +kernel
theorem dX8_netOf_12 : decode cX8_netOf 12 = .ok (.aload_n 0, 1) := by decide +kernel
theorem dX8_netOf_13 : decode cX8_netOf 13 = .ok (.getfield 18, 3) := by decide +kernel
theorem dX8_netOf_16 : decode cX8_netOf 16 = .ok (.iload_n 3, 1) := by decide +kernel
theorem dX8_netOf_17 : decode cX8_netOf 17 = .ok (.iaload, 1) := by decide +kernel
theorem dX8_netOf_18 : decode cX8_netOf 18 = .ok (.iload_n 1, 1) := by decide +kernel
theorem dX8_netOf_19 : decode cX8_netOf 19 = .ok (.if_icmp .ne 15, 3) := by decide +kernel
theorem dX8_netOf_22 : decode cX8_netOf 22 = .ok (.iload_n 2, 1) := by decide +kernel
theorem dX8_netOf_23 : decode cX8_netOf 23 = .ok (.aload_n 0, 1) := by decide +kernel
theorem dX8_netOf_24 : decode cX8_netOf 24 = .ok (.getfield 36, 3) := by decide +kernel
theorem dX8_netOf_27 : decode cX8_netOf 27 = .ok (.iload_n 3, 1) := by decide +kernel
theorem dX8_netOf_28 : decode cX8_netOf 28 = .ok (.iaload, 1) := by decide +kernel
theorem dX8_netOf_29 : decode cX8_netOf 29 = .ok (.iadd, 1) := by decide +kernel
theorem dX8_netOf_30 : decode cX8_netOf 30 = .ok (.istore_n 2, 1) := by decide +kernel
theorem dX8_netOf_31 : decode cX8_netOf 31 = .ok (.goto 22, 3) := by decide +kernel
theorem dX8_netOf_34 : decode cX8_netOf 34 = .ok (.aload_n 0, 1) := by decide +kernel
theorem dX8_netOf_35 : decode cX8_netOf 35 = .ok (.getfield 21, 3) := by decide +kernel
theorem dX8_netOf_38 : decode cX8_netOf 38 = .ok (.iload_n 3, 1) := by decide +kernel
theorem dX8_netOf_39 : decode cX8_netOf 39 = .ok (.iaload, 1) := by decide +kernel
theorem dX8_netOf_40 : decode cX8_netOf 40 = .ok (.iload_n 1, 1) := by decide +kernel
theorem dX8_netOf_41 : decode cX8_netOf 41 = .ok (.if_icmp .ne 12, 3) := by decide +kernel
theorem dX8_netOf_44 : decode cX8_netOf 44 = .ok (.iload_n 2, 1) := by decide +kernel
theorem dX8_netOf_45 : decode cX8_netOf 45 = .ok (.aload_n 0, 1) := by decide +kernel
theorem dX8_netOf_46 : decode cX8_netOf 46 = .ok (.getfield 36, 3) := by decide +kernel
theorem dX8_netOf_49 : decode cX8_netOf 49 = .ok (.iload_n 3, 1) := by decide +kernel
theorem dX8_netOf_50 : decode cX8_netOf 50 = .ok (.iaload, 1) := by decide +kernel
theorem dX8_netOf_51 : decode cX8_netOf 51 = .ok (.isub, 1) := by decide +kernel
theorem dX8_netOf_52 : decode cX8_netOf 52 = .ok (.istore_n 2, 1) := by decide +kernel
theorem dX8_netOf_53 : decode cX8_netOf 53 = .ok (.iinc 3 1, 3) := by decide +kernel
theorem dX8_netOf_56 : decode cX8_netOf 56 = .ok (.goto (-52), 3) := by decide +kernel
theorem dX8_netOf_59 : decode cX8_netOf 59 = .ok (.iload_n 2, 1) := by decide +kernel
theorem dX8_netOf_60 : decode cX8_netOf 60 = .ok (.ireturn, 1) := by decide +kernel
theorem dX8_countOf_0 : decode cX8_countOf 0 = .ok (.iconst 0, 1) := by decide +kernel
theorem dX8_countOf_1 : decode cX8_countOf 1 = .ok (.istore_n 2, 1) := by decide +kernel
theorem dX8_countOf_2 : decode cX8_countOf 2 = .ok (.iconst 0, 1) := by decide +kernel
theorem dX8_countOf_3 : decode cX8_countOf 3 = .ok (.istore_n 3, 1) := by decide +kernel
theorem dX8_countOf_4 : decode cX8_countOf 4 = .ok (.iload_n 3, 1) := by decide +kernel
theorem dX8_countOf_5 : decode cX8_countOf 5 = .ok (.aload_n 0, 1) := by decide +kernel
theorem dX8_countOf_6 : decode cX8_countOf 6 = .ok (.getfield 51, 3) := by decide +kernel
theorem dX8_countOf_9 : decode cX8_countOf 9 = .ok (.if_icmp .ge 27, 3) := by decide +kernel
theorem dX8_countOf_12 : decode cX8_countOf 12 = .ok (.iload_n 2, 1) := by decide +kernel
theorem dX8_countOf_13 : decode cX8_countOf 13 = .ok (.aload_n 0, 1) := by decide +kernel
theorem dX8_countOf_14 : decode cX8_countOf 14 = .ok (.getfield 33, 3) := by decide +kernel
theorem dX8_countOf_17 : decode cX8_countOf 17 = .ok (.iload_n 3, 1) := by decide +kernel
theorem dX8_countOf_18 : decode cX8_countOf 18 = .ok (.iaload, 1) := by decide +kernel
theorem dX8_countOf_19 : decode cX8_countOf 19 = .ok (.iload_n 1, 1) := by decide +kernel
theorem dX8_countOf_20 : decode cX8_countOf 20 = .ok (.if_icmp .ne 7, 3) := by decide +kernel
theorem dX8_countOf_23 : decode cX8_countOf 23 = .ok (.iconst 1, 1) := by decide +kernel
theorem dX8_countOf_24 : decode cX8_countOf 24 = .ok (.goto 4, 3) := by decide +kernel
theorem dX8_countOf_27 : decode cX8_countOf 27 = .ok (.iconst 0, 1) := by decide +kernel
theorem dX8_countOf_28 : decode cX8_countOf 28 = .ok (.iadd, 1) := by decide +kernel
theorem dX8_countOf_29 : decode cX8_countOf 29 = .ok (.istore_n 2, 1) := by decide +kernel
theorem dX8_countOf_30 : decode cX8_countOf 30 = .ok (.iinc 3 1, 3) := by decide +kernel
theorem dX8_countOf_33 : decode cX8_countOf 33 = .ok (.goto (-29), 3) := by decide +kernel
theorem dX8_countOf_36 : decode cX8_countOf 36 = .ok (.iload_n 2, 1) := by decide +kernel
theorem dX8_countOf_37 : decode cX8_countOf 37 = .ok (.ireturn, 1) := by decide +kernel
theorem dX8_owedInSum_0 : decode cX8_owedInSum 0 = .ok (.iconst 0, 1) := by decide +kernel
theorem dX8_owedInSum_1 : decode cX8_owedInSum 1 = .ok (.istore_n 1, 1) := by decide +kernel
theorem dX8_owedInSum_2 : decode cX8_owedInSum 2 = .ok (.iconst 0, 1) := by decide +kernel
theorem dX8_owedInSum_3 : decode cX8_owedInSum 3 = .ok (.istore_n 2, 1) := by decide +kernel
theorem dX8_owedInSum_4 : decode cX8_owedInSum 4 = .ok (.iload_n 2, 1) := by decide +kernel
theorem dX8_owedInSum_5 : decode cX8_owedInSum 5 = .ok (.aload_n 0, 1) := by decide +kernel
theorem dX8_owedInSum_6 : decode cX8_owedInSum 6 = .ok (.getfield 51, 3) := by decide +kernel
theorem dX8_owedInSum_9 : decode cX8_owedInSum 9 = .ok (.if_icmp .ge 18, 3) := by decide +kernel
theorem dX8_owedInSum_12 : decode cX8_owedInSum 12 = .ok (.iload_n 1, 1) := by decide +kernel
theorem dX8_owedInSum_13 : decode cX8_owedInSum 13 = .ok (.aload_n 0, 1) := by decide +kernel
theorem dX8_owedInSum_14 : decode cX8_owedInSum 14 = .ok (.getfield 36, 3) := by decide +kernel
theorem dX8_owedInSum_17 : decode cX8_owedInSum 17 = .ok (.iload_n 2, 1) := by decide +kernel
theorem dX8_owedInSum_18 : decode cX8_owedInSum 18 = .ok (.iaload, 1) := by decide +kernel
theorem dX8_owedInSum_19 : decode cX8_owedInSum 19 = .ok (.iadd, 1) := by decide +kernel
theorem dX8_owedInSum_20 : decode cX8_owedInSum 20 = .ok (.istore_n 1, 1) := by decide +kernel
theorem dX8_owedInSum_21 : decode cX8_owedInSum 21 = .ok (.iinc 2 1, 3) := by decide +kernel
theorem dX8_owedInSum_24 : decode cX8_owedInSum 24 = .ok (.goto (-20), 3) := by decide +kernel
theorem dX8_owedInSum_27 : decode cX8_owedInSum 27 = .ok (.iload_n 1, 1) := by decide +kernel
theorem dX8_owedInSum_28 : decode cX8_owedInSum 28 = .ok (.ireturn, 1) := by decide +kernel
theorem dX8_pursesInSum_0 : decode cX8_pursesInSum 0 = .ok (.iconst 0, 1) := by decide +kernel
theorem dX8_pursesInSum_1 : decode cX8_pursesInSum 1 = .ok (.istore_n 2, 1) := by decide +kernel
theorem dX8_pursesInSum_2 : decode cX8_pursesInSum 2 = .ok (.iconst 0, 1) := by decide +kernel
theorem dX8_pursesInSum_3 : decode cX8_pursesInSum 3 = .ok (.istore_n 3, 1) := by decide +kernel
theorem dX8_pursesInSum_4 : decode cX8_pursesInSum 4 = .ok (.iload_n 3, 1) := by decide +kernel
theorem dX8_pursesInSum_5 : decode cX8_pursesInSum 5 = .ok (.iload_n 1, 1) := by decide +kernel
theorem dX8_pursesInSum_6 : decode cX8_pursesInSum 6 = .ok (.if_icmp .ge 24, 3) := by decide +kernel
theorem dX8_pursesInSum_9 : decode cX8_pursesInSum 9 = .ok (.iload_n 3, 1) := by decide +kernel
theorem dX8_pursesInSum_10 : decode cX8_pursesInSum 10 = .ok (.bipush 6, 2) := by decide +kernel
theorem dX8_pursesInSum_12 : decode cX8_pursesInSum 12 = .ok (.if_icmp .ge 18, 3) := by decide +kernel
theorem dX8_pursesInSum_15 : decode cX8_pursesInSum 15 = .ok (.iload_n 2, 1) := by decide +kernel
theorem dX8_pursesInSum_16 : decode cX8_pursesInSum 16 = .ok (.aload_n 0, 1) := by decide +kernel
theorem dX8_pursesInSum_17 : decode cX8_pursesInSum 17 = .ok (.getfield 9, 3) := by decide +kernel
theorem dX8_pursesInSum_20 : decode cX8_pursesInSum 20 = .ok (.iload_n 3, 1) := by decide +kernel
theorem dX8_pursesInSum_21 : decode cX8_pursesInSum 21 = .ok (.iaload, 1) := by decide +kernel
theorem dX8_pursesInSum_22 : decode cX8_pursesInSum 22 = .ok (.iadd, 1) := by decide +kernel
theorem dX8_pursesInSum_23 : decode cX8_pursesInSum 23 = .ok (.istore_n 2, 1) := by decide +kernel
theorem dX8_pursesInSum_24 : decode cX8_pursesInSum 24 = .ok (.iinc 3 1, 3) := by decide +kernel
theorem dX8_pursesInSum_27 : decode cX8_pursesInSum 27 = .ok (.goto (-23), 3) := by decide +kernel
theorem dX8_pursesInSum_30 : decode cX8_pursesInSum 30 = .ok (.iload_n 2, 1) := by decide +kernel
theorem dX8_pursesInSum_31 : decode cX8_pursesInSum 31 = .ok (.ireturn, 1) := by decide +kernel
