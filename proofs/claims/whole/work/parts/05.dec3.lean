theorem dX9_feed_0 : decode cX9_feed 0 = .ok (.aload_n 0, 1) := by decide +kernel
theorem dX9_feed_1 : decode cX9_feed 1 = .ok (.getfield 72, 3) := by decide +kernel
theorem dX9_feed_4 : decode cX9_feed 4 = .ok (.bipush 20, 2) := by decide +kernel
theorem dX9_feed_6 : decode cX9_feed 6 = .ok (.iadd, 1) := by decide +kernel
theorem dX9_feed_7 : decode cX9_feed 7 = .ok (.sipush 700, 3) := by decide +kernel
theorem dX9_feed_10 : decode cX9_feed 10 = .ok (.if_icmp .le 5, 3) := by decide +kernel
theorem dX9_feed_13 : decode cX9_feed 13 = .ok (.iconst (-1), 1) := by decide +kernel
theorem dX9_feed_14 : decode cX9_feed 14 = .ok (.ireturn, 1) := by decide +kernel
theorem dX9_feed_15 : decode cX9_feed 15 = .ok (.aload_n 0, 1) := by decide +kernel
theorem dX9_feed_16 : decode cX9_feed 16 = .ok (.iload_n 1, 1) := by decide +kernel
theorem dX9_feed_17 : decode cX9_feed 17 = .ok (.invokevirtual 76, 3) := by decide +kernel
theorem dX9_feed_20 : decode cX9_feed 20 = .ok (.aload_n 0, 1) := by decide +kernel
theorem dX9_feed_21 : decode cX9_feed 21 = .ok (.iload_n 2, 1) := by decide +kernel
theorem dX9_feed_22 : decode cX9_feed 22 = .ok (.invokevirtual 76, 3) := by decide +kernel
theorem dX9_feed_25 : decode cX9_feed 25 = .ok (.aload_n 0, 1) := by decide +kernel
theorem dX9_feed_26 : decode cX9_feed 26 = .ok (.iload_n 3, 1) := by decide +kernel
theorem dX9_feed_27 : decode cX9_feed 27 = .ok (.invokevirtual 76, 3) := by decide +kernel
theorem dX9_feed_30 : decode cX9_feed 30 = .ok (.aload_n 0, 1) := by decide +kernel
theorem dX9_feed_31 : decode cX9_feed 31 = .ok (.iload 4, 2) := by decide +kernel
theorem dX9_feed_33 : decode cX9_feed 33 = .ok (.invokevirtual 76, 3) := by decide +kernel
theorem dX9_feed_36 : decode cX9_feed 36 = .ok (.aload_n 0, 1) := by decide +kernel
theorem dX9_feed_37 : decode cX9_feed 37 = .ok (.iload 5, 2) := by decide +kernel
theorem dX9_feed_39 : decode cX9_feed 39 = .ok (.invokevirtual 76, 3) := by decide +kernel
theorem dX9_feed_42 : decode cX9_feed 42 = .ok (.aload_n 0, 1) := by decide +kernel
theorem dX9_feed_43 : decode cX9_feed 43 = .ok (.getfield 72, 3) := by decide +kernel
theorem dX9_feed_46 : decode cX9_feed 46 = .ok (.ireturn, 1) := by decide +kernel
theorem dX9_addBytes_0 : decode cX9_addBytes 0 = .ok (.bipush 24, 2) := by decide +kernel
theorem dX9_addBytes_2 : decode cX9_addBytes 2 = .ok (.istore_n 2, 1) := by decide +kernel
theorem dX9_addBytes_3 : decode cX9_addBytes 3 = .ok (.iload_n 2, 1) := by decide +kernel
theorem dX9_addBytes_4 : decode cX9_addBytes 4 = .ok (.ifCond .lt 45, 3) := by decide +kernel
theorem dX9_addBytes_7 : decode cX9_addBytes 7 = .ok (.aload_n 0, 1) := by decide +kernel
theorem dX9_addBytes_8 : decode cX9_addBytes 8 = .ok (.getfield 72, 3) := by decide +kernel
theorem dX9_addBytes_11 : decode cX9_addBytes 11 = .ok (.sipush 700, 3) := by decide +kernel
theorem dX9_addBytes_14 : decode cX9_addBytes 14 = .ok (.if_icmp .ge 35, 3) := by decide +kernel
theorem dX9_addBytes_17 : decode cX9_addBytes 17 = .ok (.aload_n 0, 1) := by decide +kernel
theorem dX9_addBytes_18 : decode cX9_addBytes 18 = .ok (.getfield 11, 3) := by decide +kernel
theorem dX9_addBytes_21 : decode cX9_addBytes 21 = .ok (.aload_n 0, 1) := by decide +kernel
theorem dX9_addBytes_22 : decode cX9_addBytes 22 = .ok (.getfield 72, 3) := by decide +kernel
theorem dX9_addBytes_25 : decode cX9_addBytes 25 = .ok (.iload_n 1, 1) := by decide +kernel
theorem dX9_addBytes_26 : decode cX9_addBytes 26 = .ok (.iload_n 2, 1) := by decide +kernel
theorem dX9_addBytes_27 : decode cX9_addBytes 27 = .ok (.ishr, 1) := by decide +kernel
theorem dX9_addBytes_28 : decode cX9_addBytes 28 = .ok (.sipush 255, 3) := by decide +kernel
theorem dX9_addBytes_31 : decode cX9_addBytes 31 = .ok (.iand, 1) := by decide +kernel
theorem dX9_addBytes_32 : decode cX9_addBytes 32 = .ok (.iastore, 1) := by decide +kernel
theorem dX9_addBytes_33 : decode cX9_addBytes 33 = .ok (.aload_n 0, 1) := by decide +kernel
theorem dX9_addBytes_34 : decode cX9_addBytes 34 = .ok (.dup, 1) := by decide +kernel
theorem dX9_addBytes_35 : decode cX9_addBytes 35 = .ok (.getfield 72, 3) := by decide +kernel
theorem dX9_addBytes_38 : decode cX9_addBytes 38 = .ok (.iconst 1, 1) := by decide +kernel
theorem dX9_addBytes_39 : decode cX9_addBytes 39 = .ok (.iadd, 1) := by decide +kernel
theorem dX9_addBytes_40 : decode cX9_addBytes 40 = .ok (.putfield 72, 3) := by decide +kernel
theorem dX9_addBytes_43 : decode cX9_addBytes 43 = .ok (.iinc 2 (-8), 3) := by decide +kernel
theorem dX9_addBytes_46 : decode cX9_addBytes 46 = .ok (.goto (-43), 3) := by decide +kernel
theorem dX9_addBytes_49 : decode cX9_addBytes 49 = .ok (.return_, 1) := by decide +kernel
theorem dX9_text_0 : decode cX9_text 0 = .ok (.iload_n 1, 1) := by decide +kernel
theorem dX9_text_1 : decode cX9_text 1 = .ok (.ifCond .lt 11, 3) := by decide +kernel
theorem dX9_text_4 : decode cX9_text 4 = .ok (.iload_n 1, 1) := by decide +kernel
theorem dX9_text_5 : decode cX9_text 5 = .ok (.aload_n 0, 1) := by decide +kernel
theorem dX9_text_6 : decode cX9_text 6 = .ok (.getfield 72, 3) := by decide +kernel
theorem dX9_text_9 : decode cX9_text 9 = .ok (.if_icmp .le 6, 3) := by decide +kernel
theorem dX9_text_12 : decode cX9_text 12 = .ok (.bipush (-2), 2) := by decide +kernel
theorem dX9_text_14 : decode cX9_text 14 = .ok (.ireturn, 1) := by decide +kernel
theorem dX9_text_15 : decode cX9_text 15 = .ok (.aload_n 0, 1) := by decide +kernel
theorem dX9_text_16 : decode cX9_text 16 = .ok (.iconst 0, 1) := by decide +kernel
theorem dX9_text_17 : decode cX9_text 17 = .ok (.putfield 72, 3) := by decide +kernel
theorem dX9_text_20 : decode cX9_text 20 = .ok (.aload_n 0, 1) := by decide +kernel
theorem dX9_text_21 : decode cX9_text 21 = .ok (.getfield 18, 3) := by decide +kernel
theorem dX9_text_24 : decode cX9_text 24 = .ok (.aload_n 0, 1) := by decide +kernel
theorem dX9_text_25 : decode cX9_text 25 = .ok (.getfield 11, 3) := by decide +kernel
theorem dX9_text_28 : decode cX9_text 28 = .ok (.iload_n 1, 1) := by decide +kernel
theorem dX9_text_29 : decode cX9_text 29 = .ok (.invokevirtual 80, 3) := by decide +kernel
theorem dX9_text_32 : decode cX9_text 32 = .ok (.ifCond .ne 5, 3) := by decide +kernel
theorem dX9_text_35 : decode cX9_text 35 = .ok (.iconst (-1), 1) := by decide +kernel
theorem dX9_text_36 : decode cX9_text 36 = .ok (.ireturn, 1) := by decide +kernel
theorem dX9_text_37 : decode cX9_text 37 = .ok (.aload_n 0, 1) := by decide +kernel
theorem dX9_text_38 : decode cX9_text 38 = .ok (.aload_n 0, 1) := by decide +kernel
theorem dX9_text_39 : decode cX9_text 39 = .ok (.getfield 18, 3) := by decide +kernel
theorem dX9_text_42 : decode cX9_text 42 = .ok (.aload_n 0, 1) := by decide +kernel
theorem dX9_text_43 : decode cX9_text 43 = .ok (.getfield 25, 3) := by decide +kernel
theorem dX9_text_46 : decode cX9_text 46 = .ok (.invokevirtual 84, 3) := by decide +kernel
theorem dX9_text_49 : decode cX9_text 49 = .ok (.putfield 25, 3) := by decide +kernel
theorem dX9_text_52 : decode cX9_text 52 = .ok (.aload_n 0, 1) := by decide +kernel
theorem dX9_text_53 : decode cX9_text 53 = .ok (.getfield 32, 3) := by decide +kernel
theorem dX9_text_56 : decode cX9_text 56 = .ok (.aload_n 0, 1) := by decide +kernel
theorem dX9_text_57 : decode cX9_text 57 = .ok (.getfield 25, 3) := by decide +kernel
theorem dX9_text_60 : decode cX9_text 60 = .ok (.getfield 88, 3) := by decide +kernel
theorem dX9_text_63 : decode cX9_text 63 = .ok (.invokevirtual 91, 3) := by decide +kernel
theorem dX9_text_66 : decode cX9_text 66 = .ok (.aload_n 0, 1) := by decide +kernel
theorem dX9_text_67 : decode cX9_text 67 = .ok (.getfield 61, 3) := by decide +kernel
theorem dX9_text_70 : decode cX9_text 70 = .ok (.invokevirtual 95, 3) := by decide +kernel
theorem dX9_text_73 : decode cX9_text 73 = .ok (.aload_n 0, 1) := by decide +kernel
theorem dX9_text_74 : decode cX9_text 74 = .ok (.getfield 45, 3) := by decide +kernel
theorem dX9_text_77 : decode cX9_text 77 = .ok (.iconst 0, 1) := by decide +kernel
theorem dX9_text_78 : decode cX9_text 78 = .ok (.putfield 98, 3) := by decide +kernel
theorem dX9_text_81 : decode cX9_text 81 = .ok (.aload_n 0, 1) := by decide +kernel
theorem dX9_text_82 : decode cX9_text 82 = .ok (.iconst 0, 1) := by decide +kernel
theorem dX9_text_83 : decode cX9_text 83 = .ok (.putfield 101, 3) := by decide +kernel
theorem dX9_text_86 : decode cX9_text 86 = .ok (.aload_n 0, 1) := by decide +kernel
theorem dX9_text_87 : decode cX9_text 87 = .ok (.getfield 25, 3) := by decide +kernel
theorem dX9_text_90 : decode cX9_text 90 = .ok (.getfield 105, 3) := by decide +kernel
theorem dX9_text_93 : decode cX9_text 93 = .ok (.ireturn, 1) := by decide +kernel
theorem dX9_fault_0 : decode cX9_fault 0 = .ok (.iload_n 1, 1) := by decide +kernel
theorem dX9_fault_1 : decode cX9_fault 1 = .ok (.ifCond .ne 11, 3) := by decide +kernel
theorem dX9_fault_4 : decode cX9_fault 4 = .ok (.aload_n 0, 1) := by decide +kernel
theorem dX9_fault_5 : decode cX9_fault 5 = .ok (.getfield 18, 3) := by decide +kernel
theorem dX9_fault_8 : decode cX9_fault 8 = .ok (.getfield 108, 3) := by decide +kernel
theorem dX9_fault_11 : decode cX9_fault 11 = .ok (.ireturn, 1) := by decide +kernel
theorem dX9_fault_12 : decode cX9_fault 12 = .ok (.iload_n 1, 1) := by decide +kernel
theorem dX9_fault_13 : decode cX9_fault 13 = .ok (.iconst 1, 1) := by decide +kernel
theorem dX9_fault_14 : decode cX9_fault 14 = .ok (.if_icmp .ne 13, 3) := by decide +kernel
theorem dX9_fault_17 : decode cX9_fault 17 = .ok (.aload_n 0, 1) := by decide +kernel
theorem dX9_fault_18 : decode cX9_fault 18 = .ok (.getfield 18, 3) := by decide +kernel
theorem dX9_fault_21 : decode cX9_fault 21 = .ok (.getfield 111, 3) := by decide +kernel
theorem dX9_fault_24 : decode cX9_fault 24 = .ok (.goto 4, 3) := by decide +kernel
theorem dX9_fault_27 : decode cX9_fault 27 = .ok (.iconst (-1), 1) := by decide +kernel
theorem dX9_fault_28 : decode cX9_fault 28 = .ok (.ireturn, 1) := by decide +kernel
theorem dX9_named_0 : decode cX9_named 0 = .ok (.iload_n 1, 1) := by decide +kernel
theorem dX9_named_1 : decode cX9_named 1 = .ok (.ifCond .ne 22, 3) := by decide +kernel
theorem dX9_named_4 : decode cX9_named 4 = .ok (.iload_n 2, 1) := by decide +kernel
theorem dX9_named_5 : decode cX9_named 5 = .ok (.aload_n 0, 1) := by decide +kernel
theorem dX9_named_6 : decode cX9_named 6 = .ok (.getfield 25, 3) := by decide +kernel
theorem dX9_named_9 : decode cX9_named 9 = .ok (.getfield 114, 3) := by decide +kernel
theorem dX9_named_12 : decode cX9_named 12 = .ok (.aload_n 0, 1) := by decide +kernel
theorem dX9_named_13 : decode cX9_named 13 = .ok (.getfield 25, 3) := by decide +kernel
theorem dX9_named_16 : decode cX9_named 16 = .ok (.getfield 117, 3) := by decide +kernel
theorem dX9_named_19 : decode cX9_named 19 = .ok (.invokestatic 120, 3) := by decide +kernel
theorem dX9_named_22 : decode cX9_named 22 = .ok (.ireturn, 1) := by decide +kernel
theorem dX9_named_23 : decode cX9_named 23 = .ok (.iload_n 1, 1) := by decide +kernel
theorem dX9_named_24 : decode cX9_named 24 = .ok (.iconst 1, 1) := by decide +kernel
theorem dX9_named_25 : decode cX9_named 25 = .ok (.if_icmp .ne 24, 3) := by decide +kernel
theorem dX9_named_28 : decode cX9_named 28 = .ok (.iload_n 2, 1) := by decide +kernel
theorem dX9_named_29 : decode cX9_named 29 = .ok (.aload_n 0, 1) := by decide +kernel
theorem dX9_named_30 : decode cX9_named 30 = .ok (.getfield 25, 3) := by decide +kernel
theorem dX9_named_33 : decode cX9_named 33 = .ok (.getfield 124, 3) := by decide +kernel
theorem dX9_named_36 : decode cX9_named 36 = .ok (.aload_n 0, 1) := by decide +kernel
theorem dX9_named_37 : decode cX9_named 37 = .ok (.getfield 25, 3) := by decide +kernel
theorem dX9_named_40 : decode cX9_named 40 = .ok (.getfield 127, 3) := by decide +kernel
theorem dX9_named_43 : decode cX9_named 43 = .ok (.invokestatic 120, 3) := by decide +kernel
theorem dX9_named_46 : decode cX9_named 46 = .ok (.goto 4, 3) := by decide +kernel
theorem dX9_named_49 : decode cX9_named 49 = .ok (.iconst (-1), 1) := by decide +kernel
theorem dX9_named_50 : decode cX9_named 50 = .ok (.ireturn, 1) := by decide +kernel
theorem dX9_debt_0 : decode cX9_debt 0 = .ok (.aload_n 0, 1) := by decide +kernel
theorem dX9_debt_1 : decode cX9_debt 1 = .ok (.iload_n 1, 1) := by decide +kernel
theorem dX9_debt_2 : decode cX9_debt 2 = .ok (.invokevirtual 130, 3) := by decide +kernel
theorem dX9_debt_5 : decode cX9_debt 5 = .ok (.ifCond .ne 11, 3) := by decide +kernel
theorem dX9_debt_8 : decode cX9_debt 8 = .ok (.new 134, 3) := by decide +kernel
theorem dX9_debt_11 : decode cX9_debt 11 = .ok (.dup, 1) := by decide +kernel
theorem dX9_debt_12 : decode cX9_debt 12 = .ok (.invokespecial 136, 3) := by decide +kernel
theorem dX9_debt_15 : decode cX9_debt 15 = .ok (.athrow, 1) := by decide +kernel
theorem dX9_debt_16 : decode cX9_debt 16 = .ok (.iload_n 2, 1) := by decide +kernel
theorem dX9_debt_17 : decode cX9_debt 17 = .ok (.tableswitch 127 0 7 #[47, 57, 67, 77, 87, 97, 107, 117], 47) := by decide +kernel
theorem dX9_debt_64 : decode cX9_debt 64 = .ok (.aload_n 0, 1) := by decide +kernel
theorem dX9_debt_65 : decode cX9_debt 65 = .ok (.getfield 32, 3) := by decide +kernel
theorem dX9_debt_68 : decode cX9_debt 68 = .ok (.getfield 137, 3) := by decide +kernel
theorem dX9_debt_71 : decode cX9_debt 71 = .ok (.iload_n 1, 1) := by decide +kernel
theorem dX9_debt_72 : decode cX9_debt 72 = .ok (.iaload, 1) := by decide +kernel
theorem dX9_debt_73 : decode cX9_debt 73 = .ok (.ireturn, 1) := by decide +kernel
theorem dX9_debt_74 : decode cX9_debt 74 = .ok (.aload_n 0, 1) := by decide +kernel
theorem dX9_debt_75 : decode cX9_debt 75 = .ok (.getfield 32, 3) := by decide +kernel
theorem dX9_debt_78 : decode cX9_debt 78 = .ok (.getfield 140, 3) := by decide +kernel
theorem dX9_debt_81 : decode cX9_debt 81 = .ok (.iload_n 1, 1) := by decide +kernel
theorem dX9_debt_82 : decode cX9_debt 82 = .ok (.iaload, 1) := by decide +kernel
theorem dX9_debt_83 : decode cX9_debt 83 = .ok (.ireturn, 1) := by decide +kernel
theorem dX9_debt_84 : decode cX9_debt 84 = .ok (.aload_n 0, 1) := by decide +kernel
theorem dX9_debt_85 : decode cX9_debt 85 = .ok (.getfield 32, 3) := by decide +kernel
theorem dX9_debt_88 : decode cX9_debt 88 = .ok (.getfield 143, 3) := by decide +kernel
theorem dX9_debt_91 : decode cX9_debt 91 = .ok (.iload_n 1, 1) := by decide +kernel
theorem dX9_debt_92 : decode cX9_debt 92 = .ok (.iaload, 1) := by decide +kernel
theorem dX9_debt_93 : decode cX9_debt 93 = .ok (.ireturn, 1) := by decide +kernel
theorem dX9_debt_94 : decode cX9_debt 94 = .ok (.aload_n 0, 1) := by decide +kernel
theorem dX9_debt_95 : decode cX9_debt 95 = .ok (.getfield 32, 3) := by decide +kernel
theorem dX9_debt_98 : decode cX9_debt 98 = .ok (.getfield 146, 3) := by decide +kernel
theorem dX9_debt_101 : decode cX9_debt 101 = .ok (.iload_n 1, 1) := by decide +kernel
theorem dX9_debt_102 : decode cX9_debt 102 = .ok (.iaload, 1) := by decide +kernel
theorem dX9_debt_103 : decode cX9_debt 103 = .ok (.ireturn, 1) := by decide +kernel
theorem dX9_debt_104 : decode cX9_debt 104 = .ok (.aload_n 0, 1) := by decide +kernel
theorem dX9_debt_105 : decode cX9_debt 105 = .ok (.getfield 32, 3) := by decide +kernel
theorem dX9_debt_108 : decode cX9_debt 108 = .ok (.getfield 149, 3) := by decide +kernel
theorem dX9_debt_111 : decode cX9_debt 111 = .ok (.iload_n 1, 1) := by decide +kernel
theorem dX9_debt_112 : decode cX9_debt 112 = .ok (.iaload, 1) := by decide +kernel
theorem dX9_debt_113 : decode cX9_debt 113 = .ok (.ireturn, 1) := by decide +kernel
theorem dX9_debt_114 : decode cX9_debt 114 = .ok (.aload_n 0, 1) := by decide +kernel
theorem dX9_debt_115 : decode cX9_debt 115 = .ok (.getfield 32, 3) := by decide +kernel
theorem dX9_debt_118 : decode cX9_debt 118 = .ok (.getfield 152, 3) := by decide +kernel
theorem dX9_debt_121 : decode cX9_debt 121 = .ok (.iload_n 1, 1) := by decide +kernel
theorem dX9_debt_122 : decode cX9_debt 122 = .ok (.iaload, 1) := by decide +kernel
theorem dX9_debt_123 : decode cX9_debt 123 = .ok (.ireturn, 1) := by decide +kernel
theorem dX9_debt_124 : decode cX9_debt 124 = .ok (.aload_n 0, 1) := by decide +kernel
theorem dX9_debt_125 : decode cX9_debt 125 = .ok (.getfield 32, 3) := by decide +kernel
theorem dX9_debt_128 : decode cX9_debt 128 = .ok (.getfield 155, 3) := by decide +kernel
theorem dX9_debt_131 : decode cX9_debt 131 = .ok (.iload_n 1, 1) := by decide +kernel
theorem dX9_debt_132 : decode cX9_debt 132 = .ok (.iaload, 1) := by decide +kernel
theorem dX9_debt_133 : decode cX9_debt 133 = .ok (.ireturn, 1) := by decide +kernel
theorem dX9_debt_134 : decode cX9_debt 134 = .ok (.aload_n 0, 1) := by decide +kernel
theorem dX9_debt_135 : decode cX9_debt 135 = .ok (.getfield 32, 3) := by decide +kernel
theorem dX9_debt_138 : decode cX9_debt 138 = .ok (.getfield 158, 3) := by decide +kernel
theorem dX9_debt_141 : decode cX9_debt 141 = .ok (.iload_n 1, 1) := by decide +kernel
theorem dX9_debt_142 : decode cX9_debt 142 = .ok (.iaload, 1) := by decide +kernel
theorem dX9_debt_143 : decode cX9_debt 143 = .ok (.ireturn, 1) := by decide +kernel
theorem dX9_debt_144 : decode cX9_debt 144 = .ok (.new 161, 3) := by decide +kernel
theorem dX9_debt_147 : decode cX9_debt 147 = .ok (.dup, 1) := by decide +kernel
theorem dX9_debt_148 : decode cX9_debt 148 = .ok (.invokespecial 163, 3) := by decide +kernel
theorem dX9_debt_151 : decode cX9_debt 151 = .ok (.athrow, 1) := by decide +kernel
theorem dX9_man_0 : decode cX9_man 0 = .ok (.aload_n 0, 1) := by decide +kernel
theorem dX9_man_1 : decode cX9_man 1 = .ok (.iload_n 1, 1) := by decide +kernel
theorem dX9_man_2 : decode cX9_man 2 = .ok (.invokevirtual 164, 3) := by decide +kernel
theorem dX9_man_5 : decode cX9_man 5 = .ok (.ifCond .eq 12, 3) := by decide +kernel
theorem dX9_man_8 : decode cX9_man 8 = .ok (.iload_n 2, 1) := by decide +kernel
theorem dX9_man_9 : decode cX9_man 9 = .ok (.ifCond .lt 8, 3) := by decide +kernel
theorem dX9_man_12 : decode cX9_man 12 = .ok (.iload_n 2, 1) := by decide +kernel
theorem dX9_man_13 : decode cX9_man 13 = .ok (.iconst 1, 1) := by decide +kernel
theorem dX9_man_14 : decode cX9_man 14 = .ok (.if_icmp .le 6, 3) := by decide +kernel
theorem dX9_man_17 : decode cX9_man 17 = .ok (.ldc 169, 2) := by decide +kernel
theorem dX9_man_19 : decode cX9_man 19 = .ok (.ireturn, 1) := by decide +kernel
theorem dX9_man_20 : decode cX9_man 20 = .ok (.iload_n 2, 1) := by decide +kernel
theorem dX9_man_21 : decode cX9_man 21 = .ok (.ifCond .ne 14, 3) := by decide +kernel
theorem dX9_man_24 : decode cX9_man 24 = .ok (.aload_n 0, 1) := by decide +kernel
theorem dX9_man_25 : decode cX9_man 25 = .ok (.getfield 32, 3) := by decide +kernel
theorem dX9_man_28 : decode cX9_man 28 = .ok (.iload_n 1, 1) := by decide +kernel
theorem dX9_man_29 : decode cX9_man 29 = .ok (.invokevirtual 170, 3) := by decide +kernel
theorem dX9_man_32 : decode cX9_man 32 = .ok (.goto 11, 3) := by decide +kernel
theorem dX9_man_35 : decode cX9_man 35 = .ok (.aload_n 0, 1) := by decide +kernel
theorem dX9_man_36 : decode cX9_man 36 = .ok (.getfield 32, 3) := by decide +kernel
theorem dX9_man_39 : decode cX9_man 39 = .ok (.iload_n 1, 1) := by decide +kernel
theorem dX9_man_40 : decode cX9_man 40 = .ok (.invokevirtual 174, 3) := by decide +kernel
theorem dX9_man_43 : decode cX9_man 43 = .ok (.ireturn, 1) := by decide +kernel
theorem dX9_tusk_0 : decode cX9_tusk 0 = .ok (.aload_n 0, 1) := by decide +kernel
theorem dX9_tusk_1 : decode cX9_tusk 1 = .ok (.iload_n 1, 1) := by decide +kernel
theorem dX9_tusk_2 : decode cX9_tusk 2 = .ok (.invokevirtual 177, 3) := by decide +kernel
theorem dX9_tusk_5 : decode cX9_tusk 5 = .ok (.ifCond .ne 5, 3) := by decide +kernel
theorem dX9_tusk_8 : decode cX9_tusk 8 = .ok (.iconst (-1), 1) := by decide +kernel
theorem dX9_tusk_9 : decode cX9_tusk 9 = .ok (.ireturn, 1) := by decide +kernel
theorem dX9_tusk_10 : decode cX9_tusk 10 = .ok (.iload_n 2, 1) := by decide +kernel
theorem dX9_tusk_11 : decode cX9_tusk 11 = .ok (.tableswitch 88 0 4 #[33, 43, 53, 70, 79], 33) := by decide +kernel
theorem dX9_tusk_44 : decode cX9_tusk 44 = .ok (.aload_n 0, 1) := by decide +kernel
theorem dX9_tusk_45 : decode cX9_tusk 45 = .ok (.getfield 32, 3) := by decide +kernel
theorem dX9_tusk_48 : decode cX9_tusk 48 = .ok (.getfield 180, 3) := by decide +kernel
theorem dX9_tusk_51 : decode cX9_tusk 51 = .ok (.iload_n 1, 1) := by decide +kernel
theorem dX9_tusk_52 : decode cX9_tusk 52 = .ok (.iaload, 1) := by decide +kernel
theorem dX9_tusk_53 : decode cX9_tusk 53 = .ok (.ireturn, 1) := by decide +kernel
theorem dX9_tusk_54 : decode cX9_tusk 54 = .ok (.aload_n 0, 1) := by decide +kernel
theorem dX9_tusk_55 : decode cX9_tusk 55 = .ok (.getfield 25, 3) := by decide +kernel
theorem dX9_tusk_58 : decode cX9_tusk 58 = .ok (.getfield 183, 3) := by decide +kernel
theorem dX9_tusk_61 : decode cX9_tusk 61 = .ok (.iload_n 1, 1) := by decide +kernel
theorem dX9_tusk_62 : decode cX9_tusk 62 = .ok (.iaload, 1) := by decide +kernel
theorem dX9_tusk_63 : decode cX9_tusk 63 = .ok (.ireturn, 1) := by decide +kernel
theorem dX9_tusk_64 : decode cX9_tusk 64 = .ok (.aload_n 0, 1) := by decide +kernel
theorem dX9_tusk_65 : decode cX9_tusk 65 = .ok (.getfield 32, 3) := by decide +kernel
theorem dX9_tusk_68 : decode cX9_tusk 68 = .ok (.iload_n 1, 1) := by decide +kernel
theorem dX9_tusk_69 : decode cX9_tusk 69 = .ok (.invokevirtual 186, 3) := by decide +kernel
theorem dX9_tusk_72 : decode cX9_tusk 72 = .ok (.ifCond .eq 7, 3) := by decide +kernel
theorem dX9_tusk_75 : decode cX9_tusk 75 = .ok (.iconst 1, 1) := by decide +kernel
theorem dX9_tusk_76 : decode cX9_tusk 76 = .ok (.goto 4, 3) := by decide +kernel
theorem dX9_tusk_79 : decode cX9_tusk 79 = .ok (.iconst 0, 1) := by decide +kernel
theorem dX9_tusk_80 : decode cX9_tusk 80 = .ok (.ireturn, 1) := by decide +kernel
theorem dX9_tusk_81 : decode cX9_tusk 81 = .ok (.aload_n 0, 1) := by decide +kernel
theorem dX9_tusk_82 : decode cX9_tusk 82 = .ok (.getfield 32, 3) := by decide +kernel
theorem dX9_tusk_85 : decode cX9_tusk 85 = .ok (.iload_n 1, 1) := by decide +kernel
theorem dX9_tusk_86 : decode cX9_tusk 86 = .ok (.invokevirtual 189, 3) := by decide +kernel
theorem dX9_tusk_89 : decode cX9_tusk 89 = .ok (.ireturn, 1) := by decide +kernel
theorem dX9_tusk_90 : decode cX9_tusk 90 = .ok (.aload_n 0, 1) := by decide +kernel
theorem dX9_tusk_91 : decode cX9_tusk 91 = .ok (.getfield 32, 3) := by decide +kernel
theorem dX9_tusk_94 : decode cX9_tusk 94 = .ok (.iload_n 1, 1) := by decide +kernel
theorem dX9_tusk_95 : decode cX9_tusk 95 = .ok (.invokevirtual 192, 3) := by decide +kernel
theorem dX9_tusk_98 : decode cX9_tusk 98 = .ok (.ireturn, 1) := by decide +kernel
theorem dX9_tusk_99 : decode cX9_tusk 99 = .ok (.iconst (-1), 1) := by decide +kernel
theorem dX9_tusk_100 : decode cX9_tusk 100 = .ok (.ireturn, 1) := by decide +kernel
theorem dX9_law_0 : decode cX9_law 0 = .ok (.aload_n 0, 1) := by decide +kernel
theorem dX9_law_1 : decode cX9_law 1 = .ok (.getfield 54, 3) := by decide +kernel
theorem dX9_law_4 : decode cX9_law 4 = .ok (.aload_n 0, 1) := by decide +kernel
theorem dX9_law_5 : decode cX9_law 5 = .ok (.getfield 25, 3) := by decide +kernel
theorem dX9_law_8 : decode cX9_law 8 = .ok (.aload_n 0, 1) := by decide +kernel
theorem dX9_law_9 : decode cX9_law 9 = .ok (.getfield 32, 3) := by decide +kernel
theorem dX9_law_12 : decode cX9_law 12 = .ok (.iconst (-1), 1) := by decide +kernel
theorem dX9_law_13 : decode cX9_law 13 = .ok (.iconst 0, 1) := by decide +kernel
theorem dX9_law_14 : decode cX9_law 14 = .ok (.invokevirtual 195, 3) := by decide +kernel
theorem dX9_law_17 : decode cX9_law 17 = .ok (.iload_n 1, 1) := by decide +kernel
theorem dX9_law_18 : decode cX9_law 18 = .ok (.ifCond .ne 29, 3) := by decide +kernel
theorem dX9_law_21 : decode cX9_law 21 = .ok (.aload_n 0, 1) := by decide +kernel
theorem dX9_law_22 : decode cX9_law 22 = .ok (.iload_n 2, 1) := by decide +kernel
theorem dX9_law_23 : decode cX9_law 23 = .ok (.invokevirtual 130, 3) := by decide +kernel
theorem dX9_law_26 : decode cX9_law 26 = .ok (.ifCond .eq 21, 3) := by decide +kernel
theorem dX9_law_29 : decode cX9_law 29 = .ok (.aload_n 0, 1) := by decide +kernel
theorem dX9_law_30 : decode cX9_law 30 = .ok (.iload_n 3, 1) := by decide +kernel
theorem dX9_law_31 : decode cX9_law 31 = .ok (.invokevirtual 177, 3) := by decide +kernel
theorem dX9_law_34 : decode cX9_law 34 = .ok (.ifCond .eq 13, 3) := by decide +kernel
theorem dX9_law_37 : decode cX9_law 37 = .ok (.aload_n 0, 1) := by decide +kernel
theorem dX9_law_38 : decode cX9_law 38 = .ok (.getfield 54, 3) := by decide +kernel
theorem dX9_law_41 : decode cX9_law 41 = .ok (.iload_n 2, 1) := by decide +kernel
theorem dX9_law_42 : decode cX9_law 42 = .ok (.iload_n 3, 1) := by decide +kernel
theorem dX9_law_43 : decode cX9_law 43 = .ok (.invokevirtual 199, 3) := by decide +kernel
theorem dX9_law_46 : decode cX9_law 46 = .ok (.lreturn, 1) := by decide +kernel
theorem dX9_law_47 : decode cX9_law 47 = .ok (.iload_n 1, 1) := by decide +kernel
theorem dX9_law_48 : decode cX9_law 48 = .ok (.iconst 1, 1) := by decide +kernel
theorem dX9_law_49 : decode cX9_law 49 = .ok (.if_icmp .ne 20, 3) := by decide +kernel
theorem dX9_law_52 : decode cX9_law 52 = .ok (.aload_n 0, 1) := by decide +kernel
theorem dX9_law_53 : decode cX9_law 53 = .ok (.iload_n 2, 1) := by decide +kernel
theorem dX9_law_54 : decode cX9_law 54 = .ok (.invokevirtual 130, 3) := by decide +kernel
theorem dX9_law_57 : decode cX9_law 57 = .ok (.ifCond .eq 12, 3) := by decide +kernel
theorem dX9_law_60 : decode cX9_law 60 = .ok (.aload_n 0, 1) := by decide +kernel
theorem dX9_law_61 : decode cX9_law 61 = .ok (.getfield 54, 3) := by decide +kernel
theorem dX9_law_64 : decode cX9_law 64 = .ok (.iload_n 2, 1) := by decide +kernel
theorem dX9_law_65 : decode cX9_law 65 = .ok (.invokevirtual 203, 3) := by decide +kernel
theorem dX9_law_68 : decode cX9_law 68 = .ok (.lreturn, 1) := by decide +kernel
theorem dX9_law_69 : decode cX9_law 69 = .ok (.iload_n 1, 1) := by decide +kernel
theorem dX9_law_70 : decode cX9_law 70 = .ok (.iconst 2, 1) := by decide +kernel
theorem dX9_law_71 : decode cX9_law 71 = .ok (.if_icmp .ne 29, 3) := by decide +kernel
theorem dX9_law_74 : decode cX9_law 74 = .ok (.aload_n 0, 1) := by decide +kernel
theorem dX9_law_75 : decode cX9_law 75 = .ok (.iload_n 3, 1) := by decide +kernel
theorem dX9_law_76 : decode cX9_law 76 = .ok (.invokevirtual 177, 3) := by decide +kernel
theorem dX9_law_79 : decode cX9_law 79 = .ok (.ifCond .eq 21, 3) := by decide +kernel
theorem dX9_law_82 : decode cX9_law 82 = .ok (.aload_n 0, 1) := by decide +kernel
theorem dX9_law_83 : decode cX9_law 83 = .ok (.getfield 54, 3) := by decide +kernel
theorem dX9_law_86 : decode cX9_law 86 = .ok (.iload_n 3, 1) := by decide +kernel
theorem dX9_law_87 : decode cX9_law 87 = .ok (.aload_n 0, 1) := by decide +kernel
theorem dX9_law_88 : decode cX9_law 88 = .ok (.getfield 32, 3) := by decide +kernel
theorem dX9_law_91 : decode cX9_law 91 = .ok (.getfield 180, 3) := by decide +kernel
theorem dX9_law_94 : decode cX9_law 94 = .ok (.iload_n 3, 1) := by decide +kernel
theorem dX9_law_95 : decode cX9_law 95 = .ok (.iaload, 1) := by decide +kernel
theorem dX9_law_96 : decode cX9_law 96 = .ok (.invokevirtual 207, 3) := by decide +kernel
theorem dX9_law_99 : decode cX9_law 99 = .ok (.lreturn, 1) := by decide +kernel
theorem dX9_law_100 : decode cX9_law 100 = .ok (.ldc2_w 210, 3) := by decide +kernel
theorem dX9_law_103 : decode cX9_law 103 = .ok (.lreturn, 1) := by decide +kernel
theorem dX9_lend_0 : decode cX9_lend 0 = .ok (.aload_n 0, 1) := by decide +kernel
theorem dX9_lend_1 : decode cX9_lend 1 = .ok (.iload_n 1, 1) := by decide +kernel
theorem dX9_lend_2 : decode cX9_lend 2 = .ok (.invokevirtual 164, 3) := by decide +kernel
theorem dX9_lend_5 : decode cX9_lend 5 = .ok (.ifCond .eq 25, 3) := by decide +kernel
theorem dX9_lend_8 : decode cX9_lend 8 = .ok (.aload_n 0, 1) := by decide +kernel
theorem dX9_lend_9 : decode cX9_lend 9 = .ok (.iload_n 2, 1) := by decide +kernel
theorem dX9_lend_10 : decode cX9_lend 10 = .ok (.invokevirtual 164, 3) := by decide +kernel
theorem dX9_lend_13 : decode cX9_lend 13 = .ok (.ifCond .eq 17, 3) := by decide +kernel
theorem dX9_lend_16 : decode cX9_lend 16 = .ok (.iload_n 1, 1) := by decide +kernel
theorem dX9_lend_17 : decode cX9_lend 17 = .ok (.iload_n 2, 1) := by decide +kernel
theorem dX9_lend_18 : decode cX9_lend 18 = .ok (.if_icmp .eq 12, 3) := by decide +kernel
theorem dX9_lend_21 : decode cX9_lend 21 = .ok (.aload_n 0, 1) := by decide +kernel
theorem dX9_lend_22 : decode cX9_lend 22 = .ok (.iload 4, 2) := by decide +kernel
theorem dX9_lend_24 : decode cX9_lend 24 = .ok (.invokevirtual 177, 3) := by decide +kernel
theorem dX9_lend_27 : decode cX9_lend 27 = .ok (.ifCond .ne 5, 3) := by decide +kernel
theorem dX9_lend_30 : decode cX9_lend 30 = .ok (.iconst (-1), 1) := by decide +kernel
theorem dX9_lend_31 : decode cX9_lend 31 = .ok (.ireturn, 1) := by decide +kernel
theorem dX9_lend_32 : decode cX9_lend 32 = .ok (.iload_n 3, 1) := by decide +kernel
theorem dX9_lend_33 : decode cX9_lend 33 = .ok (.iconst 1, 1) := by decide +kernel
theorem dX9_lend_34 : decode cX9_lend 34 = .ok (.if_icmp .lt 21, 3) := by decide +kernel
theorem dX9_lend_37 : decode cX9_lend 37 = .ok (.iload_n 3, 1) := by decide +kernel
theorem dX9_lend_38 : decode cX9_lend 38 = .ok (.bipush 99, 2) := by decide +kernel
theorem dX9_lend_40 : decode cX9_lend 40 = .ok (.if_icmp .gt 15, 3) := by decide +kernel
theorem dX9_lend_43 : decode cX9_lend 43 = .ok (.aload_n 0, 1) := by decide +kernel
theorem dX9_lend_44 : decode cX9_lend 44 = .ok (.getfield 32, 3) := by decide +kernel
theorem dX9_lend_47 : decode cX9_lend 47 = .ok (.getfield 212, 3) := by decide +kernel
theorem dX9_lend_50 : decode cX9_lend 50 = .ok (.bipush 8, 2) := by decide +kernel
theorem dX9_lend_52 : decode cX9_lend 52 = .ok (.if_icmp .lt 5, 3) := by decide +kernel
theorem dX9_lend_55 : decode cX9_lend 55 = .ok (.iconst (-1), 1) := by decide +kernel
theorem dX9_lend_56 : decode cX9_lend 56 = .ok (.ireturn, 1) := by decide +kernel
theorem dX9_lend_57 : decode cX9_lend 57 = .ok (.aload_n 0, 1) := by decide +kernel
theorem dX9_lend_58 : decode cX9_lend 58 = .ok (.getfield 32, 3) := by decide +kernel
theorem dX9_lend_61 : decode cX9_lend 61 = .ok (.iload 4, 2) := by decide +kernel
theorem dX9_lend_63 : decode cX9_lend 63 = .ok (.invokevirtual 186, 3) := by decide +kernel
theorem dX9_lend_66 : decode cX9_lend 66 = .ok (.ifCond .eq 26, 3) := by decide +kernel
theorem dX9_lend_69 : decode cX9_lend 69 = .ok (.aload_n 0, 1) := by decide +kernel
theorem dX9_lend_70 : decode cX9_lend 70 = .ok (.getfield 32, 3) := by decide +kernel
theorem dX9_lend_73 : decode cX9_lend 73 = .ok (.iload_n 1, 1) := by decide +kernel
theorem dX9_lend_74 : decode cX9_lend 74 = .ok (.invokevirtual 170, 3) := by decide +kernel
theorem dX9_lend_77 : decode cX9_lend 77 = .ok (.iload_n 3, 1) := by decide +kernel
theorem dX9_lend_78 : decode cX9_lend 78 = .ok (.aload_n 0, 1) := by decide +kernel
theorem dX9_lend_79 : decode cX9_lend 79 = .ok (.getfield 25, 3) := by decide +kernel
theorem dX9_lend_82 : decode cX9_lend 82 = .ok (.getfield 183, 3) := by decide +kernel
theorem dX9_lend_85 : decode cX9_lend 85 = .ok (.iload 4, 2) := by decide +kernel
theorem dX9_lend_87 : decode cX9_lend 87 = .ok (.iaload, 1) := by decide +kernel
theorem dX9_lend_88 : decode cX9_lend 88 = .ok (.iadd, 1) := by decide +kernel
theorem dX9_lend_89 : decode cX9_lend 89 = .ok (.if_icmp .ge 6, 3) := by decide +kernel
theorem dX9_lend_92 : decode cX9_lend 92 = .ok (.bipush (-2), 2) := by decide +kernel
theorem dX9_lend_94 : decode cX9_lend 94 = .ok (.ireturn, 1) := by decide +kernel
theorem dX9_lend_95 : decode cX9_lend 95 = .ok (.aload_n 0, 1) := by decide +kernel
theorem dX9_lend_96 : decode cX9_lend 96 = .ok (.getfield 45, 3) := by decide +kernel
theorem dX9_lend_99 : decode cX9_lend 99 = .ok (.aload_n 0, 1) := by decide +kernel
theorem dX9_lend_100 : decode cX9_lend 100 = .ok (.getfield 32, 3) := by decide +kernel
theorem dX9_lend_103 : decode cX9_lend 103 = .ok (.invokevirtual 215, 3) := by decide +kernel
theorem dX9_lend_106 : decode cX9_lend 106 = .ok (.aload_n 0, 1) := by decide +kernel
theorem dX9_lend_107 : decode cX9_lend 107 = .ok (.getfield 32, 3) := by decide +kernel
theorem dX9_lend_110 : decode cX9_lend 110 = .ok (.getfield 212, 3) := by decide +kernel
theorem dX9_lend_113 : decode cX9_lend 113 = .ok (.istore 5, 2) := by decide +kernel
theorem dX9_lend_115 : decode cX9_lend 115 = .ok (.aload_n 0, 1) := by decide +kernel
theorem dX9_lend_116 : decode cX9_lend 116 = .ok (.getfield 32, 3) := by decide +kernel
theorem dX9_lend_119 : decode cX9_lend 119 = .ok (.iload_n 1, 1) := by decide +kernel
theorem dX9_lend_120 : decode cX9_lend 120 = .ok (.iload_n 2, 1) := by decide +kernel
theorem dX9_lend_121 : decode cX9_lend 121 = .ok (.iload_n 3, 1) := by decide +kernel
theorem dX9_lend_122 : decode cX9_lend 122 = .ok (.iload 4, 2) := by decide +kernel
theorem dX9_lend_124 : decode cX9_lend 124 = .ok (.aload_n 0, 1) := by decide +kernel
theorem dX9_lend_125 : decode cX9_lend 125 = .ok (.getfield 32, 3) := by decide +kernel
theorem dX9_lend_128 : decode cX9_lend 128 = .ok (.getfield 218, 3) := by decide +kernel
theorem dX9_lend_131 : decode cX9_lend 131 = .ok (.invokevirtual 221, 3) := by decide +kernel
theorem dX9_lend_134 : decode cX9_lend 134 = .ok (.aload_n 0, 1) := by decide +kernel
theorem dX9_lend_135 : decode cX9_lend 135 = .ok (.getfield 32, 3) := by decide +kernel
theorem dX9_lend_138 : decode cX9_lend 138 = .ok (.iload 5, 2) := by decide +kernel
theorem dX9_lend_140 : decode cX9_lend 140 = .ok (.aload_n 0, 1) := by decide +kernel
theorem dX9_lend_141 : decode cX9_lend 141 = .ok (.getfield 25, 3) := by decide +kernel
theorem dX9_lend_144 : decode cX9_lend 144 = .ok (.getfield 183, 3) := by decide +kernel
theorem dX9_lend_147 : decode cX9_lend 147 = .ok (.iload 4, 2) := by decide +kernel
theorem dX9_lend_149 : decode cX9_lend 149 = .ok (.iaload, 1) := by decide +kernel
theorem dX9_lend_150 : decode cX9_lend 150 = .ok (.iconst 0, 1) := by decide +kernel
theorem dX9_lend_151 : decode cX9_lend 151 = .ok (.invokevirtual 225, 3) := by decide +kernel
theorem dX9_lend_154 : decode cX9_lend 154 = .ok (.iload 5, 2) := by decide +kernel
theorem dX9_lend_156 : decode cX9_lend 156 = .ok (.ireturn, 1) := by decide +kernel
theorem dX9_lean_0 : decode cX9_lean 0 = .ok (.aload_n 0, 1) := by decide +kernel
theorem dX9_lean_1 : decode cX9_lean 1 = .ok (.iload_n 1, 1) := by decide +kernel
theorem dX9_lean_2 : decode cX9_lean 2 = .ok (.invokevirtual 177, 3) := by decide +kernel
theorem dX9_lean_5 : decode cX9_lean 5 = .ok (.ifCond .eq 38, 3) := by decide +kernel
theorem dX9_lean_8 : decode cX9_lean 8 = .ok (.aload_n 0, 1) := by decide +kernel
theorem dX9_lean_9 : decode cX9_lean 9 = .ok (.iload_n 2, 1) := by decide +kernel
theorem dX9_lean_10 : decode cX9_lean 10 = .ok (.invokevirtual 177, 3) := by decide +kernel
theorem dX9_lean_13 : decode cX9_lean 13 = .ok (.ifCond .eq 30, 3) := by decide +kernel
theorem dX9_lean_16 : decode cX9_lean 16 = .ok (.iload_n 1, 1) := by decide +kernel
theorem dX9_lean_17 : decode cX9_lean 17 = .ok (.iload_n 2, 1) := by decide +kernel
theorem dX9_lean_18 : decode cX9_lean 18 = .ok (.if_icmp .eq 25, 3) := by decide +kernel
theorem dX9_lean_21 : decode cX9_lean 21 = .ok (.aload_n 0, 1) := by decide +kernel
theorem dX9_lean_22 : decode cX9_lean 22 = .ok (.getfield 32, 3) := by decide +kernel
theorem dX9_lean_25 : decode cX9_lean 25 = .ok (.iload_n 1, 1) := by decide +kernel
theorem dX9_lean_26 : decode cX9_lean 26 = .ok (.invokevirtual 186, 3) := by decide +kernel
theorem dX9_lean_29 : decode cX9_lean 29 = .ok (.ifCond .eq 14, 3) := by decide +kernel
theorem dX9_lean_32 : decode cX9_lean 32 = .ok (.aload_n 0, 1) := by decide +kernel
theorem dX9_lean_33 : decode cX9_lean 33 = .ok (.getfield 32, 3) := by decide +kernel
theorem dX9_lean_36 : decode cX9_lean 36 = .ok (.iload_n 2, 1) := by decide +kernel
theorem dX9_lean_37 : decode cX9_lean 37 = .ok (.invokevirtual 186, 3) := by decide +kernel
theorem dX9_lean_40 : decode cX9_lean 40 = .ok (.ifCond .ne 5, 3) := by decide +kernel
theorem dX9_lean_43 : decode cX9_lean 43 = .ok (.iconst (-1), 1) := by decide +kernel
theorem dX9_lean_44 : decode cX9_lean 44 = .ok (.ireturn, 1) := by decide +kernel
theorem dX9_lean_45 : decode cX9_lean 45 = .ok (.aload_n 0, 1) := by decide +kernel
theorem dX9_lean_46 : decode cX9_lean 46 = .ok (.getfield 45, 3) := by decide +kernel
theorem dX9_lean_49 : decode cX9_lean 49 = .ok (.aload_n 0, 1) := by decide +kernel
theorem dX9_lean_50 : decode cX9_lean 50 = .ok (.getfield 32, 3) := by decide +kernel
theorem dX9_lean_53 : decode cX9_lean 53 = .ok (.invokevirtual 215, 3) := by decide +kernel
theorem dX9_lean_56 : decode cX9_lean 56 = .ok (.aload_n 0, 1) := by decide +kernel
theorem dX9_lean_57 : decode cX9_lean 57 = .ok (.getfield 54, 3) := by decide +kernel
theorem dX9_lean_60 : decode cX9_lean 60 = .ok (.aload_n 0, 1) := by decide +kernel
theorem dX9_lean_61 : decode cX9_lean 61 = .ok (.getfield 25, 3) := by decide +kernel
theorem dX9_lean_64 : decode cX9_lean 64 = .ok (.aload_n 0, 1) := by decide +kernel
theorem dX9_lean_65 : decode cX9_lean 65 = .ok (.getfield 32, 3) := by decide +kernel
theorem dX9_lean_68 : decode cX9_lean 68 = .ok (.iconst (-1), 1) := by decide +kernel
theorem dX9_lean_69 : decode cX9_lean 69 = .ok (.iconst 0, 1) := by decide +kernel
theorem dX9_lean_70 : decode cX9_lean 70 = .ok (.invokevirtual 195, 3) := by decide +kernel
theorem dX9_lean_73 : decode cX9_lean 73 = .ok (.aload_n 0, 1) := by decide +kernel
theorem dX9_lean_74 : decode cX9_lean 74 = .ok (.getfield 54, 3) := by decide +kernel
theorem dX9_lean_77 : decode cX9_lean 77 = .ok (.iload_n 1, 1) := by decide +kernel
theorem dX9_lean_78 : decode cX9_lean 78 = .ok (.iload_n 2, 1) := by decide +kernel
theorem dX9_lean_79 : decode cX9_lean 79 = .ok (.invokevirtual 229, 3) := by decide +kernel
theorem dX9_lean_82 : decode cX9_lean 82 = .ok (.ireturn, 1) := by decide +kernel
theorem dX9_pay_0 : decode cX9_pay 0 = .ok (.aload_n 0, 1) := by decide +kernel
theorem dX9_pay_1 : decode cX9_pay 1 = .ok (.iload_n 1, 1) := by decide +kernel
theorem dX9_pay_2 : decode cX9_pay 2 = .ok (.invokevirtual 130, 3) := by decide +kernel
theorem dX9_pay_5 : decode cX9_pay 5 = .ok (.ifCond .ne 5, 3) := by decide +kernel
theorem dX9_pay_8 : decode cX9_pay 8 = .ok (.iconst (-1), 1) := by decide +kernel
theorem dX9_pay_9 : decode cX9_pay 9 = .ok (.ireturn, 1) := by decide +kernel
theorem dX9_pay_10 : decode cX9_pay 10 = .ok (.aload_n 0, 1) := by decide +kernel
theorem dX9_pay_11 : decode cX9_pay 11 = .ok (.getfield 32, 3) := by decide +kernel
theorem dX9_pay_14 : decode cX9_pay 14 = .ok (.getfield 152, 3) := by decide +kernel
theorem dX9_pay_17 : decode cX9_pay 17 = .ok (.iload_n 1, 1) := by decide +kernel
theorem dX9_pay_18 : decode cX9_pay 18 = .ok (.iaload, 1) := by decide +kernel
theorem dX9_pay_19 : decode cX9_pay 19 = .ok (.iconst 1, 1) := by decide +kernel
theorem dX9_pay_20 : decode cX9_pay 20 = .ok (.if_icmp .ne 14, 3) := by decide +kernel
theorem dX9_pay_23 : decode cX9_pay 23 = .ok (.aload_n 0, 1) := by decide +kernel
theorem dX9_pay_24 : decode cX9_pay 24 = .ok (.getfield 32, 3) := by decide +kernel
theorem dX9_pay_27 : decode cX9_pay 27 = .ok (.iload_n 1, 1) := by decide +kernel
theorem dX9_pay_28 : decode cX9_pay 28 = .ok (.invokevirtual 233, 3) := by decide +kernel
theorem dX9_pay_31 : decode cX9_pay 31 = .ok (.ifCond .ne 6, 3) := by decide +kernel
theorem dX9_pay_34 : decode cX9_pay 34 = .ok (.bipush (-2), 2) := by decide +kernel
theorem dX9_pay_36 : decode cX9_pay 36 = .ok (.ireturn, 1) := by decide +kernel
theorem dX9_pay_37 : decode cX9_pay 37 = .ok (.aload_n 0, 1) := by decide +kernel
theorem dX9_pay_38 : decode cX9_pay 38 = .ok (.getfield 45, 3) := by decide +kernel
theorem dX9_pay_41 : decode cX9_pay 41 = .ok (.aload_n 0, 1) := by decide +kernel
theorem dX9_pay_42 : decode cX9_pay 42 = .ok (.getfield 32, 3) := by decide +kernel
theorem dX9_pay_45 : decode cX9_pay 45 = .ok (.invokevirtual 215, 3) := by decide +kernel
theorem dX9_pay_48 : decode cX9_pay 48 = .ok (.aload_n 0, 1) := by decide +kernel
theorem dX9_pay_49 : decode cX9_pay 49 = .ok (.getfield 32, 3) := by decide +kernel
theorem dX9_pay_52 : decode cX9_pay 52 = .ok (.getfield 155, 3) := by decide +kernel
theorem dX9_pay_55 : decode cX9_pay 55 = .ok (.iload_n 1, 1) := by decide +kernel
theorem dX9_pay_56 : decode cX9_pay 56 = .ok (.iaload, 1) := by decide +kernel
theorem dX9_pay_57 : decode cX9_pay 57 = .ok (.istore_n 2, 1) := by decide +kernel
theorem dX9_pay_58 : decode cX9_pay 58 = .ok (.aload_n 0, 1) := by decide +kernel
theorem dX9_pay_59 : decode cX9_pay 59 = .ok (.getfield 32, 3) := by decide +kernel
theorem dX9_pay_62 : decode cX9_pay 62 = .ok (.iload_n 1, 1) := by decide +kernel
theorem dX9_pay_63 : decode cX9_pay 63 = .ok (.invokevirtual 236, 3) := by decide +kernel
theorem dX9_pay_66 : decode cX9_pay 66 = .ok (.iload_n 2, 1) := by decide +kernel
theorem dX9_pay_67 : decode cX9_pay 67 = .ok (.ireturn, 1) := by decide +kernel
theorem dX9_gift_0 : decode cX9_gift 0 = .ok (.aload_n 0, 1) := by decide +kernel
theorem dX9_gift_1 : decode cX9_gift 1 = .ok (.iload_n 1, 1) := by decide +kernel
theorem dX9_gift_2 : decode cX9_gift 2 = .ok (.invokevirtual 164, 3) := by decide +kernel
theorem dX9_gift_5 : decode cX9_gift 5 = .ok (.ifCond .eq 29, 3) := by decide +kernel
theorem dX9_gift_8 : decode cX9_gift 8 = .ok (.iload_n 2, 1) := by decide +kernel
theorem dX9_gift_9 : decode cX9_gift 9 = .ok (.iconst 1, 1) := by decide +kernel
theorem dX9_gift_10 : decode cX9_gift 10 = .ok (.if_icmp .lt 24, 3) := by decide +kernel
theorem dX9_gift_13 : decode cX9_gift 13 = .ok (.iload_n 2, 1) := by decide +kernel
theorem dX9_gift_14 : decode cX9_gift 14 = .ok (.bipush 99, 2) := by decide +kernel
theorem dX9_gift_16 : decode cX9_gift 16 = .ok (.if_icmp .gt 18, 3) := by decide +kernel
theorem dX9_gift_19 : decode cX9_gift 19 = .ok (.aload_n 0, 1) := by decide +kernel
theorem dX9_gift_20 : decode cX9_gift 20 = .ok (.getfield 32, 3) := by decide +kernel
theorem dX9_gift_23 : decode cX9_gift 23 = .ok (.iload_n 1, 1) := by decide +kernel
theorem dX9_gift_24 : decode cX9_gift 24 = .ok (.invokevirtual 170, 3) := by decide +kernel
theorem dX9_gift_27 : decode cX9_gift 27 = .ok (.iload_n 2, 1) := by decide +kernel
theorem dX9_gift_28 : decode cX9_gift 28 = .ok (.iadd, 1) := by decide +kernel
theorem dX9_gift_29 : decode cX9_gift 29 = .ok (.ldc 239, 2) := by decide +kernel
theorem dX9_gift_31 : decode cX9_gift 31 = .ok (.if_icmp .le 5, 3) := by decide +kernel
theorem dX9_gift_34 : decode cX9_gift 34 = .ok (.iconst (-1), 1) := by decide +kernel
theorem dX9_gift_35 : decode cX9_gift 35 = .ok (.ireturn, 1) := by decide +kernel
theorem dX9_gift_36 : decode cX9_gift 36 = .ok (.aload_n 0, 1) := by decide +kernel
theorem dX9_gift_37 : decode cX9_gift 37 = .ok (.getfield 45, 3) := by decide +kernel
theorem dX9_gift_40 : decode cX9_gift 40 = .ok (.aload_n 0, 1) := by decide +kernel
theorem dX9_gift_41 : decode cX9_gift 41 = .ok (.getfield 32, 3) := by decide +kernel
theorem dX9_gift_44 : decode cX9_gift 44 = .ok (.invokevirtual 215, 3) := by decide +kernel
theorem dX9_gift_47 : decode cX9_gift 47 = .ok (.aload_n 0, 1) := by decide +kernel
theorem dX9_gift_48 : decode cX9_gift 48 = .ok (.getfield 32, 3) := by decide +kernel
theorem dX9_gift_51 : decode cX9_gift 51 = .ok (.iload_n 1, 1) := by decide +kernel
theorem dX9_gift_52 : decode cX9_gift 52 = .ok (.iload_n 2, 1) := by decide +kernel
theorem dX9_gift_53 : decode cX9_gift 53 = .ok (.invokevirtual 240, 3) := by decide +kernel
theorem dX9_gift_56 : decode cX9_gift 56 = .ok (.aload_n 0, 1) := by decide +kernel
theorem dX9_gift_57 : decode cX9_gift 57 = .ok (.getfield 32, 3) := by decide +kernel
theorem dX9_gift_60 : decode cX9_gift 60 = .ok (.iload_n 1, 1) := by decide +kernel
theorem dX9_gift_61 : decode cX9_gift 61 = .ok (.invokevirtual 170, 3) := by decide +kernel
theorem dX9_gift_64 : decode cX9_gift 64 = .ok (.ireturn, 1) := by decide +kernel
theorem dX9_go_0 : decode cX9_go 0 = .ok (.iload_n 1, 1) := by decide +kernel
theorem dX9_go_1 : decode cX9_go 1 = .ok (.ifCond .lt 24, 3) := by decide +kernel
theorem dX9_go_4 : decode cX9_go 4 = .ok (.iload_n 1, 1) := by decide +kernel
theorem dX9_go_5 : decode cX9_go 5 = .ok (.bipush 99, 2) := by decide +kernel
theorem dX9_go_7 : decode cX9_go 7 = .ok (.if_icmp .gt 18, 3) := by decide +kernel
theorem dX9_go_10 : decode cX9_go 10 = .ok (.aload_n 0, 1) := by decide +kernel
theorem dX9_go_11 : decode cX9_go 11 = .ok (.getfield 32, 3) := by decide +kernel
theorem dX9_go_14 : decode cX9_go 14 = .ok (.getfield 218, 3) := by decide +kernel
theorem dX9_go_17 : decode cX9_go 17 = .ok (.iload_n 1, 1) := by decide +kernel
theorem dX9_go_18 : decode cX9_go 18 = .ok (.iadd, 1) := by decide +kernel
theorem dX9_go_19 : decode cX9_go 19 = .ok (.sipush 9900, 3) := by decide +kernel
theorem dX9_go_22 : decode cX9_go 22 = .ok (.if_icmp .le 5, 3) := by decide +kernel
theorem dX9_go_25 : decode cX9_go 25 = .ok (.iconst (-1), 1) := by decide +kernel
theorem dX9_go_26 : decode cX9_go 26 = .ok (.ireturn, 1) := by decide +kernel
theorem dX9_go_27 : decode cX9_go 27 = .ok (.iload_n 1, 1) := by decide +kernel
theorem dX9_go_28 : decode cX9_go 28 = .ok (.ifCond .le 11, 3) := by decide +kernel
theorem dX9_go_31 : decode cX9_go 31 = .ok (.aload_n 0, 1) := by decide +kernel
theorem dX9_go_32 : decode cX9_go 32 = .ok (.getfield 45, 3) := by decide +kernel
theorem dX9_go_35 : decode cX9_go 35 = .ok (.iconst 0, 1) := by decide +kernel
theorem dX9_go_36 : decode cX9_go 36 = .ok (.putfield 98, 3) := by decide +kernel
theorem dX9_go_39 : decode cX9_go 39 = .ok (.aload_n 0, 1) := by decide +kernel
theorem dX9_go_40 : decode cX9_go 40 = .ok (.getfield 54, 3) := by decide +kernel
theorem dX9_go_43 : decode cX9_go 43 = .ok (.aload_n 0, 1) := by decide +kernel
theorem dX9_go_44 : decode cX9_go 44 = .ok (.getfield 25, 3) := by decide +kernel
theorem dX9_go_47 : decode cX9_go 47 = .ok (.aload_n 0, 1) := by decide +kernel
theorem dX9_go_48 : decode cX9_go 48 = .ok (.getfield 32, 3) := by decide +kernel
theorem dX9_go_51 : decode cX9_go 51 = .ok (.iconst (-1), 1) := by decide +kernel
theorem dX9_go_52 : decode cX9_go 52 = .ok (.iconst 0, 1) := by decide +kernel
theorem dX9_go_53 : decode cX9_go 53 = .ok (.invokevirtual 195, 3) := by decide +kernel
theorem dX9_go_56 : decode cX9_go 56 = .ok (.aload_n 0, 1) := by decide +kernel
theorem dX9_go_57 : decode cX9_go 57 = .ok (.getfield 54, 3) := by decide +kernel
theorem dX9_go_60 : decode cX9_go 60 = .ok (.iload_n 1, 1) := by decide +kernel
theorem dX9_go_61 : decode cX9_go 61 = .ok (.invokevirtual 244, 3) := by decide +kernel
theorem dX9_go_64 : decode cX9_go 64 = .ok (.aload_n 0, 1) := by decide +kernel
theorem dX9_go_65 : decode cX9_go 65 = .ok (.getfield 32, 3) := by decide +kernel
theorem dX9_go_68 : decode cX9_go 68 = .ok (.getfield 218, 3) := by decide +kernel
theorem dX9_go_71 : decode cX9_go 71 = .ok (.ireturn, 1) := by decide +kernel
theorem dX9_ahead_0 : decode cX9_ahead 0 = .ok (.iload_n 1, 1) := by decide +kernel
theorem dX9_ahead_1 : decode cX9_ahead 1 = .ok (.ifCond .lt 31, 3) := by decide +kernel
theorem dX9_ahead_4 : decode cX9_ahead 4 = .ok (.iload_n 1, 1) := by decide +kernel
theorem dX9_ahead_5 : decode cX9_ahead 5 = .ok (.bipush 99, 2) := by decide +kernel
theorem dX9_ahead_7 : decode cX9_ahead 7 = .ok (.if_icmp .gt 25, 3) := by decide +kernel
theorem dX9_ahead_10 : decode cX9_ahead 10 = .ok (.iload_n 2, 1) := by decide +kernel
theorem dX9_ahead_11 : decode cX9_ahead 11 = .ok (.ifCond .lt 21, 3) := by decide +kernel
theorem dX9_ahead_14 : decode cX9_ahead 14 = .ok (.iload_n 2, 1) := by decide +kernel
theorem dX9_ahead_15 : decode cX9_ahead 15 = .ok (.iconst 4, 1) := by decide +kernel
theorem dX9_ahead_16 : decode cX9_ahead 16 = .ok (.if_icmp .gt 16, 3) := by decide +kernel
theorem dX9_ahead_19 : decode cX9_ahead 19 = .ok (.iload_n 2, 1) := by decide +kernel
theorem dX9_ahead_20 : decode cX9_ahead 20 = .ok (.iconst 3, 1) := by decide +kernel
theorem dX9_ahead_21 : decode cX9_ahead 21 = .ok (.if_icmp .ne 13, 3) := by decide +kernel
theorem dX9_ahead_24 : decode cX9_ahead 24 = .ok (.aload_n 0, 1) := by decide +kernel
theorem dX9_ahead_25 : decode cX9_ahead 25 = .ok (.iload_n 3, 1) := by decide +kernel
theorem dX9_ahead_26 : decode cX9_ahead 26 = .ok (.invokevirtual 164, 3) := by decide +kernel
theorem dX9_ahead_29 : decode cX9_ahead 29 = .ok (.ifCond .ne 5, 3) := by decide +kernel
theorem dX9_ahead_32 : decode cX9_ahead 32 = .ok (.iconst (-1), 1) := by decide +kernel
theorem dX9_ahead_33 : decode cX9_ahead 33 = .ok (.ireturn, 1) := by decide +kernel
theorem dX9_ahead_34 : decode cX9_ahead 34 = .ok (.aload_n 0, 1) := by decide +kernel
theorem dX9_ahead_35 : decode cX9_ahead 35 = .ok (.iconst 0, 1) := by decide +kernel
theorem dX9_ahead_36 : decode cX9_ahead 36 = .ok (.iconst 0, 1) := by decide +kernel
theorem dX9_ahead_37 : decode cX9_ahead 37 = .ok (.invokevirtual 247, 3) := by decide +kernel
theorem dX9_ahead_40 : decode cX9_ahead 40 = .ok (.aload_n 0, 1) := by decide +kernel
theorem dX9_ahead_41 : decode cX9_ahead 41 = .ok (.getfield 54, 3) := by decide +kernel
theorem dX9_ahead_44 : decode cX9_ahead 44 = .ok (.iload_n 1, 1) := by decide +kernel
theorem dX9_ahead_45 : decode cX9_ahead 45 = .ok (.invokevirtual 244, 3) := by decide +kernel
theorem dX9_ahead_48 : decode cX9_ahead 48 = .ok (.iload_n 2, 1) := by decide +kernel
theorem dX9_ahead_49 : decode cX9_ahead 49 = .ok (.iconst 3, 1) := by decide +kernel
theorem dX9_ahead_50 : decode cX9_ahead 50 = .ok (.if_icmp .ne 12, 3) := by decide +kernel
theorem dX9_ahead_53 : decode cX9_ahead 53 = .ok (.aload_n 0, 1) := by decide +kernel
theorem dX9_ahead_54 : decode cX9_ahead 54 = .ok (.getfield 36, 3) := by decide +kernel
theorem dX9_ahead_57 : decode cX9_ahead 57 = .ok (.iload_n 3, 1) := by decide +kernel
theorem dX9_ahead_58 : decode cX9_ahead 58 = .ok (.invokevirtual 170, 3) := by decide +kernel
theorem dX9_ahead_61 : decode cX9_ahead 61 = .ok (.ireturn, 1) := by decide +kernel
theorem dX9_ahead_62 : decode cX9_ahead 62 = .ok (.iload_n 2, 1) := by decide +kernel
theorem dX9_ahead_63 : decode cX9_ahead 63 = .ok (.iconst 4, 1) := by decide +kernel
theorem dX9_ahead_64 : decode cX9_ahead 64 = .ok (.if_icmp .ne 14, 3) := by decide +kernel
theorem dX9_ahead_67 : decode cX9_ahead 67 = .ok (.aload_n 0, 1) := by decide +kernel
theorem dX9_ahead_68 : decode cX9_ahead 68 = .ok (.getfield 36, 3) := by decide +kernel
theorem dX9_ahead_71 : decode cX9_ahead 71 = .ok (.getfield 250, 3) := by decide +kernel
theorem dX9_ahead_74 : decode cX9_ahead 74 = .ok (.invokestatic 253, 3) := by decide +kernel
theorem dX9_ahead_77 : decode cX9_ahead 77 = .ok (.ireturn, 1) := by decide +kernel
theorem dX9_ahead_78 : decode cX9_ahead 78 = .ok (.iconst 2, 1) := by decide +kernel
theorem dX9_ahead_79 : decode cX9_ahead 79 = .ok (.iload_n 2, 1) := by decide +kernel
theorem dX9_ahead_80 : decode cX9_ahead 80 = .ok (.iadd, 1) := by decide +kernel
theorem dX9_ahead_81 : decode cX9_ahead 81 = .ok (.istore 4, 2) := by decide +kernel
theorem dX9_ahead_83 : decode cX9_ahead 83 = .ok (.aload_n 0, 1) := by decide +kernel
theorem dX9_ahead_84 : decode cX9_ahead 84 = .ok (.getfield 36, 3) := by decide +kernel
theorem dX9_ahead_87 : decode cX9_ahead 87 = .ok (.iload 4, 2) := by decide +kernel
theorem dX9_ahead_89 : decode cX9_ahead 89 = .ok (.invokevirtual 256, 3) := by decide +kernel
theorem dX9_ahead_92 : decode cX9_ahead 92 = .ok (.aload_n 0, 1) := by decide +kernel
theorem dX9_ahead_93 : decode cX9_ahead 93 = .ok (.getfield 32, 3) := by decide +kernel
theorem dX9_ahead_96 : decode cX9_ahead 96 = .ok (.iload 4, 2) := by decide +kernel
theorem dX9_ahead_98 : decode cX9_ahead 98 = .ok (.invokevirtual 256, 3) := by decide +kernel
theorem dX9_ahead_101 : decode cX9_ahead 101 = .ok (.isub, 1) := by decide +kernel
theorem dX9_ahead_102 : decode cX9_ahead 102 = .ok (.ireturn, 1) := by decide +kernel
theorem dX9_startTrial_0 : decode cX9_startTrial 0 = .ok (.aload_n 0, 1) := by decide +kernel
theorem dX9_startTrial_1 : decode cX9_startTrial 1 = .ok (.getfield 36, 3) := by decide +kernel
theorem dX9_startTrial_4 : decode cX9_startTrial 4 = .ok (.aload_n 0, 1) := by decide +kernel
theorem dX9_startTrial_5 : decode cX9_startTrial 5 = .ok (.getfield 32, 3) := by decide +kernel
theorem dX9_startTrial_8 : decode cX9_startTrial 8 = .ok (.invokevirtual 91, 3) := by decide +kernel
theorem dX9_startTrial_11 : decode cX9_startTrial 11 = .ok (.aload_n 0, 1) := by decide +kernel
theorem dX9_startTrial_12 : decode cX9_startTrial 12 = .ok (.getfield 54, 3) := by decide +kernel
theorem dX9_startTrial_15 : decode cX9_startTrial 15 = .ok (.aload_n 0, 1) := by decide +kernel
theorem dX9_startTrial_16 : decode cX9_startTrial 16 = .ok (.getfield 25, 3) := by decide +kernel
theorem dX9_startTrial_19 : decode cX9_startTrial 19 = .ok (.aload_n 0, 1) := by decide +kernel
theorem dX9_startTrial_20 : decode cX9_startTrial 20 = .ok (.getfield 36, 3) := by decide +kernel
theorem dX9_startTrial_23 : decode cX9_startTrial 23 = .ok (.iload_n 1, 1) := by decide +kernel
theorem dX9_startTrial_24 : decode cX9_startTrial 24 = .ok (.iload_n 2, 1) := by decide +kernel
theorem dX9_startTrial_25 : decode cX9_startTrial 25 = .ok (.invokevirtual 195, 3) := by decide +kernel
theorem dX9_startTrial_28 : decode cX9_startTrial 28 = .ok (.return_, 1) := by decide +kernel
theorem dX9_ends_0 : decode cX9_ends 0 = .ok (.aload_n 0, 1) := by decide +kernel
theorem dX9_ends_1 : decode cX9_ends 1 = .ok (.iload_n 1, 1) := by decide +kernel
theorem dX9_ends_2 : decode cX9_ends 2 = .ok (.invokevirtual 130, 3) := by decide +kernel
theorem dX9_ends_5 : decode cX9_ends 5 = .ok (.ifCond .ne 5, 3) := by decide +kernel
theorem dX9_ends_8 : decode cX9_ends 8 = .ok (.iconst (-1), 1) := by decide +kernel
theorem dX9_ends_9 : decode cX9_ends 9 = .ok (.ireturn, 1) := by decide +kernel
theorem dX9_ends_10 : decode cX9_ends 10 = .ok (.aload_n 0, 1) := by decide +kernel
theorem dX9_ends_11 : decode cX9_ends 11 = .ok (.iconst 0, 1) := by decide +kernel
theorem dX9_ends_12 : decode cX9_ends 12 = .ok (.iconst 0, 1) := by decide +kernel
theorem dX9_ends_13 : decode cX9_ends 13 = .ok (.invokevirtual 247, 3) := by decide +kernel
theorem dX9_ends_16 : decode cX9_ends 16 = .ok (.iconst 0, 1) := by decide +kernel
theorem dX9_ends_17 : decode cX9_ends 17 = .ok (.istore_n 2, 1) := by decide +kernel
theorem dX9_ends_18 : decode cX9_ends 18 = .ok (.iload_n 2, 1) := by decide +kernel
theorem dX9_ends_19 : decode cX9_ends 19 = .ok (.bipush 99, 2) := by decide +kernel
theorem dX9_ends_21 : decode cX9_ends 21 = .ok (.if_icmp .gt 43, 3) := by decide +kernel
theorem dX9_ends_24 : decode cX9_ends 24 = .ok (.aload_n 0, 1) := by decide +kernel
theorem dX9_ends_25 : decode cX9_ends 25 = .ok (.getfield 36, 3) := by decide +kernel
theorem dX9_ends_28 : decode cX9_ends 28 = .ok (.getfield 152, 3) := by decide +kernel
theorem dX9_ends_31 : decode cX9_ends 31 = .ok (.iload_n 1, 1) := by decide +kernel
theorem dX9_ends_32 : decode cX9_ends 32 = .ok (.iaload, 1) := by decide +kernel
theorem dX9_ends_33 : decode cX9_ends 33 = .ok (.ifCond .eq 18, 3) := by decide +kernel
theorem dX9_ends_36 : decode cX9_ends 36 = .ok (.aload_n 0, 1) := by decide +kernel
theorem dX9_ends_37 : decode cX9_ends 37 = .ok (.getfield 36, 3) := by decide +kernel
theorem dX9_ends_40 : decode cX9_ends 40 = .ok (.getfield 152, 3) := by decide +kernel
theorem dX9_ends_43 : decode cX9_ends 43 = .ok (.iload_n 1, 1) := by decide +kernel
theorem dX9_ends_44 : decode cX9_ends 44 = .ok (.iaload, 1) := by decide +kernel
theorem dX9_ends_45 : decode cX9_ends 45 = .ok (.iconst 1, 1) := by decide +kernel
theorem dX9_ends_46 : decode cX9_ends 46 = .ok (.if_icmp .eq 5, 3) := by decide +kernel
theorem dX9_ends_49 : decode cX9_ends 49 = .ok (.iload_n 2, 1) := by decide +kernel
theorem dX9_ends_50 : decode cX9_ends 50 = .ok (.ireturn, 1) := by decide +kernel
theorem dX9_ends_51 : decode cX9_ends 51 = .ok (.aload_n 0, 1) := by decide +kernel
theorem dX9_ends_52 : decode cX9_ends 52 = .ok (.getfield 54, 3) := by decide +kernel
theorem dX9_ends_55 : decode cX9_ends 55 = .ok (.invokevirtual 259, 3) := by decide +kernel
theorem dX9_ends_58 : decode cX9_ends 58 = .ok (.iinc 2 1, 3) := by decide +kernel
theorem dX9_ends_61 : decode cX9_ends 61 = .ok (.goto (-43), 3) := by decide +kernel
theorem dX9_ends_64 : decode cX9_ends 64 = .ok (.bipush (-2), 2) := by decide +kernel
theorem dX9_ends_66 : decode cX9_ends 66 = .ok (.ireturn, 1) := by decide +kernel
theorem dX9_clear_0 : decode cX9_clear 0 = .ok (.aload_n 0, 1) := by decide +kernel
theorem dX9_clear_1 : decode cX9_clear 1 = .ok (.getfield 68, 3) := by decide +kernel
theorem dX9_clear_4 : decode cX9_clear 4 = .ok (.aload_n 0, 1) := by decide +kernel
theorem dX9_clear_5 : decode cX9_clear 5 = .ok (.getfield 32, 3) := by decide +kernel
theorem dX9_clear_8 : decode cX9_clear 8 = .ok (.aload_n 0, 1) := by decide +kernel
theorem dX9_clear_9 : decode cX9_clear 9 = .ok (.getfield 25, 3) := by decide +kernel
theorem dX9_clear_12 : decode cX9_clear 12 = .ok (.getfield 117, 3) := by decide +kernel
theorem dX9_clear_15 : decode cX9_clear 15 = .ok (.invokevirtual 262, 3) := by decide +kernel
theorem dX9_clear_18 : decode cX9_clear 18 = .ok (.ireturn, 1) := by decide +kernel
theorem dX9_keep_0 : decode cX9_keep 0 = .ok (.aload_n 0, 1) := by decide +kernel
theorem dX9_keep_1 : decode cX9_keep 1 = .ok (.iload_n 1, 1) := by decide +kernel
theorem dX9_keep_2 : decode cX9_keep 2 = .ok (.invokevirtual 130, 3) := by decide +kernel
theorem dX9_keep_5 : decode cX9_keep 5 = .ok (.ifCond .eq 13, 3) := by decide +kernel
theorem dX9_keep_8 : decode cX9_keep 8 = .ok (.iload_n 2, 1) := by decide +kernel
theorem dX9_keep_9 : decode cX9_keep 9 = .ok (.ifCond .lt 9, 3) := by decide +kernel
theorem dX9_keep_12 : decode cX9_keep 12 = .ok (.iload_n 2, 1) := by decide +kernel
theorem dX9_keep_13 : decode cX9_keep 13 = .ok (.bipush 60, 2) := by decide +kernel
theorem dX9_keep_15 : decode cX9_keep 15 = .ok (.if_icmp .le 5, 3) := by decide +kernel
theorem dX9_keep_18 : decode cX9_keep 18 = .ok (.iconst (-1), 1) := by decide +kernel
theorem dX9_keep_19 : decode cX9_keep 19 = .ok (.ireturn, 1) := by decide +kernel
theorem dX9_keep_20 : decode cX9_keep 20 = .ok (.aload_n 0, 1) := by decide +kernel
theorem dX9_keep_21 : decode cX9_keep 21 = .ok (.getfield 32, 3) := by decide +kernel
theorem dX9_keep_24 : decode cX9_keep 24 = .ok (.getfield 152, 3) := by decide +kernel
theorem dX9_keep_27 : decode cX9_keep 27 = .ok (.iload_n 1, 1) := by decide +kernel
theorem dX9_keep_28 : decode cX9_keep 28 = .ok (.iaload, 1) := by decide +kernel
theorem dX9_keep_29 : decode cX9_keep 29 = .ok (.iconst 1, 1) := by decide +kernel
theorem dX9_keep_30 : decode cX9_keep 30 = .ok (.if_icmp .eq 6, 3) := by decide +kernel
theorem dX9_keep_33 : decode cX9_keep 33 = .ok (.bipush (-2), 2) := by decide +kernel
theorem dX9_keep_35 : decode cX9_keep 35 = .ok (.ireturn, 1) := by decide +kernel
theorem dX9_keep_36 : decode cX9_keep 36 = .ok (.iconst 0, 1) := by decide +kernel
theorem dX9_keep_37 : decode cX9_keep 37 = .ok (.istore_n 3, 1) := by decide +kernel
theorem dX9_keep_38 : decode cX9_keep 38 = .ok (.iload_n 3, 1) := by decide +kernel
theorem dX9_keep_39 : decode cX9_keep 39 = .ok (.bipush 6, 2) := by decide +kernel
theorem dX9_keep_41 : decode cX9_keep 41 = .ok (.if_icmp .gt 63, 3) := by decide +kernel
theorem dX9_keep_44 : decode cX9_keep 44 = .ok (.iconst 0, 1) := by decide +kernel
theorem dX9_keep_45 : decode cX9_keep 45 = .ok (.istore 4, 2) := by decide +kernel
theorem dX9_keep_47 : decode cX9_keep 47 = .ok (.iload 4, 2) := by decide +kernel
theorem dX9_keep_49 : decode cX9_keep 49 = .ok (.bipush 64, 2) := by decide +kernel
theorem dX9_keep_51 : decode cX9_keep 51 = .ok (.if_icmp .ge 47, 3) := by decide +kernel
theorem dX9_keep_54 : decode cX9_keep 54 = .ok (.iload 4, 2) := by decide +kernel
theorem dX9_keep_56 : decode cX9_keep 56 = .ok (.aload_n 0, 1) := by decide +kernel
theorem dX9_keep_57 : decode cX9_keep 57 = .ok (.getfield 32, 3) := by decide +kernel
theorem dX9_keep_60 : decode cX9_keep 60 = .ok (.getfield 250, 3) := by decide +kernel
theorem dX9_keep_63 : decode cX9_keep 63 = .ok (.iconst (-1), 1) := by decide +kernel
theorem dX9_keep_64 : decode cX9_keep 64 = .ok (.ixor, 1) := by decide +kernel
theorem dX9_keep_65 : decode cX9_keep 65 = .ok (.iand, 1) := by decide +kernel
theorem dX9_keep_66 : decode cX9_keep 66 = .ok (.ifCond .ne 26, 3) := by decide +kernel
theorem dX9_keep_69 : decode cX9_keep 69 = .ok (.iload 4, 2) := by decide +kernel
theorem dX9_keep_71 : decode cX9_keep 71 = .ok (.invokestatic 253, 3) := by decide +kernel
theorem dX9_keep_74 : decode cX9_keep 74 = .ok (.iload_n 3, 1) := by decide +kernel
theorem dX9_keep_75 : decode cX9_keep 75 = .ok (.if_icmp .ne 17, 3) := by decide +kernel
theorem dX9_keep_78 : decode cX9_keep 78 = .ok (.aload_n 0, 1) := by decide +kernel
theorem dX9_keep_79 : decode cX9_keep 79 = .ok (.iload 4, 2) := by decide +kernel
theorem dX9_keep_81 : decode cX9_keep 81 = .ok (.iload_n 1, 1) := by decide +kernel
theorem dX9_keep_82 : decode cX9_keep 82 = .ok (.iload_n 2, 1) := by decide +kernel
theorem dX9_keep_83 : decode cX9_keep 83 = .ok (.invokevirtual 266, 3) := by decide +kernel
theorem dX9_keep_86 : decode cX9_keep 86 = .ok (.ifCond .eq 6, 3) := by decide +kernel
theorem dX9_keep_89 : decode cX9_keep 89 = .ok (.iload 4, 2) := by decide +kernel
theorem dX9_keep_91 : decode cX9_keep 91 = .ok (.ireturn, 1) := by decide +kernel
theorem dX9_keep_92 : decode cX9_keep 92 = .ok (.iinc 4 1, 3) := by decide +kernel
theorem dX9_keep_95 : decode cX9_keep 95 = .ok (.goto (-48), 3) := by decide +kernel
theorem dX9_keep_98 : decode cX9_keep 98 = .ok (.iinc 3 1, 3) := by decide +kernel
theorem dX9_keep_101 : decode cX9_keep 101 = .ok (.goto (-63), 3) := by decide +kernel
theorem dX9_keep_104 : decode cX9_keep 104 = .ok (.bipush (-2), 2) := by decide +kernel
theorem dX9_keep_106 : decode cX9_keep 106 = .ok (.ireturn, 1) := by decide +kernel
theorem dX9_isKeptBy_0 : decode cX9_isKeptBy 0 = .ok (.aload_n 0, 1) := by decide +kernel
theorem dX9_isKeptBy_1 : decode cX9_isKeptBy 1 = .ok (.iconst 0, 1) := by decide +kernel
theorem dX9_isKeptBy_2 : decode cX9_isKeptBy 2 = .ok (.iconst 0, 1) := by decide +kernel
theorem dX9_isKeptBy_3 : decode cX9_isKeptBy 3 = .ok (.invokevirtual 247, 3) := by decide +kernel
theorem dX9_isKeptBy_6 : decode cX9_isKeptBy 6 = .ok (.aload_n 0, 1) := by decide +kernel
theorem dX9_isKeptBy_7 : decode cX9_isKeptBy 7 = .ok (.getfield 36, 3) := by decide +kernel
theorem dX9_isKeptBy_10 : decode cX9_isKeptBy 10 = .ok (.getfield 158, 3) := by decide +kernel
theorem dX9_isKeptBy_13 : decode cX9_isKeptBy 13 = .ok (.iload_n 2, 1) := by decide +kernel
theorem dX9_isKeptBy_14 : decode cX9_isKeptBy 14 = .ok (.iload_n 1, 1) := by decide +kernel
theorem dX9_isKeptBy_15 : decode cX9_isKeptBy 15 = .ok (.iastore, 1) := by decide +kernel
theorem dX9_isKeptBy_16 : decode cX9_isKeptBy 16 = .ok (.iconst 0, 1) := by decide +kernel
theorem dX9_isKeptBy_17 : decode cX9_isKeptBy 17 = .ok (.istore 4, 2) := by decide +kernel
theorem dX9_isKeptBy_19 : decode cX9_isKeptBy 19 = .ok (.iload 4, 2) := by decide +kernel
theorem dX9_isKeptBy_21 : decode cX9_isKeptBy 21 = .ok (.iload_n 3, 1) := by decide +kernel
theorem dX9_isKeptBy_22 : decode cX9_isKeptBy 22 = .ok (.if_icmp .ge 29, 3) := by decide +kernel
theorem dX9_isKeptBy_25 : decode cX9_isKeptBy 25 = .ok (.aload_n 0, 1) := by decide +kernel
theorem dX9_isKeptBy_26 : decode cX9_isKeptBy 26 = .ok (.getfield 36, 3) := by decide +kernel
theorem dX9_isKeptBy_29 : decode cX9_isKeptBy 29 = .ok (.getfield 152, 3) := by decide +kernel
theorem dX9_isKeptBy_32 : decode cX9_isKeptBy 32 = .ok (.iload_n 2, 1) := by decide +kernel
theorem dX9_isKeptBy_33 : decode cX9_isKeptBy 33 = .ok (.iaload, 1) := by decide +kernel
theorem dX9_isKeptBy_34 : decode cX9_isKeptBy 34 = .ok (.iconst 1, 1) := by decide +kernel
theorem dX9_isKeptBy_35 : decode cX9_isKeptBy 35 = .ok (.if_icmp .ne 16, 3) := by decide +kernel
theorem dX9_isKeptBy_38 : decode cX9_isKeptBy 38 = .ok (.aload_n 0, 1) := by decide +kernel
theorem dX9_isKeptBy_39 : decode cX9_isKeptBy 39 = .ok (.getfield 54, 3) := by decide +kernel
theorem dX9_isKeptBy_42 : decode cX9_isKeptBy 42 = .ok (.invokevirtual 259, 3) := by decide +kernel
theorem dX9_isKeptBy_45 : decode cX9_isKeptBy 45 = .ok (.iinc 4 1, 3) := by decide +kernel
theorem dX9_isKeptBy_48 : decode cX9_isKeptBy 48 = .ok (.goto (-29), 3) := by decide +kernel
theorem dX9_isKeptBy_51 : decode cX9_isKeptBy 51 = .ok (.aload_n 0, 1) := by decide +kernel
theorem dX9_isKeptBy_52 : decode cX9_isKeptBy 52 = .ok (.getfield 36, 3) := by decide +kernel
theorem dX9_isKeptBy_55 : decode cX9_isKeptBy 55 = .ok (.getfield 152, 3) := by decide +kernel
theorem dX9_isKeptBy_58 : decode cX9_isKeptBy 58 = .ok (.iload_n 2, 1) := by decide +kernel
theorem dX9_isKeptBy_59 : decode cX9_isKeptBy 59 = .ok (.iaload, 1) := by decide +kernel
theorem dX9_isKeptBy_60 : decode cX9_isKeptBy 60 = .ok (.iconst 2, 1) := by decide +kernel
theorem dX9_isKeptBy_61 : decode cX9_isKeptBy 61 = .ok (.if_icmp .eq 15, 3) := by decide +kernel
theorem dX9_isKeptBy_64 : decode cX9_isKeptBy 64 = .ok (.aload_n 0, 1) := by decide +kernel
theorem dX9_isKeptBy_65 : decode cX9_isKeptBy 65 = .ok (.getfield 36, 3) := by decide +kernel
theorem dX9_isKeptBy_68 : decode cX9_isKeptBy 68 = .ok (.getfield 158, 3) := by decide +kernel
theorem dX9_isKeptBy_71 : decode cX9_isKeptBy 71 = .ok (.iload_n 2, 1) := by decide +kernel
theorem dX9_isKeptBy_72 : decode cX9_isKeptBy 72 = .ok (.iaload, 1) := by decide +kernel
theorem dX9_isKeptBy_73 : decode cX9_isKeptBy 73 = .ok (.ifCond .eq 7, 3) := by decide +kernel
theorem dX9_isKeptBy_76 : decode cX9_isKeptBy 76 = .ok (.iconst 1, 1) := by decide +kernel
theorem dX9_isKeptBy_77 : decode cX9_isKeptBy 77 = .ok (.goto 4, 3) := by decide +kernel
theorem dX9_isKeptBy_80 : decode cX9_isKeptBy 80 = .ok (.iconst 0, 1) := by decide +kernel
theorem dX9_isKeptBy_81 : decode cX9_isKeptBy 81 = .ok (.ireturn, 1) := by decide +kernel
theorem dX9_order_0 : decode cX9_order 0 = .ok (.iload_n 1, 1) := by decide +kernel
theorem dX9_order_1 : decode cX9_order 1 = .ok (.ifCond .lt 8, 3) := by decide +kernel
theorem dX9_order_4 : decode cX9_order 4 = .ok (.iload_n 1, 1) := by decide +kernel
theorem dX9_order_5 : decode cX9_order 5 = .ok (.iconst 4, 1) := by decide +kernel
theorem dX9_order_6 : decode cX9_order 6 = .ok (.if_icmp .le 5, 3) := by decide +kernel
theorem dX9_order_9 : decode cX9_order 9 = .ok (.iconst (-1), 1) := by decide +kernel
theorem dX9_order_10 : decode cX9_order 10 = .ok (.ireturn, 1) := by decide +kernel
theorem dX9_order_11 : decode cX9_order 11 = .ok (.aload_n 0, 1) := by decide +kernel
theorem dX9_order_12 : decode cX9_order 12 = .ok (.getfield 68, 3) := by decide +kernel
theorem dX9_order_15 : decode cX9_order 15 = .ok (.aload_n 0, 1) := by decide +kernel
theorem dX9_order_16 : decode cX9_order 16 = .ok (.getfield 32, 3) := by decide +kernel
theorem dX9_order_19 : decode cX9_order 19 = .ok (.invokevirtual 270, 3) := by decide +kernel
theorem dX9_order_22 : decode cX9_order 22 = .ok (.iload_n 1, 1) := by decide +kernel
theorem dX9_order_23 : decode cX9_order 23 = .ok (.iconst 4, 1) := by decide +kernel
theorem dX9_order_24 : decode cX9_order 24 = .ok (.if_icmp .ne 11, 3) := by decide +kernel
theorem dX9_order_27 : decode cX9_order 27 = .ok (.aload_n 0, 1) := by decide +kernel
theorem dX9_order_28 : decode cX9_order 28 = .ok (.getfield 68, 3) := by decide +kernel
theorem dX9_order_31 : decode cX9_order 31 = .ok (.getfield 273, 3) := by decide +kernel
theorem dX9_order_34 : decode cX9_order 34 = .ok (.ireturn, 1) := by decide +kernel
theorem dX9_order_35 : decode cX9_order 35 = .ok (.iload_n 1, 1) := by decide +kernel
theorem dX9_order_36 : decode cX9_order 36 = .ok (.aload_n 0, 1) := by decide +kernel
theorem dX9_order_37 : decode cX9_order 37 = .ok (.getfield 68, 3) := by decide +kernel
theorem dX9_order_40 : decode cX9_order 40 = .ok (.getfield 276, 3) := by decide +kernel
theorem dX9_order_43 : decode cX9_order 43 = .ok (.if_icmp .ge 15, 3) := by decide +kernel
theorem dX9_order_46 : decode cX9_order 46 = .ok (.aload_n 0, 1) := by decide +kernel
theorem dX9_order_47 : decode cX9_order 47 = .ok (.getfield 68, 3) := by decide +kernel
theorem dX9_order_50 : decode cX9_order 50 = .ok (.getfield 279, 3) := by decide +kernel
theorem dX9_order_53 : decode cX9_order 53 = .ok (.iload_n 1, 1) := by decide +kernel
theorem dX9_order_54 : decode cX9_order 54 = .ok (.iaload, 1) := by decide +kernel
theorem dX9_order_55 : decode cX9_order 55 = .ok (.goto 5, 3) := by decide +kernel
theorem dX9_order_58 : decode cX9_order 58 = .ok (.bipush (-2), 2) := by decide +kernel
theorem dX9_order_60 : decode cX9_order 60 = .ok (.ireturn, 1) := by decide +kernel
theorem dX9_rests_0 : decode cX9_rests 0 = .ok (.aload_n 0, 1) := by decide +kernel
theorem dX9_rests_1 : decode cX9_rests 1 = .ok (.iload_n 1, 1) := by decide +kernel
theorem dX9_rests_2 : decode cX9_rests 2 = .ok (.iload_n 2, 1) := by decide +kernel
theorem dX9_rests_3 : decode cX9_rests 3 = .ok (.invokevirtual 282, 3) := by decide +kernel
theorem dX9_rests_6 : decode cX9_rests 6 = .ok (.ifCond .eq 19, 3) := by decide +kernel
theorem dX9_rests_9 : decode cX9_rests 9 = .ok (.aload_n 0, 1) := by decide +kernel
theorem dX9_rests_10 : decode cX9_rests 10 = .ok (.getfield 68, 3) := by decide +kernel
theorem dX9_rests_13 : decode cX9_rests 13 = .ok (.aload_n 0, 1) := by decide +kernel
theorem dX9_rests_14 : decode cX9_rests 14 = .ok (.getfield 32, 3) := by decide +kernel
theorem dX9_rests_17 : decode cX9_rests 17 = .ok (.iload_n 1, 1) := by decide +kernel
theorem dX9_rests_18 : decode cX9_rests 18 = .ok (.iload_n 2, 1) := by decide +kernel
theorem dX9_rests_19 : decode cX9_rests 19 = .ok (.invokevirtual 286, 3) := by decide +kernel
theorem dX9_rests_22 : decode cX9_rests 22 = .ok (.goto 4, 3) := by decide +kernel
theorem dX9_rests_25 : decode cX9_rests 25 = .ok (.iconst (-1), 1) := by decide +kernel
theorem dX9_rests_26 : decode cX9_rests 26 = .ok (.ireturn, 1) := by decide +kernel
theorem dX9_rest_0 : decode cX9_rest 0 = .ok (.aload_n 0, 1) := by decide +kernel
theorem dX9_rest_1 : decode cX9_rest 1 = .ok (.iload_n 1, 1) := by decide +kernel
theorem dX9_rest_2 : decode cX9_rest 2 = .ok (.iload_n 2, 1) := by decide +kernel
theorem dX9_rest_3 : decode cX9_rest 3 = .ok (.invokevirtual 282, 3) := by decide +kernel
theorem dX9_rest_6 : decode cX9_rest 6 = .ok (.ifCond .eq 7, 3) := by decide +kernel
theorem dX9_rest_9 : decode cX9_rest 9 = .ok (.iload_n 3, 1) := by decide +kernel
theorem dX9_rest_10 : decode cX9_rest 10 = .ok (.ifCond .ge 5, 3) := by decide +kernel
theorem dX9_rest_13 : decode cX9_rest 13 = .ok (.iconst (-1), 1) := by decide +kernel
theorem dX9_rest_14 : decode cX9_rest 14 = .ok (.ireturn, 1) := by decide +kernel
theorem dX9_rest_15 : decode cX9_rest 15 = .ok (.aload_n 0, 1) := by decide +kernel
theorem dX9_rest_16 : decode cX9_rest 16 = .ok (.getfield 68, 3) := by decide +kernel
theorem dX9_rest_19 : decode cX9_rest 19 = .ok (.aload_n 0, 1) := by decide +kernel
theorem dX9_rest_20 : decode cX9_rest 20 = .ok (.getfield 32, 3) := by decide +kernel
theorem dX9_rest_23 : decode cX9_rest 23 = .ok (.iload_n 1, 1) := by decide +kernel
theorem dX9_rest_24 : decode cX9_rest 24 = .ok (.iload_n 2, 1) := by decide +kernel
theorem dX9_rest_25 : decode cX9_rest 25 = .ok (.invokevirtual 286, 3) := by decide +kernel
theorem dX9_rest_28 : decode cX9_rest 28 = .ok (.istore 4, 2) := by decide +kernel
theorem dX9_rest_30 : decode cX9_rest 30 = .ok (.iload_n 3, 1) := by decide +kernel
theorem dX9_rest_31 : decode cX9_rest 31 = .ok (.iload 4, 2) := by decide +kernel
theorem dX9_rest_33 : decode cX9_rest 33 = .ok (.if_icmp .ge 27, 3) := by decide +kernel
theorem dX9_rest_36 : decode cX9_rest 36 = .ok (.iload_n 3, 1) := by decide +kernel
theorem dX9_rest_37 : decode cX9_rest 37 = .ok (.aload_n 0, 1) := by decide +kernel
theorem dX9_rest_38 : decode cX9_rest 38 = .ok (.getfield 68, 3) := by decide +kernel
theorem dX9_rest_41 : decode cX9_rest 41 = .ok (.getfield 290, 3) := by decide +kernel
theorem dX9_rest_44 : decode cX9_rest 44 = .ok (.arraylength, 1) := by decide +kernel
theorem dX9_rest_45 : decode cX9_rest 45 = .ok (.if_icmp .ge 15, 3) := by decide +kernel
theorem dX9_rest_48 : decode cX9_rest 48 = .ok (.aload_n 0, 1) := by decide +kernel
theorem dX9_rest_49 : decode cX9_rest 49 = .ok (.getfield 68, 3) := by decide +kernel
theorem dX9_rest_52 : decode cX9_rest 52 = .ok (.getfield 290, 3) := by decide +kernel
theorem dX9_rest_55 : decode cX9_rest 55 = .ok (.iload_n 3, 1) := by decide +kernel
theorem dX9_rest_56 : decode cX9_rest 56 = .ok (.iaload, 1) := by decide +kernel
theorem dX9_rest_57 : decode cX9_rest 57 = .ok (.goto 5, 3) := by decide +kernel
theorem dX9_rest_60 : decode cX9_rest 60 = .ok (.bipush (-2), 2) := by decide +kernel
theorem dX9_rest_62 : decode cX9_rest 62 = .ok (.ireturn, 1) := by decide +kernel
theorem dX9_canAsk_0 : decode cX9_canAsk 0 = .ok (.aload_n 0, 1) := by decide +kernel
theorem dX9_canAsk_1 : decode cX9_canAsk 1 = .ok (.iload_n 1, 1) := by decide +kernel
theorem dX9_canAsk_2 : decode cX9_canAsk 2 = .ok (.invokevirtual 130, 3) := by decide +kernel
theorem dX9_canAsk_5 : decode cX9_canAsk 5 = .ok (.ifCond .eq 67, 3) := by decide +kernel
theorem dX9_canAsk_8 : decode cX9_canAsk 8 = .ok (.aload_n 0, 1) := by decide +kernel
theorem dX9_canAsk_9 : decode cX9_canAsk 9 = .ok (.iload_n 2, 1) := by decide +kernel
theorem dX9_canAsk_10 : decode cX9_canAsk 10 = .ok (.invokevirtual 130, 3) := by decide +kernel
theorem dX9_canAsk_13 : decode cX9_canAsk 13 = .ok (.ifCond .eq 59, 3) := by decide +kernel
theorem dX9_canAsk_16 : decode cX9_canAsk 16 = .ok (.iload_n 1, 1) := by decide +kernel
theorem dX9_canAsk_17 : decode cX9_canAsk 17 = .ok (.iload_n 2, 1) := by decide +kernel
theorem dX9_canAsk_18 : decode cX9_canAsk 18 = .ok (.if_icmp .eq 54, 3) := by decide +kernel
theorem dX9_canAsk_21 : decode cX9_canAsk 21 = .ok (.aload_n 0, 1) := by decide +kernel
theorem dX9_canAsk_22 : decode cX9_canAsk 22 = .ok (.getfield 32, 3) := by decide +kernel
theorem dX9_canAsk_25 : decode cX9_canAsk 25 = .ok (.getfield 152, 3) := by decide +kernel
theorem dX9_canAsk_28 : decode cX9_canAsk 28 = .ok (.iload_n 1, 1) := by decide +kernel
theorem dX9_canAsk_29 : decode cX9_canAsk 29 = .ok (.iaload, 1) := by decide +kernel
theorem dX9_canAsk_30 : decode cX9_canAsk 30 = .ok (.iconst 1, 1) := by decide +kernel
theorem dX9_canAsk_31 : decode cX9_canAsk 31 = .ok (.if_icmp .ne 41, 3) := by decide +kernel
theorem dX9_canAsk_34 : decode cX9_canAsk 34 = .ok (.aload_n 0, 1) := by decide +kernel
theorem dX9_canAsk_35 : decode cX9_canAsk 35 = .ok (.getfield 32, 3) := by decide +kernel
theorem dX9_canAsk_38 : decode cX9_canAsk 38 = .ok (.getfield 152, 3) := by decide +kernel
theorem dX9_canAsk_41 : decode cX9_canAsk 41 = .ok (.iload_n 2, 1) := by decide +kernel
theorem dX9_canAsk_42 : decode cX9_canAsk 42 = .ok (.iaload, 1) := by decide +kernel
theorem dX9_canAsk_43 : decode cX9_canAsk 43 = .ok (.iconst 1, 1) := by decide +kernel
theorem dX9_canAsk_44 : decode cX9_canAsk 44 = .ok (.if_icmp .ne 28, 3) := by decide +kernel
theorem dX9_canAsk_47 : decode cX9_canAsk 47 = .ok (.aload_n 0, 1) := by decide +kernel
theorem dX9_canAsk_48 : decode cX9_canAsk 48 = .ok (.getfield 32, 3) := by decide +kernel
theorem dX9_canAsk_51 : decode cX9_canAsk 51 = .ok (.getfield 140, 3) := by decide +kernel
theorem dX9_canAsk_54 : decode cX9_canAsk 54 = .ok (.iload_n 1, 1) := by decide +kernel
theorem dX9_canAsk_55 : decode cX9_canAsk 55 = .ok (.iaload, 1) := by decide +kernel
theorem dX9_canAsk_56 : decode cX9_canAsk 56 = .ok (.aload_n 0, 1) := by decide +kernel
theorem dX9_canAsk_57 : decode cX9_canAsk 57 = .ok (.getfield 32, 3) := by decide +kernel
theorem dX9_canAsk_60 : decode cX9_canAsk 60 = .ok (.getfield 140, 3) := by decide +kernel
theorem dX9_canAsk_63 : decode cX9_canAsk 63 = .ok (.iload_n 2, 1) := by decide +kernel
theorem dX9_canAsk_64 : decode cX9_canAsk 64 = .ok (.iaload, 1) := by decide +kernel
theorem dX9_canAsk_65 : decode cX9_canAsk 65 = .ok (.if_icmp .ne 7, 3) := by decide +kernel
theorem dX9_canAsk_68 : decode cX9_canAsk 68 = .ok (.iconst 1, 1) := by decide +kernel
theorem dX9_canAsk_69 : decode cX9_canAsk 69 = .ok (.goto 4, 3) := by decide +kernel
theorem dX9_canAsk_72 : decode cX9_canAsk 72 = .ok (.iconst 0, 1) := by decide +kernel
theorem dX9_canAsk_73 : decode cX9_canAsk 73 = .ok (.ireturn, 1) := by decide +kernel
theorem dX9_lives_0 : decode cX9_lives 0 = .ok (.aload_n 0, 1) := by decide +kernel
theorem dX9_lives_1 : decode cX9_lives 1 = .ok (.iload_n 1, 1) := by decide +kernel
theorem dX9_lives_2 : decode cX9_lives 2 = .ok (.invokevirtual 177, 3) := by decide +kernel
theorem dX9_lives_5 : decode cX9_lives 5 = .ok (.ifCond .eq 33, 3) := by decide +kernel
theorem dX9_lives_8 : decode cX9_lives 8 = .ok (.aload_n 0, 1) := by decide +kernel
theorem dX9_lives_9 : decode cX9_lives 9 = .ok (.getfield 32, 3) := by decide +kernel
theorem dX9_lives_12 : decode cX9_lives 12 = .ok (.iload_n 1, 1) := by decide +kernel
theorem dX9_lives_13 : decode cX9_lives 13 = .ok (.invokevirtual 186, 3) := by decide +kernel
theorem dX9_lives_16 : decode cX9_lives 16 = .ok (.ifCond .eq 22, 3) := by decide +kernel
theorem dX9_lives_19 : decode cX9_lives 19 = .ok (.iload_n 2, 1) := by decide +kernel
theorem dX9_lives_20 : decode cX9_lives 20 = .ok (.ifCond .lt 18, 3) := by decide +kernel
theorem dX9_lives_23 : decode cX9_lives 23 = .ok (.iload_n 2, 1) := by decide +kernel
theorem dX9_lives_24 : decode cX9_lives 24 = .ok (.bipush 6, 2) := by decide +kernel
theorem dX9_lives_26 : decode cX9_lives 26 = .ok (.if_icmp .gt 12, 3) := by decide +kernel
theorem dX9_lives_29 : decode cX9_lives 29 = .ok (.iload_n 3, 1) := by decide +kernel
theorem dX9_lives_30 : decode cX9_lives 30 = .ok (.ifCond .lt 8, 3) := by decide +kernel
theorem dX9_lives_33 : decode cX9_lives 33 = .ok (.iload_n 3, 1) := by decide +kernel
theorem dX9_lives_34 : decode cX9_lives 34 = .ok (.iconst 1, 1) := by decide +kernel
theorem dX9_lives_35 : decode cX9_lives 35 = .ok (.if_icmp .le 7, 3) := by decide +kernel
theorem dX9_lives_38 : decode cX9_lives 38 = .ok (.ldc2_w 293, 3) := by decide +kernel
theorem dX9_lives_41 : decode cX9_lives 41 = .ok (.lreturn, 1) := by decide +kernel
theorem dX9_lives_42 : decode cX9_lives 42 = .ok (.aload_n 0, 1) := by decide +kernel
theorem dX9_lives_43 : decode cX9_lives 43 = .ok (.getfield 54, 3) := by decide +kernel
theorem dX9_lives_46 : decode cX9_lives 46 = .ok (.aload_n 0, 1) := by decide +kernel
theorem dX9_lives_47 : decode cX9_lives 47 = .ok (.getfield 25, 3) := by decide +kernel
theorem dX9_lives_50 : decode cX9_lives 50 = .ok (.aload_n 0, 1) := by decide +kernel
theorem dX9_lives_51 : decode cX9_lives 51 = .ok (.getfield 32, 3) := by decide +kernel
theorem dX9_lives_54 : decode cX9_lives 54 = .ok (.iconst 0, 1) := by decide +kernel
theorem dX9_lives_55 : decode cX9_lives 55 = .ok (.iconst 0, 1) := by decide +kernel
theorem dX9_lives_56 : decode cX9_lives 56 = .ok (.invokevirtual 195, 3) := by decide +kernel
theorem dX9_lives_59 : decode cX9_lives 59 = .ok (.lconst 1, 1) := by decide +kernel
theorem dX9_lives_60 : decode cX9_lives 60 = .ok (.lstore 4, 2) := by decide +kernel
theorem dX9_lives_62 : decode cX9_lives 62 = .ok (.lconst 1, 1) := by decide +kernel
theorem dX9_lives_63 : decode cX9_lives 63 = .ok (.lstore 6, 2) := by decide +kernel
theorem dX9_lives_65 : decode cX9_lives 65 = .ok (.iconst 1, 1) := by decide +kernel
theorem dX9_lives_66 : decode cX9_lives 66 = .ok (.istore 8, 2) := by decide +kernel
theorem dX9_lives_68 : decode cX9_lives 68 = .ok (.iload 8, 2) := by decide +kernel
theorem dX9_lives_70 : decode cX9_lives 70 = .ok (.iload_n 2, 1) := by decide +kernel
theorem dX9_lives_71 : decode cX9_lives 71 = .ok (.if_icmp .gt 51, 3) := by decide +kernel
theorem dX9_lives_74 : decode cX9_lives 74 = .ok (.lload 4, 2) := by decide +kernel
theorem dX9_lives_76 : decode cX9_lives 76 = .ok (.bipush 100, 2) := by decide +kernel
theorem dX9_lives_78 : decode cX9_lives 78 = .ok (.aload_n 0, 1) := by decide +kernel
theorem dX9_lives_79 : decode cX9_lives 79 = .ok (.getfield 54, 3) := by decide +kernel
theorem dX9_lives_82 : decode cX9_lives 82 = .ok (.iload_n 1, 1) := by decide +kernel
theorem dX9_lives_83 : decode cX9_lives 83 = .ok (.bipush 99, 2) := by decide +kernel
theorem dX9_lives_85 : decode cX9_lives 85 = .ok (.aload_n 0, 1) := by decide +kernel
theorem dX9_lives_86 : decode cX9_lives 86 = .ok (.getfield 32, 3) := by decide +kernel
theorem dX9_lives_89 : decode cX9_lives 89 = .ok (.getfield 180, 3) := by decide +kernel
theorem dX9_lives_92 : decode cX9_lives 92 = .ok (.iload_n 1, 1) := by decide +kernel
theorem dX9_lives_93 : decode cX9_lives 93 = .ok (.iaload, 1) := by decide +kernel
theorem dX9_lives_94 : decode cX9_lives 94 = .ok (.iload 8, 2) := by decide +kernel
theorem dX9_lives_96 : decode cX9_lives 96 = .ok (.iadd, 1) := by decide +kernel
theorem dX9_lives_97 : decode cX9_lives 97 = .ok (.invokestatic 295, 3) := by decide +kernel
theorem dX9_lives_100 : decode cX9_lives 100 = .ok (.invokevirtual 300, 3) := by decide +kernel
theorem dX9_lives_103 : decode cX9_lives 103 = .ok (.isub, 1) := by decide +kernel
theorem dX9_lives_104 : decode cX9_lives 104 = .ok (.i2l, 1) := by decide +kernel
theorem dX9_lives_105 : decode cX9_lives 105 = .ok (.lmul, 1) := by decide +kernel
theorem dX9_lives_106 : decode cX9_lives 106 = .ok (.lstore 4, 2) := by decide +kernel
theorem dX9_lives_108 : decode cX9_lives 108 = .ok (.lload 6, 2) := by decide +kernel
theorem dX9_lives_110 : decode cX9_lives 110 = .ok (.ldc2_w 303, 3) := by decide +kernel
theorem dX9_lives_113 : decode cX9_lives 113 = .ok (.lmul, 1) := by decide +kernel
theorem dX9_lives_114 : decode cX9_lives 114 = .ok (.lstore 6, 2) := by decide +kernel
theorem dX9_lives_116 : decode cX9_lives 116 = .ok (.iinc 8 1, 3) := by decide +kernel
theorem dX9_lives_119 : decode cX9_lives 119 = .ok (.goto (-51), 3) := by decide +kernel
theorem dX9_lives_122 : decode cX9_lives 122 = .ok (.lload 4, 2) := by decide +kernel
theorem dX9_lives_124 : decode cX9_lives 124 = .ok (.lload 6, 2) := by decide +kernel
theorem dX9_lives_126 : decode cX9_lives 126 = .ok (.invokestatic 305, 3) := by decide +kernel
theorem dX9_lives_129 : decode cX9_lives 129 = .ok (.lstore 8, 2) := by decide +kernel
theorem dX9_lives_131 : decode cX9_lives 131 = .ok (.lload 8, 2) := by decide +kernel
theorem dX9_lives_133 : decode cX9_lives 133 = .ok (.lconst 1, 1) := by decide +kernel
theorem dX9_lives_134 : decode cX9_lives 134 = .ok (.lcmp, 1) := by decide +kernel
theorem dX9_lives_135 : decode cX9_lives 135 = .ok (.ifCond .ge 7, 3) := by decide +kernel
theorem dX9_lives_138 : decode cX9_lives 138 = .ok (.ldc2_w 293, 3) := by decide +kernel
theorem dX9_lives_141 : decode cX9_lives 141 = .ok (.lreturn, 1) := by decide +kernel
theorem dX9_lives_142 : decode cX9_lives 142 = .ok (.iload_n 3, 1) := by decide +kernel
theorem dX9_lives_143 : decode cX9_lives 143 = .ok (.ifCond .ne 11, 3) := by decide +kernel
theorem dX9_lives_146 : decode cX9_lives 146 = .ok (.lload 4, 2) := by decide +kernel
theorem dX9_lives_148 : decode cX9_lives 148 = .ok (.lload 8, 2) := by decide +kernel
theorem dX9_lives_150 : decode cX9_lives 150 = .ok (.ldiv, 1) := by decide +kernel
theorem dX9_lives_151 : decode cX9_lives 151 = .ok (.goto 8, 3) := by decide +kernel
theorem dX9_lives_154 : decode cX9_lives 154 = .ok (.lload 6, 2) := by decide +kernel
theorem dX9_lives_156 : decode cX9_lives 156 = .ok (.lload 8, 2) := by decide +kernel
theorem dX9_lives_158 : decode cX9_lives 158 = .ok (.ldiv, 1) := by decide +kernel
theorem dX9_lives_159 : decode cX9_lives 159 = .ok (.lreturn, 1) := by decide +kernel
theorem dX9_commonDivisor_0 : decode cX9_commonDivisor 0 = .ok (.lload_n 0, 1) := by decide +kernel
theorem dX9_commonDivisor_1 : decode cX9_commonDivisor 1 = .ok (.lstore 4, 2) := by decide +kernel
theorem dX9_commonDivisor_3 : decode cX9_commonDivisor 3 = .ok (.lload_n 2, 1) := by decide +kernel
theorem dX9_commonDivisor_4 : decode cX9_commonDivisor 4 = .ok (.lstore 6, 2) := by decide +kernel
theorem dX9_commonDivisor_6 : decode cX9_commonDivisor 6 = .ok (.iconst 0, 1) := by decide +kernel
theorem dX9_commonDivisor_7 : decode cX9_commonDivisor 7 = .ok (.istore 8, 2) := by decide +kernel
theorem dX9_commonDivisor_9 : decode cX9_commonDivisor 9 = .ok (.iload 8, 2) := by decide +kernel
theorem dX9_commonDivisor_11 : decode cX9_commonDivisor 11 = .ok (.bipush 100, 2) := by decide +kernel
theorem dX9_commonDivisor_13 : decode cX9_commonDivisor 13 = .ok (.if_icmp .ge 31, 3) := by decide +kernel
theorem dX9_commonDivisor_16 : decode cX9_commonDivisor 16 = .ok (.lload 6, 2) := by decide +kernel
theorem dX9_commonDivisor_18 : decode cX9_commonDivisor 18 = .ok (.lconst 0, 1) := by decide +kernel
theorem dX9_commonDivisor_19 : decode cX9_commonDivisor 19 = .ok (.lcmp, 1) := by decide +kernel
theorem dX9_commonDivisor_20 : decode cX9_commonDivisor 20 = .ok (.ifCond .eq 24, 3) := by decide +kernel
theorem dX9_commonDivisor_23 : decode cX9_commonDivisor 23 = .ok (.lload 4, 2) := by decide +kernel
theorem dX9_commonDivisor_25 : decode cX9_commonDivisor 25 = .ok (.lload 6, 2) := by decide +kernel
theorem dX9_commonDivisor_27 : decode cX9_commonDivisor 27 = .ok (.lrem, 1) := by decide +kernel
theorem dX9_commonDivisor_28 : decode cX9_commonDivisor 28 = .ok (.lstore 9, 2) := by decide +kernel
theorem dX9_commonDivisor_30 : decode cX9_commonDivisor 30 = .ok (.lload 6, 2) := by decide +kernel
theorem dX9_commonDivisor_32 : decode cX9_commonDivisor 32 = .ok (.lstore 4, 2) := by decide +kernel
theorem dX9_commonDivisor_34 : decode cX9_commonDivisor 34 = .ok (.lload 9, 2) := by decide +kernel
theorem dX9_commonDivisor_36 : decode cX9_commonDivisor 36 = .ok (.lstore 6, 2) := by decide +kernel
theorem dX9_commonDivisor_38 : decode cX9_commonDivisor 38 = .ok (.iinc 8 1, 3) := by decide +kernel
theorem dX9_commonDivisor_41 : decode cX9_commonDivisor 41 = .ok (.goto (-32), 3) := by decide +kernel
theorem dX9_commonDivisor_44 : decode cX9_commonDivisor 44 = .ok (.lload 4, 2) := by decide +kernel
theorem dX9_commonDivisor_46 : decode cX9_commonDivisor 46 = .ok (.lreturn, 1) := by decide +kernel
theorem dX9_before_0 : decode cX9_before 0 = .ok (.iload_n 1, 1) := by decide +kernel
theorem dX9_before_1 : decode cX9_before 1 = .ok (.ifCond .lt 8, 3) := by decide +kernel
theorem dX9_before_4 : decode cX9_before 4 = .ok (.iload_n 1, 1) := by decide +kernel
theorem dX9_before_5 : decode cX9_before 5 = .ok (.iconst 1, 1) := by decide +kernel
theorem dX9_before_6 : decode cX9_before 6 = .ok (.if_icmp .le 5, 3) := by decide +kernel
theorem dX9_before_9 : decode cX9_before 9 = .ok (.iconst (-1), 1) := by decide +kernel
theorem dX9_before_10 : decode cX9_before 10 = .ok (.ireturn, 1) := by decide +kernel
theorem dX9_before_11 : decode cX9_before 11 = .ok (.iconst (-1), 1) := by decide +kernel
theorem dX9_before_12 : decode cX9_before 12 = .ok (.istore_n 2, 1) := by decide +kernel
theorem dX9_before_13 : decode cX9_before 13 = .ok (.iconst 0, 1) := by decide +kernel
theorem dX9_before_14 : decode cX9_before 14 = .ok (.istore_n 3, 1) := by decide +kernel
theorem dX9_before_15 : decode cX9_before 15 = .ok (.aload_n 0, 1) := by decide +kernel
theorem dX9_before_16 : decode cX9_before 16 = .ok (.invokevirtual 309, 3) := by decide +kernel
theorem dX9_before_19 : decode cX9_before 19 = .ok (.iconst 0, 1) := by decide +kernel
theorem dX9_before_20 : decode cX9_before 20 = .ok (.istore 4, 2) := by decide +kernel
theorem dX9_before_22 : decode cX9_before 22 = .ok (.iload 4, 2) := by decide +kernel
theorem dX9_before_24 : decode cX9_before 24 = .ok (.aload_n 0, 1) := by decide +kernel
theorem dX9_before_25 : decode cX9_before 25 = .ok (.getfield 25, 3) := by decide +kernel
theorem dX9_before_28 : decode cX9_before 28 = .ok (.getfield 127, 3) := by decide +kernel
theorem dX9_before_31 : decode cX9_before 31 = .ok (.if_icmp .ge 90, 3) := by decide +kernel
theorem dX9_before_34 : decode cX9_before 34 = .ok (.aload_n 0, 1) := by decide +kernel
theorem dX9_before_35 : decode cX9_before 35 = .ok (.getfield 68, 3) := by decide +kernel
theorem dX9_before_38 : decode cX9_before 38 = .ok (.getfield 312, 3) := by decide +kernel
theorem dX9_before_41 : decode cX9_before 41 = .ok (.iload 4, 2) := by decide +kernel
theorem dX9_before_43 : decode cX9_before 43 = .ok (.iaload, 1) := by decide +kernel
theorem dX9_before_44 : decode cX9_before 44 = .ok (.istore 5, 2) := by decide +kernel
theorem dX9_before_46 : decode cX9_before 46 = .ok (.iload_n 2, 1) := by decide +kernel
theorem dX9_before_47 : decode cX9_before 47 = .ok (.iconst (-1), 1) := by decide +kernel
theorem dX9_before_48 : decode cX9_before 48 = .ok (.if_icmp .eq 31, 3) := by decide +kernel
theorem dX9_before_51 : decode cX9_before 51 = .ok (.iload 5, 2) := by decide +kernel
theorem dX9_before_53 : decode cX9_before 53 = .ok (.iload_n 3, 1) := by decide +kernel
theorem dX9_before_54 : decode cX9_before 54 = .ok (.if_icmp .ne 29, 3) := by decide +kernel
theorem dX9_before_57 : decode cX9_before 57 = .ok (.aload_n 0, 1) := by decide +kernel
theorem dX9_before_58 : decode cX9_before 58 = .ok (.getfield 25, 3) := by decide +kernel
theorem dX9_before_61 : decode cX9_before 61 = .ok (.getfield 183, 3) := by decide +kernel
theorem dX9_before_64 : decode cX9_before 64 = .ok (.iload 4, 2) := by decide +kernel
theorem dX9_before_66 : decode cX9_before 66 = .ok (.iaload, 1) := by decide +kernel
theorem dX9_before_67 : decode cX9_before 67 = .ok (.aload_n 0, 1) := by decide +kernel
theorem dX9_before_68 : decode cX9_before 68 = .ok (.getfield 25, 3) := by decide +kernel
theorem dX9_before_71 : decode cX9_before 71 = .ok (.getfield 183, 3) := by decide +kernel
theorem dX9_before_74 : decode cX9_before 74 = .ok (.iload_n 2, 1) := by decide +kernel
theorem dX9_before_75 : decode cX9_before 75 = .ok (.iaload, 1) := by decide +kernel
theorem dX9_before_76 : decode cX9_before 76 = .ok (.if_icmp .ge 7, 3) := by decide +kernel
theorem dX9_before_79 : decode cX9_before 79 = .ok (.iconst 1, 1) := by decide +kernel
theorem dX9_before_80 : decode cX9_before 80 = .ok (.goto 4, 3) := by decide +kernel
theorem dX9_before_83 : decode cX9_before 83 = .ok (.iconst 0, 1) := by decide +kernel
theorem dX9_before_84 : decode cX9_before 84 = .ok (.istore 6, 2) := by decide +kernel
theorem dX9_before_86 : decode cX9_before 86 = .ok (.aload_n 0, 1) := by decide +kernel
theorem dX9_before_87 : decode cX9_before 87 = .ok (.getfield 32, 3) := by decide +kernel
theorem dX9_before_90 : decode cX9_before 90 = .ok (.iload 4, 2) := by decide +kernel
theorem dX9_before_92 : decode cX9_before 92 = .ok (.invokevirtual 186, 3) := by decide +kernel
theorem dX9_before_95 : decode cX9_before 95 = .ok (.ifCond .eq 20, 3) := by decide +kernel
theorem dX9_before_98 : decode cX9_before 98 = .ok (.iload 6, 2) := by decide +kernel
theorem dX9_before_100 : decode cX9_before 100 = .ok (.ifCond .ne 9, 3) := by decide +kernel
theorem dX9_before_103 : decode cX9_before 103 = .ok (.iload 5, 2) := by decide +kernel
theorem dX9_before_105 : decode cX9_before 105 = .ok (.iload_n 3, 1) := by decide +kernel
theorem dX9_before_106 : decode cX9_before 106 = .ok (.if_icmp .le 9, 3) := by decide +kernel
theorem dX9_before_109 : decode cX9_before 109 = .ok (.iload 4, 2) := by decide +kernel
theorem dX9_before_111 : decode cX9_before 111 = .ok (.istore_n 2, 1) := by decide +kernel
theorem dX9_before_112 : decode cX9_before 112 = .ok (.iload 5, 2) := by decide +kernel
theorem dX9_before_114 : decode cX9_before 114 = .ok (.istore_n 3, 1) := by decide +kernel
theorem dX9_before_115 : decode cX9_before 115 = .ok (.iinc 4 1, 3) := by decide +kernel
theorem dX9_before_118 : decode cX9_before 118 = .ok (.goto (-96), 3) := by decide +kernel
theorem dX9_before_121 : decode cX9_before 121 = .ok (.iload_n 2, 1) := by decide +kernel
theorem dX9_before_122 : decode cX9_before 122 = .ok (.iconst (-1), 1) := by decide +kernel
theorem dX9_before_123 : decode cX9_before 123 = .ok (.if_icmp .ne 6, 3) := by decide +kernel
theorem dX9_before_126 : decode cX9_before 126 = .ok (.bipush (-2), 2) := by decide +kernel
theorem dX9_before_128 : decode cX9_before 128 = .ok (.ireturn, 1) := by decide +kernel
theorem dX9_before_129 : decode cX9_before 129 = .ok (.iload_n 1, 1) := by decide +kernel
theorem dX9_before_130 : decode cX9_before 130 = .ok (.ifCond .ne 7, 3) := by decide +kernel
theorem dX9_before_133 : decode cX9_before 133 = .ok (.iload_n 2, 1) := by decide +kernel
theorem dX9_before_134 : decode cX9_before 134 = .ok (.goto 4, 3) := by decide +kernel
theorem dX9_before_137 : decode cX9_before 137 = .ok (.iload_n 3, 1) := by decide +kernel
theorem dX9_before_138 : decode cX9_before 138 = .ok (.ireturn, 1) := by decide +kernel
theorem dX9_findLastings_0 : decode cX9_findLastings 0 = .ok (.aload_n 0, 1) := by decide +kernel
theorem dX9_findLastings_1 : decode cX9_findLastings 1 = .ok (.iconst 0, 1) := by decide +kernel
theorem dX9_findLastings_2 : decode cX9_findLastings 2 = .ok (.iconst 0, 1) := by decide +kernel
theorem dX9_findLastings_3 : decode cX9_findLastings 3 = .ok (.invokevirtual 247, 3) := by decide +kernel
theorem dX9_findLastings_6 : decode cX9_findLastings 6 = .ok (.iconst 0, 1) := by decide +kernel
theorem dX9_findLastings_7 : decode cX9_findLastings 7 = .ok (.istore_n 1, 1) := by decide +kernel
theorem dX9_findLastings_8 : decode cX9_findLastings 8 = .ok (.iload_n 1, 1) := by decide +kernel
theorem dX9_findLastings_9 : decode cX9_findLastings 9 = .ok (.aload_n 0, 1) := by decide +kernel
theorem dX9_findLastings_10 : decode cX9_findLastings 10 = .ok (.getfield 25, 3) := by decide +kernel
theorem dX9_findLastings_13 : decode cX9_findLastings 13 = .ok (.getfield 127, 3) := by decide +kernel
theorem dX9_findLastings_16 : decode cX9_findLastings 16 = .ok (.if_icmp .ge 42, 3) := by decide +kernel
theorem dX9_findLastings_19 : decode cX9_findLastings 19 = .ok (.aload_n 0, 1) := by decide +kernel
theorem dX9_findLastings_20 : decode cX9_findLastings 20 = .ok (.getfield 36, 3) := by decide +kernel
theorem dX9_findLastings_23 : decode cX9_findLastings 23 = .ok (.getfield 158, 3) := by decide +kernel
theorem dX9_findLastings_26 : decode cX9_findLastings 26 = .ok (.bipush 8, 2) := by decide +kernel
theorem dX9_findLastings_28 : decode cX9_findLastings 28 = .ok (.iload_n 1, 1) := by decide +kernel
theorem dX9_findLastings_29 : decode cX9_findLastings 29 = .ok (.iadd, 1) := by decide +kernel
theorem dX9_findLastings_30 : decode cX9_findLastings 30 = .ok (.iconst 1, 1) := by decide +kernel
theorem dX9_findLastings_31 : decode cX9_findLastings 31 = .ok (.iload_n 1, 1) := by decide +kernel
theorem dX9_findLastings_32 : decode cX9_findLastings 32 = .ok (.ishl, 1) := by decide +kernel
theorem dX9_findLastings_33 : decode cX9_findLastings 33 = .ok (.aload_n 0, 1) := by decide +kernel
theorem dX9_findLastings_34 : decode cX9_findLastings 34 = .ok (.getfield 32, 3) := by decide +kernel
theorem dX9_findLastings_37 : decode cX9_findLastings 37 = .ok (.getfield 250, 3) := by decide +kernel
theorem dX9_findLastings_40 : decode cX9_findLastings 40 = .ok (.iand, 1) := by decide +kernel
theorem dX9_findLastings_41 : decode cX9_findLastings 41 = .ok (.iastore, 1) := by decide +kernel
theorem dX9_findLastings_42 : decode cX9_findLastings 42 = .ok (.aload_n 0, 1) := by decide +kernel
theorem dX9_findLastings_43 : decode cX9_findLastings 43 = .ok (.getfield 68, 3) := by decide +kernel
theorem dX9_findLastings_46 : decode cX9_findLastings 46 = .ok (.getfield 312, 3) := by decide +kernel
theorem dX9_findLastings_49 : decode cX9_findLastings 49 = .ok (.iload_n 1, 1) := by decide +kernel
theorem dX9_findLastings_50 : decode cX9_findLastings 50 = .ok (.iconst 0, 1) := by decide +kernel
theorem dX9_findLastings_51 : decode cX9_findLastings 51 = .ok (.iastore, 1) := by decide +kernel
theorem dX9_findLastings_52 : decode cX9_findLastings 52 = .ok (.iinc 1 1, 3) := by decide +kernel
theorem dX9_findLastings_55 : decode cX9_findLastings 55 = .ok (.goto (-47), 3) := by decide +kernel
theorem dX9_findLastings_58 : decode cX9_findLastings 58 = .ok (.iconst 1, 1) := by decide +kernel
theorem dX9_findLastings_59 : decode cX9_findLastings 59 = .ok (.istore_n 1, 1) := by decide +kernel
theorem dX9_findLastings_60 : decode cX9_findLastings 60 = .ok (.iload_n 1, 1) := by decide +kernel
theorem dX9_findLastings_61 : decode cX9_findLastings 61 = .ok (.bipush 99, 2) := by decide +kernel
theorem dX9_findLastings_63 : decode cX9_findLastings 63 = .ok (.if_icmp .gt 60, 3) := by decide +kernel
theorem dX9_findLastings_66 : decode cX9_findLastings 66 = .ok (.iconst 0, 1) := by decide +kernel
theorem dX9_findLastings_67 : decode cX9_findLastings 67 = .ok (.istore_n 2, 1) := by decide +kernel
theorem dX9_findLastings_68 : decode cX9_findLastings 68 = .ok (.iload_n 2, 1) := by decide +kernel
theorem dX9_findLastings_69 : decode cX9_findLastings 69 = .ok (.aload_n 0, 1) := by decide +kernel
theorem dX9_findLastings_70 : decode cX9_findLastings 70 = .ok (.getfield 25, 3) := by decide +kernel
theorem dX9_findLastings_73 : decode cX9_findLastings 73 = .ok (.getfield 127, 3) := by decide +kernel
theorem dX9_findLastings_76 : decode cX9_findLastings 76 = .ok (.if_icmp .ge 34, 3) := by decide +kernel
theorem dX9_findLastings_79 : decode cX9_findLastings 79 = .ok (.aload_n 0, 1) := by decide +kernel
theorem dX9_findLastings_80 : decode cX9_findLastings 80 = .ok (.getfield 36, 3) := by decide +kernel
theorem dX9_findLastings_83 : decode cX9_findLastings 83 = .ok (.getfield 158, 3) := by decide +kernel
theorem dX9_findLastings_86 : decode cX9_findLastings 86 = .ok (.bipush 8, 2) := by decide +kernel
theorem dX9_findLastings_88 : decode cX9_findLastings 88 = .ok (.iload_n 2, 1) := by decide +kernel
theorem dX9_findLastings_89 : decode cX9_findLastings 89 = .ok (.iadd, 1) := by decide +kernel
theorem dX9_findLastings_90 : decode cX9_findLastings 90 = .ok (.iaload, 1) := by decide +kernel
theorem dX9_findLastings_91 : decode cX9_findLastings 91 = .ok (.ifCond .eq 13, 3) := by decide +kernel
theorem dX9_findLastings_94 : decode cX9_findLastings 94 = .ok (.aload_n 0, 1) := by decide +kernel
theorem dX9_findLastings_95 : decode cX9_findLastings 95 = .ok (.getfield 68, 3) := by decide +kernel
theorem dX9_findLastings_98 : decode cX9_findLastings 98 = .ok (.getfield 312, 3) := by decide +kernel
theorem dX9_findLastings_101 : decode cX9_findLastings 101 = .ok (.iload_n 2, 1) := by decide +kernel
theorem dX9_findLastings_102 : decode cX9_findLastings 102 = .ok (.iload_n 1, 1) := by decide +kernel
theorem dX9_findLastings_103 : decode cX9_findLastings 103 = .ok (.iastore, 1) := by decide +kernel
theorem dX9_findLastings_104 : decode cX9_findLastings 104 = .ok (.iinc 2 1, 3) := by decide +kernel
theorem dX9_findLastings_107 : decode cX9_findLastings 107 = .ok (.goto (-39), 3) := by decide +kernel
theorem dX9_findLastings_110 : decode cX9_findLastings 110 = .ok (.aload_n 0, 1) := by decide +kernel
theorem dX9_findLastings_111 : decode cX9_findLastings 111 = .ok (.getfield 54, 3) := by decide +kernel
theorem dX9_findLastings_114 : decode cX9_findLastings 114 = .ok (.invokevirtual 259, 3) := by decide +kernel
theorem dX9_findLastings_117 : decode cX9_findLastings 117 = .ok (.iinc 1 1, 3) := by decide +kernel
theorem dX9_findLastings_120 : decode cX9_findLastings 120 = .ok (.goto (-60), 3) := by decide +kernel
theorem dX9_findLastings_123 : decode cX9_findLastings 123 = .ok (.return_, 1) := by decide +kernel
theorem dX9_ring_0 : decode cX9_ring 0 = .ok (.aload_n 0, 1) := by decide +kernel
theorem dX9_ring_1 : decode cX9_ring 1 = .ok (.getfield 68, 3) := by decide +kernel
theorem dX9_ring_4 : decode cX9_ring 4 = .ok (.aload_n 0, 1) := by decide +kernel
theorem dX9_ring_5 : decode cX9_ring 5 = .ok (.getfield 32, 3) := by decide +kernel
theorem dX9_ring_8 : decode cX9_ring 8 = .ok (.aload_n 0, 1) := by decide +kernel
theorem dX9_ring_9 : decode cX9_ring 9 = .ok (.getfield 25, 3) := by decide +kernel
theorem dX9_ring_12 : decode cX9_ring 12 = .ok (.getfield 117, 3) := by decide +kernel
theorem dX9_ring_15 : decode cX9_ring 15 = .ok (.invokevirtual 315, 3) := by decide +kernel
theorem dX9_ring_18 : decode cX9_ring 18 = .ok (.ireturn, 1) := by decide +kernel
theorem dX9_oldest_0 : decode cX9_oldest 0 = .ok (.aload_n 0, 1) := by decide +kernel
theorem dX9_oldest_1 : decode cX9_oldest 1 = .ok (.iload_n 1, 1) := by decide +kernel
theorem dX9_oldest_2 : decode cX9_oldest 2 = .ok (.invokevirtual 130, 3) := by decide +kernel
theorem dX9_oldest_5 : decode cX9_oldest 5 = .ok (.ifCond .ne 5, 3) := by decide +kernel
theorem dX9_oldest_8 : decode cX9_oldest 8 = .ok (.iconst (-1), 1) := by decide +kernel
theorem dX9_oldest_9 : decode cX9_oldest 9 = .ok (.ireturn, 1) := by decide +kernel
theorem dX9_oldest_10 : decode cX9_oldest 10 = .ok (.aload_n 0, 1) := by decide +kernel
theorem dX9_oldest_11 : decode cX9_oldest 11 = .ok (.getfield 32, 3) := by decide +kernel
theorem dX9_oldest_14 : decode cX9_oldest 14 = .ok (.iload_n 1, 1) := by decide +kernel
theorem dX9_oldest_15 : decode cX9_oldest 15 = .ok (.invokevirtual 318, 3) := by decide +kernel
theorem dX9_oldest_18 : decode cX9_oldest 18 = .ok (.istore_n 2, 1) := by decide +kernel
theorem dX9_oldest_19 : decode cX9_oldest 19 = .ok (.iload_n 2, 1) := by decide +kernel
theorem dX9_oldest_20 : decode cX9_oldest 20 = .ok (.iconst (-1), 1) := by decide +kernel
theorem dX9_oldest_21 : decode cX9_oldest 21 = .ok (.if_icmp .ne 8, 3) := by decide +kernel
theorem dX9_oldest_24 : decode cX9_oldest 24 = .ok (.bipush (-2), 2) := by decide +kernel
theorem dX9_oldest_26 : decode cX9_oldest 26 = .ok (.goto 4, 3) := by decide +kernel
theorem dX9_oldest_29 : decode cX9_oldest 29 = .ok (.iload_n 2, 1) := by decide +kernel
theorem dX9_oldest_30 : decode cX9_oldest 30 = .ok (.ireturn, 1) := by decide +kernel
theorem dX9_see_0 : decode cX9_see 0 = .ok (.iload_n 1, 1) := by decide +kernel
theorem dX9_see_1 : decode cX9_see 1 = .ok (.iconst 1, 1) := by decide +kernel
theorem dX9_see_2 : decode cX9_see 2 = .ok (.if_icmp .lt 27, 3) := by decide +kernel
theorem dX9_see_5 : decode cX9_see 5 = .ok (.iload_n 1, 1) := by decide +kernel
theorem dX9_see_6 : decode cX9_see 6 = .ok (.bipush 40, 2) := by decide +kernel
theorem dX9_see_8 : decode cX9_see 8 = .ok (.if_icmp .gt 21, 3) := by decide +kernel
theorem dX9_see_11 : decode cX9_see 11 = .ok (.iload_n 2, 1) := by decide +kernel
theorem dX9_see_12 : decode cX9_see 12 = .ok (.ifCond .lt 17, 3) := by decide +kernel
theorem dX9_see_15 : decode cX9_see 15 = .ok (.iload_n 2, 1) := by decide +kernel
theorem dX9_see_16 : decode cX9_see 16 = .ok (.aload_n 0, 1) := by decide +kernel
theorem dX9_see_17 : decode cX9_see 17 = .ok (.getfield 25, 3) := by decide +kernel
theorem dX9_see_20 : decode cX9_see 20 = .ok (.getfield 88, 3) := by decide +kernel
theorem dX9_see_23 : decode cX9_see 23 = .ok (.getfield 212, 3) := by decide +kernel
theorem dX9_see_26 : decode cX9_see 26 = .ok (.if_icmp .lt 5, 3) := by decide +kernel
theorem dX9_see_29 : decode cX9_see 29 = .ok (.iconst (-1), 1) := by decide +kernel
theorem dX9_see_30 : decode cX9_see 30 = .ok (.ireturn, 1) := by decide +kernel
theorem dX9_see_31 : decode cX9_see 31 = .ok (.aload_n 0, 1) := by decide +kernel
theorem dX9_see_32 : decode cX9_see 32 = .ok (.getfield 61, 3) := by decide +kernel
theorem dX9_see_35 : decode cX9_see 35 = .ok (.iload_n 1, 1) := by decide +kernel
theorem dX9_see_36 : decode cX9_see 36 = .ok (.iload_n 2, 1) := by decide +kernel
theorem dX9_see_37 : decode cX9_see 37 = .ok (.iload_n 3, 1) := by decide +kernel
theorem dX9_see_38 : decode cX9_see 38 = .ok (.iconst (-1), 1) := by decide +kernel
theorem dX9_see_39 : decode cX9_see 39 = .ok (.invokevirtual 321, 3) := by decide +kernel
theorem dX9_see_42 : decode cX9_see 42 = .ok (.ireturn, 1) := by decide +kernel
theorem dX9_out_0 : decode cX9_out 0 = .ok (.iload_n 1, 1) := by decide +kernel
theorem dX9_out_1 : decode cX9_out 1 = .ok (.ifCond .lt 14, 3) := by decide +kernel
theorem dX9_out_4 : decode cX9_out 4 = .ok (.iload_n 1, 1) := by decide +kernel
theorem dX9_out_5 : decode cX9_out 5 = .ok (.aload_n 0, 1) := by decide +kernel
theorem dX9_out_6 : decode cX9_out 6 = .ok (.getfield 61, 3) := by decide +kernel
theorem dX9_out_9 : decode cX9_out 9 = .ok (.getfield 325, 3) := by decide +kernel
theorem dX9_out_12 : decode cX9_out 12 = .ok (.if_icmp .lt 5, 3) := by decide +kernel
theorem dX9_out_15 : decode cX9_out 15 = .ok (.iconst (-1), 1) := by decide +kernel
theorem dX9_out_16 : decode cX9_out 16 = .ok (.ireturn, 1) := by decide +kernel
theorem dX9_out_17 : decode cX9_out 17 = .ok (.aload_n 0, 1) := by decide +kernel
theorem dX9_out_18 : decode cX9_out 18 = .ok (.getfield 61, 3) := by decide +kernel
theorem dX9_out_21 : decode cX9_out 21 = .ok (.iconst 0, 1) := by decide +kernel
theorem dX9_out_22 : decode cX9_out 22 = .ok (.iconst 0, 1) := by decide +kernel
theorem dX9_out_23 : decode cX9_out 23 = .ok (.iconst 0, 1) := by decide +kernel
theorem dX9_out_24 : decode cX9_out 24 = .ok (.iload_n 1, 1) := by decide +kernel
theorem dX9_out_25 : decode cX9_out 25 = .ok (.invokevirtual 321, 3) := by decide +kernel
theorem dX9_out_28 : decode cX9_out 28 = .ok (.ireturn, 1) := by decide +kernel
theorem dX9_known_0 : decode cX9_known 0 = .ok (.iload_n 1, 1) := by decide +kernel
theorem dX9_known_1 : decode cX9_known 1 = .ok (.iconst (-1), 1) := by decide +kernel
theorem dX9_known_2 : decode cX9_known 2 = .ok (.if_icmp .lt 14, 3) := by decide +kernel
theorem dX9_known_5 : decode cX9_known 5 = .ok (.iload_n 1, 1) := by decide +kernel
theorem dX9_known_6 : decode cX9_known 6 = .ok (.aload_n 0, 1) := by decide +kernel
theorem dX9_known_7 : decode cX9_known 7 = .ok (.getfield 61, 3) := by decide +kernel
theorem dX9_known_10 : decode cX9_known 10 = .ok (.getfield 325, 3) := by decide +kernel
theorem dX9_known_13 : decode cX9_known 13 = .ok (.if_icmp .le 5, 3) := by decide +kernel
theorem dX9_known_16 : decode cX9_known 16 = .ok (.iconst 0, 1) := by decide +kernel
theorem dX9_known_17 : decode cX9_known 17 = .ok (.ireturn, 1) := by decide +kernel
theorem dX9_known_18 : decode cX9_known 18 = .ok (.aload_n 0, 1) := by decide +kernel
theorem dX9_known_19 : decode cX9_known 19 = .ok (.getfield 61, 3) := by decide +kernel
theorem dX9_known_22 : decode cX9_known 22 = .ok (.iload_n 1, 1) := by decide +kernel
theorem dX9_known_23 : decode cX9_known 23 = .ok (.putfield 326, 3) := by decide +kernel
theorem dX9_known_26 : decode cX9_known 26 = .ok (.iconst 1, 1) := by decide +kernel
theorem dX9_known_27 : decode cX9_known 27 = .ok (.ireturn, 1) := by decide +kernel
theorem dX9_had_0 : decode cX9_had 0 = .ok (.aload_n 0, 1) := by decide +kernel
theorem dX9_had_1 : decode cX9_had 1 = .ok (.iload_n 1, 1) := by decide +kernel
theorem dX9_had_2 : decode cX9_had 2 = .ok (.invokevirtual 164, 3) := by decide +kernel
theorem dX9_had_5 : decode cX9_had 5 = .ok (.ifCond .ne 5, 3) := by decide +kernel
theorem dX9_had_8 : decode cX9_had 8 = .ok (.iconst (-1), 1) := by decide +kernel
theorem dX9_had_9 : decode cX9_had 9 = .ok (.ireturn, 1) := by decide +kernel
theorem dX9_had_10 : decode cX9_had 10 = .ok (.aload_n 0, 1) := by decide +kernel
theorem dX9_had_11 : decode cX9_had 11 = .ok (.getfield 61, 3) := by decide +kernel
theorem dX9_had_14 : decode cX9_had 14 = .ok (.invokevirtual 329, 3) := by decide +kernel
theorem dX9_had_17 : decode cX9_had 17 = .ok (.iconst 0, 1) := by decide +kernel
theorem dX9_had_18 : decode cX9_had 18 = .ok (.istore_n 2, 1) := by decide +kernel
theorem dX9_had_19 : decode cX9_had 19 = .ok (.iconst 0, 1) := by decide +kernel
theorem dX9_had_20 : decode cX9_had 20 = .ok (.istore_n 3, 1) := by decide +kernel
theorem dX9_had_21 : decode cX9_had 21 = .ok (.iload_n 3, 1) := by decide +kernel
theorem dX9_had_22 : decode cX9_had 22 = .ok (.bipush 10, 2) := by decide +kernel
theorem dX9_had_24 : decode cX9_had 24 = .ok (.if_icmp .ge 27, 3) := by decide +kernel
theorem dX9_had_27 : decode cX9_had 27 = .ok (.aload_n 0, 1) := by decide +kernel
theorem dX9_had_28 : decode cX9_had 28 = .ok (.iload_n 1, 1) := by decide +kernel
theorem dX9_had_29 : decode cX9_had 29 = .ok (.bipush 10, 2) := by decide +kernel
theorem dX9_had_31 : decode cX9_had 31 = .ok (.iload_n 3, 1) := by decide +kernel
theorem dX9_had_32 : decode cX9_had 32 = .ok (.imul, 1) := by decide +kernel
theorem dX9_had_33 : decode cX9_had 33 = .ok (.invokevirtual 332, 3) := by decide +kernel
theorem dX9_had_36 : decode cX9_had 36 = .ok (.ifCond .eq 9, 3) := by decide +kernel
theorem dX9_had_39 : decode cX9_had 39 = .ok (.iload_n 2, 1) := by decide +kernel
theorem dX9_had_40 : decode cX9_had 40 = .ok (.iconst 1, 1) := by decide +kernel
theorem dX9_had_41 : decode cX9_had 41 = .ok (.iload_n 3, 1) := by decide +kernel
theorem dX9_had_42 : decode cX9_had 42 = .ok (.ishl, 1) := by decide +kernel
theorem dX9_had_43 : decode cX9_had 43 = .ok (.ior, 1) := by decide +kernel
theorem dX9_had_44 : decode cX9_had 44 = .ok (.istore_n 2, 1) := by decide +kernel
theorem dX9_had_45 : decode cX9_had 45 = .ok (.iinc 3 1, 3) := by decide +kernel
theorem dX9_had_48 : decode cX9_had 48 = .ok (.goto (-27), 3) := by decide +kernel
theorem dX9_had_51 : decode cX9_had 51 = .ok (.iload_n 2, 1) := by decide +kernel
theorem dX9_had_52 : decode cX9_had 52 = .ok (.ireturn, 1) := by decide +kernel
theorem dX9_isAsSeen_0 : decode cX9_isAsSeen 0 = .ok (.aload_n 0, 1) := by decide +kernel
theorem dX9_isAsSeen_1 : decode cX9_isAsSeen 1 = .ok (.getfield 36, 3) := by decide +kernel
theorem dX9_isAsSeen_4 : decode cX9_isAsSeen 4 = .ok (.aload_n 0, 1) := by decide +kernel
theorem dX9_isAsSeen_5 : decode cX9_isAsSeen 5 = .ok (.getfield 25, 3) := by decide +kernel
theorem dX9_isAsSeen_8 : decode cX9_isAsSeen 8 = .ok (.getfield 88, 3) := by decide +kernel
theorem dX9_isAsSeen_11 : decode cX9_isAsSeen 11 = .ok (.invokevirtual 91, 3) := by decide +kernel
theorem dX9_isAsSeen_14 : decode cX9_isAsSeen 14 = .ok (.aload_n 0, 1) := by decide +kernel
theorem dX9_isAsSeen_15 : decode cX9_isAsSeen 15 = .ok (.getfield 36, 3) := by decide +kernel
theorem dX9_isAsSeen_18 : decode cX9_isAsSeen 18 = .ok (.iload_n 1, 1) := by decide +kernel
theorem dX9_isAsSeen_19 : decode cX9_isAsSeen 19 = .ok (.iload_n 2, 1) := by decide +kernel
theorem dX9_isAsSeen_20 : decode cX9_isAsSeen 20 = .ok (.aload_n 0, 1) := by decide +kernel
theorem dX9_isAsSeen_21 : decode cX9_isAsSeen 21 = .ok (.getfield 36, 3) := by decide +kernel
theorem dX9_isAsSeen_24 : decode cX9_isAsSeen 24 = .ok (.iload_n 1, 1) := by decide +kernel
theorem dX9_isAsSeen_25 : decode cX9_isAsSeen 25 = .ok (.invokevirtual 170, 3) := by decide +kernel
theorem dX9_isAsSeen_28 : decode cX9_isAsSeen 28 = .ok (.isub, 1) := by decide +kernel
theorem dX9_isAsSeen_29 : decode cX9_isAsSeen 29 = .ok (.invokevirtual 240, 3) := by decide +kernel
theorem dX9_isAsSeen_32 : decode cX9_isAsSeen 32 = .ok (.aload_n 0, 1) := by decide +kernel
theorem dX9_isAsSeen_33 : decode cX9_isAsSeen 33 = .ok (.getfield 54, 3) := by decide +kernel
theorem dX9_isAsSeen_36 : decode cX9_isAsSeen 36 = .ok (.aload_n 0, 1) := by decide +kernel
theorem dX9_isAsSeen_37 : decode cX9_isAsSeen 37 = .ok (.getfield 25, 3) := by decide +kernel
theorem dX9_isAsSeen_40 : decode cX9_isAsSeen 40 = .ok (.aload_n 0, 1) := by decide +kernel
theorem dX9_isAsSeen_41 : decode cX9_isAsSeen 41 = .ok (.getfield 36, 3) := by decide +kernel
theorem dX9_isAsSeen_44 : decode cX9_isAsSeen 44 = .ok (.iconst 0, 1) := by decide +kernel
theorem dX9_isAsSeen_45 : decode cX9_isAsSeen 45 = .ok (.iconst 0, 1) := by decide +kernel
theorem dX9_isAsSeen_46 : decode cX9_isAsSeen 46 = .ok (.invokevirtual 195, 3) := by decide +kernel
theorem dX9_isAsSeen_49 : decode cX9_isAsSeen 49 = .ok (.iconst 1, 1) := by decide +kernel
theorem dX9_isAsSeen_50 : decode cX9_isAsSeen 50 = .ok (.istore_n 3, 1) := by decide +kernel
theorem dX9_isAsSeen_51 : decode cX9_isAsSeen 51 = .ok (.iload_n 3, 1) := by decide +kernel
theorem dX9_isAsSeen_52 : decode cX9_isAsSeen 52 = .ok (.bipush 40, 2) := by decide +kernel
theorem dX9_isAsSeen_54 : decode cX9_isAsSeen 54 = .ok (.if_icmp .gt 33, 3) := by decide +kernel
theorem dX9_isAsSeen_57 : decode cX9_isAsSeen 57 = .ok (.aload_n 0, 1) := by decide +kernel
theorem dX9_isAsSeen_58 : decode cX9_isAsSeen 58 = .ok (.getfield 54, 3) := by decide +kernel
theorem dX9_isAsSeen_61 : decode cX9_isAsSeen 61 = .ok (.invokevirtual 259, 3) := by decide +kernel
theorem dX9_isAsSeen_64 : decode cX9_isAsSeen 64 = .ok (.aload_n 0, 1) := by decide +kernel
theorem dX9_isAsSeen_65 : decode cX9_isAsSeen 65 = .ok (.getfield 61, 3) := by decide +kernel
theorem dX9_isAsSeen_68 : decode cX9_isAsSeen 68 = .ok (.iload_n 3, 1) := by decide +kernel
theorem dX9_isAsSeen_69 : decode cX9_isAsSeen 69 = .ok (.aload_n 0, 1) := by decide +kernel
theorem dX9_isAsSeen_70 : decode cX9_isAsSeen 70 = .ok (.getfield 36, 3) := by decide +kernel
theorem dX9_isAsSeen_73 : decode cX9_isAsSeen 73 = .ok (.invokevirtual 335, 3) := by decide +kernel
theorem dX9_isAsSeen_76 : decode cX9_isAsSeen 76 = .ok (.ifCond .ne 5, 3) := by decide +kernel
theorem dX9_isAsSeen_79 : decode cX9_isAsSeen 79 = .ok (.iconst 0, 1) := by decide +kernel
theorem dX9_isAsSeen_80 : decode cX9_isAsSeen 80 = .ok (.ireturn, 1) := by decide +kernel
theorem dX9_isAsSeen_81 : decode cX9_isAsSeen 81 = .ok (.iinc 3 1, 3) := by decide +kernel
theorem dX9_isAsSeen_84 : decode cX9_isAsSeen 84 = .ok (.goto (-33), 3) := by decide +kernel
theorem dX9_isAsSeen_87 : decode cX9_isAsSeen 87 = .ok (.iconst 1, 1) := by decide +kernel
theorem dX9_isAsSeen_88 : decode cX9_isAsSeen 88 = .ok (.ireturn, 1) := by decide +kernel
theorem dX9_chance_0 : decode cX9_chance 0 = .ok (.iload_n 1, 1) := by decide +kernel
theorem dX9_chance_1 : decode cX9_chance 1 = .ok (.ifCond .lt 22, 3) := by decide +kernel
theorem dX9_chance_4 : decode cX9_chance 4 = .ok (.iload_n 2, 1) := by decide +kernel
theorem dX9_chance_5 : decode cX9_chance 5 = .ok (.iconst 1, 1) := by decide +kernel
theorem dX9_chance_6 : decode cX9_chance 6 = .ok (.if_icmp .lt 17, 3) := by decide +kernel
theorem dX9_chance_9 : decode cX9_chance 9 = .ok (.iload_n 2, 1) := by decide +kernel
theorem dX9_chance_10 : decode cX9_chance 10 = .ok (.bipush 99, 2) := by decide +kernel
theorem dX9_chance_12 : decode cX9_chance 12 = .ok (.if_icmp .gt 11, 3) := by decide +kernel
theorem dX9_chance_15 : decode cX9_chance 15 = .ok (.aload_n 0, 1) := by decide +kernel
theorem dX9_chance_16 : decode cX9_chance 16 = .ok (.iload_n 3, 1) := by decide +kernel
theorem dX9_chance_17 : decode cX9_chance 17 = .ok (.invokevirtual 177, 3) := by decide +kernel
theorem dX9_chance_20 : decode cX9_chance 20 = .ok (.ifCond .ne 5, 3) := by decide +kernel
theorem dX9_chance_23 : decode cX9_chance 23 = .ok (.iconst (-1), 1) := by decide +kernel
theorem dX9_chance_24 : decode cX9_chance 24 = .ok (.ireturn, 1) := by decide +kernel
theorem dX9_chance_25 : decode cX9_chance 25 = .ok (.iload_n 1, 1) := by decide +kernel
theorem dX9_chance_26 : decode cX9_chance 26 = .ok (.istore 4, 2) := by decide +kernel
theorem dX9_chance_28 : decode cX9_chance 28 = .ok (.iconst 0, 1) := by decide +kernel
theorem dX9_chance_29 : decode cX9_chance 29 = .ok (.istore 5, 2) := by decide +kernel
theorem dX9_chance_31 : decode cX9_chance 31 = .ok (.iconst 0, 1) := by decide +kernel
theorem dX9_chance_32 : decode cX9_chance 32 = .ok (.istore 6, 2) := by decide +kernel
theorem dX9_chance_34 : decode cX9_chance 34 = .ok (.iload 6, 2) := by decide +kernel
theorem dX9_chance_36 : decode cX9_chance 36 = .ok (.bipush 10, 2) := by decide +kernel
theorem dX9_chance_38 : decode cX9_chance 38 = .ok (.if_icmp .ge 62, 3) := by decide +kernel
theorem dX9_chance_41 : decode cX9_chance 41 = .ok (.aload_n 0, 1) := by decide +kernel
theorem dX9_chance_42 : decode cX9_chance 42 = .ok (.iconst (-1), 1) := by decide +kernel
theorem dX9_chance_43 : decode cX9_chance 43 = .ok (.iconst 0, 1) := by decide +kernel
theorem dX9_chance_44 : decode cX9_chance 44 = .ok (.invokevirtual 247, 3) := by decide +kernel
theorem dX9_chance_47 : decode cX9_chance 47 = .ok (.aload_n 0, 1) := by decide +kernel
theorem dX9_chance_48 : decode cX9_chance 48 = .ok (.getfield 36, 3) := by decide +kernel
theorem dX9_chance_51 : decode cX9_chance 51 = .ok (.iload 4, 2) := by decide +kernel
theorem dX9_chance_53 : decode cX9_chance 53 = .ok (.putfield 339, 3) := by decide +kernel
theorem dX9_chance_56 : decode cX9_chance 56 = .ok (.aload_n 0, 1) := by decide +kernel
theorem dX9_chance_57 : decode cX9_chance 57 = .ok (.getfield 54, 3) := by decide +kernel
theorem dX9_chance_60 : decode cX9_chance 60 = .ok (.iload_n 2, 1) := by decide +kernel
theorem dX9_chance_61 : decode cX9_chance 61 = .ok (.invokevirtual 244, 3) := by decide +kernel
theorem dX9_chance_64 : decode cX9_chance 64 = .ok (.aload_n 0, 1) := by decide +kernel
theorem dX9_chance_65 : decode cX9_chance 65 = .ok (.getfield 36, 3) := by decide +kernel
theorem dX9_chance_68 : decode cX9_chance 68 = .ok (.getfield 339, 3) := by decide +kernel
theorem dX9_chance_71 : decode cX9_chance 71 = .ok (.istore 4, 2) := by decide +kernel
theorem dX9_chance_73 : decode cX9_chance 73 = .ok (.iload 5, 2) := by decide +kernel
theorem dX9_chance_75 : decode cX9_chance 75 = .ok (.aload_n 0, 1) := by decide +kernel
theorem dX9_chance_76 : decode cX9_chance 76 = .ok (.getfield 36, 3) := by decide +kernel
theorem dX9_chance_79 : decode cX9_chance 79 = .ok (.iload_n 3, 1) := by decide +kernel
theorem dX9_chance_80 : decode cX9_chance 80 = .ok (.invokevirtual 186, 3) := by decide +kernel
theorem dX9_chance_83 : decode cX9_chance 83 = .ok (.ifCond .eq 7, 3) := by decide +kernel
theorem dX9_chance_86 : decode cX9_chance 86 = .ok (.iconst 1, 1) := by decide +kernel
theorem dX9_chance_87 : decode cX9_chance 87 = .ok (.goto 4, 3) := by decide +kernel
theorem dX9_chance_90 : decode cX9_chance 90 = .ok (.iconst 0, 1) := by decide +kernel
theorem dX9_chance_91 : decode cX9_chance 91 = .ok (.iadd, 1) := by decide +kernel
theorem dX9_chance_92 : decode cX9_chance 92 = .ok (.istore 5, 2) := by decide +kernel
theorem dX9_chance_94 : decode cX9_chance 94 = .ok (.iinc 6 1, 3) := by decide +kernel
theorem dX9_chance_97 : decode cX9_chance 97 = .ok (.goto (-63), 3) := by decide +kernel
theorem dX9_chance_100 : decode cX9_chance 100 = .ok (.iload 5, 2) := by decide +kernel
theorem dX9_chance_102 : decode cX9_chance 102 = .ok (.ireturn, 1) := by decide +kernel
theorem dX9_tried_0 : decode cX9_tried 0 = .ok (.iload_n 1, 1) := by decide +kernel
theorem dX9_tried_1 : decode cX9_tried 1 = .ok (.ifCond .lt 18, 3) := by decide +kernel
theorem dX9_tried_4 : decode cX9_tried 4 = .ok (.iload_n 1, 1) := by decide +kernel
theorem dX9_tried_5 : decode cX9_tried 5 = .ok (.iconst 5, 1) := by decide +kernel
theorem dX9_tried_6 : decode cX9_tried 6 = .ok (.if_icmp .gt 13, 3) := by decide +kernel
theorem dX9_tried_9 : decode cX9_tried 9 = .ok (.iload_n 3, 1) := by decide +kernel
theorem dX9_tried_10 : decode cX9_tried 10 = .ok (.ifCond .lt 9, 3) := by decide +kernel
theorem dX9_tried_13 : decode cX9_tried 13 = .ok (.iload_n 3, 1) := by decide +kernel
theorem dX9_tried_14 : decode cX9_tried 14 = .ok (.bipush 99, 2) := by decide +kernel
theorem dX9_tried_16 : decode cX9_tried 16 = .ok (.if_icmp .le 5, 3) := by decide +kernel
theorem dX9_tried_19 : decode cX9_tried 19 = .ok (.iconst (-1), 1) := by decide +kernel
theorem dX9_tried_20 : decode cX9_tried 20 = .ok (.ireturn, 1) := by decide +kernel
theorem dX9_tried_21 : decode cX9_tried 21 = .ok (.iload_n 1, 1) := by decide +kernel
theorem dX9_tried_22 : decode cX9_tried 22 = .ok (.iconst 2, 1) := by decide +kernel
theorem dX9_tried_23 : decode cX9_tried 23 = .ok (.if_icmp .ne 14, 3) := by decide +kernel
theorem dX9_tried_26 : decode cX9_tried 26 = .ok (.aload_n 0, 1) := by decide +kernel
theorem dX9_tried_27 : decode cX9_tried 27 = .ok (.iload_n 2, 1) := by decide +kernel
theorem dX9_tried_28 : decode cX9_tried 28 = .ok (.invokevirtual 177, 3) := by decide +kernel
theorem dX9_tried_31 : decode cX9_tried 31 = .ok (.ifCond .ne 12, 3) := by decide +kernel
theorem dX9_tried_34 : decode cX9_tried 34 = .ok (.goto 7, 3) := by decide +kernel
theorem dX9_tried_37 : decode cX9_tried 37 = .ok (.iload_n 2, 1) := by decide +kernel
theorem dX9_tried_38 : decode cX9_tried 38 = .ok (.ifCond .eq 5, 3) := by decide +kernel
theorem dX9_tried_41 : decode cX9_tried 41 = .ok (.iconst (-1), 1) := by decide +kernel
theorem dX9_tried_42 : decode cX9_tried 42 = .ok (.ireturn, 1) := by decide +kernel
theorem dX9_tried_43 : decode cX9_tried 43 = .ok (.iload_n 1, 1) := by decide +kernel
theorem dX9_tried_44 : decode cX9_tried 44 = .ok (.iconst 2, 1) := by decide +kernel
theorem dX9_tried_45 : decode cX9_tried 45 = .ok (.if_icmp .ne 9, 3) := by decide +kernel
theorem dX9_tried_48 : decode cX9_tried 48 = .ok (.iconst 1, 1) := by decide +kernel
theorem dX9_tried_49 : decode cX9_tried 49 = .ok (.iload_n 2, 1) := by decide +kernel
theorem dX9_tried_50 : decode cX9_tried 50 = .ok (.ishl, 1) := by decide +kernel
theorem dX9_tried_51 : decode cX9_tried 51 = .ok (.goto 4, 3) := by decide +kernel
theorem dX9_tried_54 : decode cX9_tried 54 = .ok (.iconst 0, 1) := by decide +kernel
theorem dX9_tried_55 : decode cX9_tried 55 = .ok (.istore 4, 2) := by decide +kernel
theorem dX9_tried_57 : decode cX9_tried 57 = .ok (.aload_n 0, 1) := by decide +kernel
theorem dX9_tried_58 : decode cX9_tried 58 = .ok (.iload_n 1, 1) := by decide +kernel
theorem dX9_tried_59 : decode cX9_tried 59 = .ok (.iload 4, 2) := by decide +kernel
theorem dX9_tried_61 : decode cX9_tried 61 = .ok (.invokevirtual 247, 3) := by decide +kernel
theorem dX9_tried_64 : decode cX9_tried 64 = .ok (.aload_n 0, 1) := by decide +kernel
theorem dX9_tried_65 : decode cX9_tried 65 = .ok (.getfield 36, 3) := by decide +kernel
theorem dX9_tried_68 : decode cX9_tried 68 = .ok (.iload 4, 2) := by decide +kernel
theorem dX9_tried_70 : decode cX9_tried 70 = .ok (.invokevirtual 342, 3) := by decide +kernel
theorem dX9_tried_73 : decode cX9_tried 73 = .ok (.iload_n 1, 1) := by decide +kernel
theorem dX9_tried_74 : decode cX9_tried 74 = .ok (.iconst 5, 1) := by decide +kernel
theorem dX9_tried_75 : decode cX9_tried 75 = .ok (.if_icmp .ne 10, 3) := by decide +kernel
theorem dX9_tried_78 : decode cX9_tried 78 = .ok (.aload_n 0, 1) := by decide +kernel
theorem dX9_tried_79 : decode cX9_tried 79 = .ok (.getfield 36, 3) := by decide +kernel
theorem dX9_tried_82 : decode cX9_tried 82 = .ok (.invokevirtual 345, 3) := by decide +kernel
theorem dX9_tried_85 : decode cX9_tried 85 = .ok (.aload_n 0, 1) := by decide +kernel
theorem dX9_tried_86 : decode cX9_tried 86 = .ok (.getfield 54, 3) := by decide +kernel
theorem dX9_tried_89 : decode cX9_tried 89 = .ok (.iload_n 3, 1) := by decide +kernel
theorem dX9_tried_90 : decode cX9_tried 90 = .ok (.invokevirtual 244, 3) := by decide +kernel
theorem dX9_tried_93 : decode cX9_tried 93 = .ok (.aload_n 0, 1) := by decide +kernel
theorem dX9_tried_94 : decode cX9_tried 94 = .ok (.getfield 36, 3) := by decide +kernel
theorem dX9_tried_97 : decode cX9_tried 97 = .ok (.iconst 3, 1) := by decide +kernel
theorem dX9_tried_98 : decode cX9_tried 98 = .ok (.invokevirtual 256, 3) := by decide +kernel
theorem dX9_tried_101 : decode cX9_tried 101 = .ok (.aload_n 0, 1) := by decide +kernel
theorem dX9_tried_102 : decode cX9_tried 102 = .ok (.getfield 32, 3) := by decide +kernel
theorem dX9_tried_105 : decode cX9_tried 105 = .ok (.iconst 3, 1) := by decide +kernel
theorem dX9_tried_106 : decode cX9_tried 106 = .ok (.invokevirtual 256, 3) := by decide +kernel
theorem dX9_tried_109 : decode cX9_tried 109 = .ok (.isub, 1) := by decide +kernel
theorem dX9_tried_110 : decode cX9_tried 110 = .ok (.ireturn, 1) := by decide +kernel
theorem dX9_undo_0 : decode cX9_undo 0 = .ok (.aload_n 0, 1) := by decide +kernel
theorem dX9_undo_1 : decode cX9_undo 1 = .ok (.getfield 45, 3) := by decide +kernel
theorem dX9_undo_4 : decode cX9_undo 4 = .ok (.getfield 98, 3) := by decide +kernel
theorem dX9_undo_7 : decode cX9_undo 7 = .ok (.ifCond .ne 5, 3) := by decide +kernel
theorem dX9_undo_10 : decode cX9_undo 10 = .ok (.iconst (-1), 1) := by decide +kernel
theorem dX9_undo_11 : decode cX9_undo 11 = .ok (.ireturn, 1) := by decide +kernel
theorem dX9_undo_12 : decode cX9_undo 12 = .ok (.aload_n 0, 1) := by decide +kernel
theorem dX9_undo_13 : decode cX9_undo 13 = .ok (.getfield 45, 3) := by decide +kernel
theorem dX9_undo_16 : decode cX9_undo 16 = .ok (.aload_n 0, 1) := by decide +kernel
theorem dX9_undo_17 : decode cX9_undo 17 = .ok (.getfield 32, 3) := by decide +kernel
theorem dX9_undo_20 : decode cX9_undo 20 = .ok (.invokevirtual 348, 3) := by decide +kernel
theorem dX9_undo_23 : decode cX9_undo 23 = .ok (.aload_n 0, 1) := by decide +kernel
theorem dX9_undo_24 : decode cX9_undo 24 = .ok (.getfield 45, 3) := by decide +kernel
theorem dX9_undo_27 : decode cX9_undo 27 = .ok (.getfield 98, 3) := by decide +kernel
theorem dX9_undo_30 : decode cX9_undo 30 = .ok (.ireturn, 1) := by decide +kernel
theorem dX9_image_0 : decode cX9_image 0 = .ok (.aload_n 0, 1) := by decide +kernel
theorem dX9_image_1 : decode cX9_image 1 = .ok (.getfield 39, 3) := by decide +kernel
theorem dX9_image_4 : decode cX9_image 4 = .ok (.aload_n 0, 1) := by decide +kernel
theorem dX9_image_5 : decode cX9_image 5 = .ok (.getfield 32, 3) := by decide +kernel
theorem dX9_image_8 : decode cX9_image 8 = .ok (.invokevirtual 91, 3) := by decide +kernel
theorem dX9_image_11 : decode cX9_image 11 = .ok (.aload_n 0, 1) := by decide +kernel
theorem dX9_image_12 : decode cX9_image 12 = .ok (.iconst 1, 1) := by decide +kernel
theorem dX9_image_13 : decode cX9_image 13 = .ok (.putfield 101, 3) := by decide +kernel
theorem dX9_image_16 : decode cX9_image 16 = .ok (.aload_n 0, 1) := by decide +kernel
theorem dX9_image_17 : decode cX9_image 17 = .ok (.getfield 32, 3) := by decide +kernel
theorem dX9_image_20 : decode cX9_image 20 = .ok (.getfield 218, 3) := by decide +kernel
theorem dX9_image_23 : decode cX9_image 23 = .ok (.ireturn, 1) := by decide +kernel
theorem dX9_back_0 : decode cX9_back 0 = .ok (.aload_n 0, 1) := by decide +kernel
theorem dX9_back_1 : decode cX9_back 1 = .ok (.getfield 101, 3) := by decide +kernel
theorem dX9_back_4 : decode cX9_back 4 = .ok (.ifCond .ne 5, 3) := by decide +kernel
theorem dX9_back_7 : decode cX9_back 7 = .ok (.iconst (-1), 1) := by decide +kernel
theorem dX9_back_8 : decode cX9_back 8 = .ok (.ireturn, 1) := by decide +kernel
theorem dX9_back_9 : decode cX9_back 9 = .ok (.aload_n 0, 1) := by decide +kernel
theorem dX9_back_10 : decode cX9_back 10 = .ok (.getfield 32, 3) := by decide +kernel
theorem dX9_back_13 : decode cX9_back 13 = .ok (.aload_n 0, 1) := by decide +kernel
theorem dX9_back_14 : decode cX9_back 14 = .ok (.getfield 39, 3) := by decide +kernel
theorem dX9_back_17 : decode cX9_back 17 = .ok (.invokevirtual 91, 3) := by decide +kernel
theorem dX9_back_20 : decode cX9_back 20 = .ok (.aload_n 0, 1) := by decide +kernel
theorem dX9_back_21 : decode cX9_back 21 = .ok (.getfield 45, 3) := by decide +kernel
theorem dX9_back_24 : decode cX9_back 24 = .ok (.iconst 0, 1) := by decide +kernel
theorem dX9_back_25 : decode cX9_back 25 = .ok (.putfield 98, 3) := by decide +kernel
theorem dX9_back_28 : decode cX9_back 28 = .ok (.aload_n 0, 1) := by decide +kernel
theorem dX9_back_29 : decode cX9_back 29 = .ok (.getfield 32, 3) := by decide +kernel
theorem dX9_back_32 : decode cX9_back 32 = .ok (.getfield 218, 3) := by decide +kernel
theorem dX9_back_35 : decode cX9_back 35 = .ok (.ireturn, 1) := by decide +kernel
theorem dX9_count_0 : decode cX9_count 0 = .ok (.iload_n 1, 1) := by decide +kernel
theorem dX9_count_1 : decode cX9_count 1 = .ok (.tableswitch 184 0 14 #[75, 83, 91, 99, 107, 115, 115, 115, 115, 126, 137, 145, 160, 168, 176], 75) := by decide +kernel
theorem dX9_count_76 : decode cX9_count 76 = .ok (.aload_n 0, 1) := by decide +kernel
theorem dX9_count_77 : decode cX9_count 77 = .ok (.getfield 25, 3) := by decide +kernel
theorem dX9_count_80 : decode cX9_count 80 = .ok (.getfield 117, 3) := by decide +kernel
theorem dX9_count_83 : decode cX9_count 83 = .ok (.ireturn, 1) := by decide +kernel
theorem dX9_count_84 : decode cX9_count 84 = .ok (.aload_n 0, 1) := by decide +kernel
theorem dX9_count_85 : decode cX9_count 85 = .ok (.getfield 25, 3) := by decide +kernel
theorem dX9_count_88 : decode cX9_count 88 = .ok (.getfield 127, 3) := by decide +kernel
theorem dX9_count_91 : decode cX9_count 91 = .ok (.ireturn, 1) := by decide +kernel
theorem dX9_count_92 : decode cX9_count 92 = .ok (.aload_n 0, 1) := by decide +kernel
theorem dX9_count_93 : decode cX9_count 93 = .ok (.getfield 32, 3) := by decide +kernel
theorem dX9_count_96 : decode cX9_count 96 = .ok (.getfield 212, 3) := by decide +kernel
theorem dX9_count_99 : decode cX9_count 99 = .ok (.ireturn, 1) := by decide +kernel
theorem dX9_count_100 : decode cX9_count 100 = .ok (.aload_n 0, 1) := by decide +kernel
theorem dX9_count_101 : decode cX9_count 101 = .ok (.getfield 25, 3) := by decide +kernel
theorem dX9_count_104 : decode cX9_count 104 = .ok (.getfield 351, 3) := by decide +kernel
theorem dX9_count_107 : decode cX9_count 107 = .ok (.ireturn, 1) := by decide +kernel
theorem dX9_count_108 : decode cX9_count 108 = .ok (.aload_n 0, 1) := by decide +kernel
theorem dX9_count_109 : decode cX9_count 109 = .ok (.getfield 32, 3) := by decide +kernel
theorem dX9_count_112 : decode cX9_count 112 = .ok (.getfield 218, 3) := by decide +kernel
theorem dX9_count_115 : decode cX9_count 115 = .ok (.ireturn, 1) := by decide +kernel
theorem dX9_count_116 : decode cX9_count 116 = .ok (.aload_n 0, 1) := by decide +kernel
theorem dX9_count_117 : decode cX9_count 117 = .ok (.getfield 32, 3) := by decide +kernel
theorem dX9_count_120 : decode cX9_count 120 = .ok (.iload_n 1, 1) := by decide +kernel
theorem dX9_count_121 : decode cX9_count 121 = .ok (.iconst 4, 1) := by decide +kernel
theorem dX9_count_122 : decode cX9_count 122 = .ok (.isub, 1) := by decide +kernel
theorem dX9_count_123 : decode cX9_count 123 = .ok (.invokevirtual 256, 3) := by decide +kernel
theorem dX9_count_126 : decode cX9_count 126 = .ok (.ireturn, 1) := by decide +kernel
theorem dX9_count_127 : decode cX9_count 127 = .ok (.aload_n 0, 1) := by decide +kernel
theorem dX9_count_128 : decode cX9_count 128 = .ok (.getfield 32, 3) := by decide +kernel
theorem dX9_count_131 : decode cX9_count 131 = .ok (.getfield 250, 3) := by decide +kernel
theorem dX9_count_134 : decode cX9_count 134 = .ok (.invokestatic 253, 3) := by decide +kernel
theorem dX9_count_137 : decode cX9_count 137 = .ok (.ireturn, 1) := by decide +kernel
theorem dX9_count_138 : decode cX9_count 138 = .ok (.aload_n 0, 1) := by decide +kernel
theorem dX9_count_139 : decode cX9_count 139 = .ok (.getfield 32, 3) := by decide +kernel
theorem dX9_count_142 : decode cX9_count 142 = .ok (.invokevirtual 354, 3) := by decide +kernel
theorem dX9_count_145 : decode cX9_count 145 = .ok (.ireturn, 1) := by decide +kernel
theorem dX9_count_146 : decode cX9_count 146 = .ok (.aload_n 0, 1) := by decide +kernel
theorem dX9_count_147 : decode cX9_count 147 = .ok (.getfield 32, 3) := by decide +kernel
theorem dX9_count_150 : decode cX9_count 150 = .ok (.aload_n 0, 1) := by decide +kernel
theorem dX9_count_151 : decode cX9_count 151 = .ok (.getfield 25, 3) := by decide +kernel
theorem dX9_count_154 : decode cX9_count 154 = .ok (.getfield 117, 3) := by decide +kernel
theorem dX9_count_157 : decode cX9_count 157 = .ok (.invokevirtual 358, 3) := by decide +kernel
theorem dX9_count_160 : decode cX9_count 160 = .ok (.ireturn, 1) := by decide +kernel
theorem dX9_count_161 : decode cX9_count 161 = .ok (.aload_n 0, 1) := by decide +kernel
theorem dX9_count_162 : decode cX9_count 162 = .ok (.getfield 61, 3) := by decide +kernel
theorem dX9_count_165 : decode cX9_count 165 = .ok (.getfield 325, 3) := by decide +kernel
theorem dX9_count_168 : decode cX9_count 168 = .ok (.ireturn, 1) := by decide +kernel
theorem dX9_count_169 : decode cX9_count 169 = .ok (.aload_n 0, 1) := by decide +kernel
theorem dX9_count_170 : decode cX9_count 170 = .ok (.getfield 61, 3) := by decide +kernel
theorem dX9_count_173 : decode cX9_count 173 = .ok (.invokevirtual 361, 3) := by decide +kernel
theorem dX9_count_176 : decode cX9_count 176 = .ok (.ireturn, 1) := by decide +kernel
theorem dX9_count_177 : decode cX9_count 177 = .ok (.aload_n 0, 1) := by decide +kernel
theorem dX9_count_178 : decode cX9_count 178 = .ok (.getfield 45, 3) := by decide +kernel
theorem dX9_count_181 : decode cX9_count 181 = .ok (.getfield 98, 3) := by decide +kernel
theorem dX9_count_184 : decode cX9_count 184 = .ok (.ireturn, 1) := by decide +kernel
theorem dX9_count_185 : decode cX9_count 185 = .ok (.iconst (-1), 1) := by decide +kernel
theorem dX9_count_186 : decode cX9_count 186 = .ok (.ireturn, 1) := by decide +kernel
theorem dX9_isMan_0 : decode cX9_isMan 0 = .ok (.iload_n 1, 1) := by decide +kernel
theorem dX9_isMan_1 : decode cX9_isMan 1 = .ok (.ifCond .lt 18, 3) := by decide +kernel
theorem dX9_isMan_4 : decode cX9_isMan 4 = .ok (.iload_n 1, 1) := by decide +kernel
theorem dX9_isMan_5 : decode cX9_isMan 5 = .ok (.aload_n 0, 1) := by decide +kernel
theorem dX9_isMan_6 : decode cX9_isMan 6 = .ok (.getfield 25, 3) := by decide +kernel
theorem dX9_isMan_9 : decode cX9_isMan 9 = .ok (.getfield 117, 3) := by decide +kernel
theorem dX9_isMan_12 : decode cX9_isMan 12 = .ok (.if_icmp .ge 7, 3) := by decide +kernel
theorem dX9_isMan_15 : decode cX9_isMan 15 = .ok (.iconst 1, 1) := by decide +kernel
theorem dX9_isMan_16 : decode cX9_isMan 16 = .ok (.goto 4, 3) := by decide +kernel
theorem dX9_isMan_19 : decode cX9_isMan 19 = .ok (.iconst 0, 1) := by decide +kernel
theorem dX9_isMan_20 : decode cX9_isMan 20 = .ok (.ireturn, 1) := by decide +kernel
theorem dX9_isTusk_0 : decode cX9_isTusk 0 = .ok (.iload_n 1, 1) := by decide +kernel
theorem dX9_isTusk_1 : decode cX9_isTusk 1 = .ok (.ifCond .lt 18, 3) := by decide +kernel
theorem dX9_isTusk_4 : decode cX9_isTusk 4 = .ok (.iload_n 1, 1) := by decide +kernel
theorem dX9_isTusk_5 : decode cX9_isTusk 5 = .ok (.aload_n 0, 1) := by decide +kernel
theorem dX9_isTusk_6 : decode cX9_isTusk 6 = .ok (.getfield 25, 3) := by decide +kernel
theorem dX9_isTusk_9 : decode cX9_isTusk 9 = .ok (.getfield 127, 3) := by decide +kernel
theorem dX9_isTusk_12 : decode cX9_isTusk 12 = .ok (.if_icmp .ge 7, 3) := by decide +kernel
theorem dX9_isTusk_15 : decode cX9_isTusk 15 = .ok (.iconst 1, 1) := by decide +kernel
theorem dX9_isTusk_16 : decode cX9_isTusk 16 = .ok (.goto 4, 3) := by decide +kernel
theorem dX9_isTusk_19 : decode cX9_isTusk 19 = .ok (.iconst 0, 1) := by decide +kernel
theorem dX9_isTusk_20 : decode cX9_isTusk 20 = .ok (.ireturn, 1) := by decide +kernel
theorem dX9_isDebt_0 : decode cX9_isDebt 0 = .ok (.iload_n 1, 1) := by decide +kernel
theorem dX9_isDebt_1 : decode cX9_isDebt 1 = .ok (.ifCond .lt 18, 3) := by decide +kernel
theorem dX9_isDebt_4 : decode cX9_isDebt 4 = .ok (.iload_n 1, 1) := by decide +kernel
theorem dX9_isDebt_5 : decode cX9_isDebt 5 = .ok (.aload_n 0, 1) := by decide +kernel
theorem dX9_isDebt_6 : decode cX9_isDebt 6 = .ok (.getfield 32, 3) := by decide +kernel
theorem dX9_isDebt_9 : decode cX9_isDebt 9 = .ok (.getfield 212, 3) := by decide +kernel
theorem dX9_isDebt_12 : decode cX9_isDebt 12 = .ok (.if_icmp .ge 7, 3) := by decide +kernel
theorem dX9_isDebt_15 : decode cX9_isDebt 15 = .ok (.iconst 1, 1) := by decide +kernel
theorem dX9_isDebt_16 : decode cX9_isDebt 16 = .ok (.goto 4, 3) := by decide +kernel
theorem dX9_isDebt_19 : decode cX9_isDebt 19 = .ok (.iconst 0, 1) := by decide +kernel
theorem dX9_isDebt_20 : decode cX9_isDebt 20 = .ok (.ireturn, 1) := by decide +kernel
theorem dX9_indexOf_0 : decode cX9_indexOf 0 = .ok (.iconst 0, 1) := by decide +kernel
theorem dX9_indexOf_1 : decode cX9_indexOf 1 = .ok (.istore_n 3, 1) := by decide +kernel
theorem dX9_indexOf_2 : decode cX9_indexOf 2 = .ok (.iload_n 3, 1) := by decide +kernel
theorem dX9_indexOf_3 : decode cX9_indexOf 3 = .ok (.iload_n 2, 1) := by decide +kernel
theorem dX9_indexOf_4 : decode cX9_indexOf 4 = .ok (.if_icmp .ge 24, 3) := by decide +kernel
theorem dX9_indexOf_7 : decode cX9_indexOf 7 = .ok (.iload_n 3, 1) := by decide +kernel
theorem dX9_indexOf_8 : decode cX9_indexOf 8 = .ok (.aload_n 1, 1) := by decide +kernel
theorem dX9_indexOf_9 : decode cX9_indexOf 9 = .ok (.arraylength, 1) := by decide +kernel
theorem dX9_indexOf_10 : decode cX9_indexOf 10 = .ok (.if_icmp .ge 18, 3) := by decide +kernel
theorem dX9_indexOf_13 : decode cX9_indexOf 13 = .ok (.aload_n 1, 1) := by decide +kernel
theorem dX9_indexOf_14 : decode cX9_indexOf 14 = .ok (.iload_n 3, 1) := by decide +kernel
theorem dX9_indexOf_15 : decode cX9_indexOf 15 = .ok (.iaload, 1) := by decide +kernel
theorem dX9_indexOf_16 : decode cX9_indexOf 16 = .ok (.iload_n 0, 1) := by decide +kernel
theorem dX9_indexOf_17 : decode cX9_indexOf 17 = .ok (.if_icmp .ne 5, 3) := by decide +kernel
theorem dX9_indexOf_20 : decode cX9_indexOf 20 = .ok (.iload_n 3, 1) := by decide +kernel
theorem dX9_indexOf_21 : decode cX9_indexOf 21 = .ok (.ireturn, 1) := by decide +kernel
theorem dX9_indexOf_22 : decode cX9_indexOf 22 = .ok (.iinc 3 1, 3) := by decide +kernel
theorem dX9_indexOf_25 : decode cX9_indexOf 25 = .ok (.goto (-23), 3) := by decide +kernel
theorem dX9_indexOf_28 : decode cX9_indexOf 28 = .ok (.iconst (-1), 1) := by decide +kernel
theorem dX9_indexOf_29 : decode cX9_indexOf 29 = .ok (.ireturn, 1) := by decide +kernel
theorem dJ6_bitCount_0f7a4_0 : decode cJ6_bitCount_0f7a4 0 = .ok (.iload_n 0, 1) := by decide +kernel
theorem dJ6_bitCount_0f7a4_1 : decode cJ6_bitCount_0f7a4 1 = .ok (.iload_n 0, 1) := by decide +kernel
theorem dJ6_bitCount_0f7a4_2 : decode cJ6_bitCount_0f7a4 2 = .ok (.iconst 1, 1) := by decide +kernel
theorem dJ6_bitCount_0f7a4_3 : decode cJ6_bitCount_0f7a4 3 = .ok (.iushr, 1) := by decide +kernel
theorem dJ6_bitCount_0f7a4_4 : decode cJ6_bitCount_0f7a4 4 = .ok (.ldc_w 265, 3) := by decide +kernel
theorem dJ6_bitCount_0f7a4_7 : decode cJ6_bitCount_0f7a4 7 = .ok (.iand, 1) := by decide +kernel
theorem dJ6_bitCount_0f7a4_8 : decode cJ6_bitCount_0f7a4 8 = .ok (.isub, 1) := by decide +kernel
theorem dJ6_bitCount_0f7a4_9 : decode cJ6_bitCount_0f7a4 9 = .ok (.istore_n 0, 1) := by decide +kernel
theorem dJ6_bitCount_0f7a4_10 : decode cJ6_bitCount_0f7a4 10 = .ok (.iload_n 0, 1) := by decide +kernel
theorem dJ6_bitCount_0f7a4_11 : decode cJ6_bitCount_0f7a4 11 = .ok (.ldc_w 266, 3) := by decide +kernel
theorem dJ6_bitCount_0f7a4_14 : decode cJ6_bitCount_0f7a4 14 = .ok (.iand, 1) := by decide +kernel
theorem dJ6_bitCount_0f7a4_15 : decode cJ6_bitCount_0f7a4 15 = .ok (.iload_n 0, 1) := by decide +kernel
theorem dJ6_bitCount_0f7a4_16 : decode cJ6_bitCount_0f7a4 16 = .ok (.iconst 2, 1) := by decide +kernel
theorem dJ6_bitCount_0f7a4_17 : decode cJ6_bitCount_0f7a4 17 = .ok (.iushr, 1) := by decide +kernel
theorem dJ6_bitCount_0f7a4_18 : decode cJ6_bitCount_0f7a4 18 = .ok (.ldc_w 266, 3) := by decide +kernel
theorem dJ6_bitCount_0f7a4_21 : decode cJ6_bitCount_0f7a4 21 = .ok (.iand, 1) := by decide +kernel
theorem dJ6_bitCount_0f7a4_22 : decode cJ6_bitCount_0f7a4 22 = .ok (.iadd, 1) := by decide +kernel
theorem dJ6_bitCount_0f7a4_23 : decode cJ6_bitCount_0f7a4 23 = .ok (.istore_n 0, 1) := by decide +kernel
theorem dJ6_bitCount_0f7a4_24 : decode cJ6_bitCount_0f7a4 24 = .ok (.iload_n 0, 1) := by decide +kernel
theorem dJ6_bitCount_0f7a4_25 : decode cJ6_bitCount_0f7a4 25 = .ok (.iload_n 0, 1) := by decide +kernel
theorem dJ6_bitCount_0f7a4_26 : decode cJ6_bitCount_0f7a4 26 = .ok (.iconst 4, 1) := by decide +kernel
theorem dJ6_bitCount_0f7a4_27 : decode cJ6_bitCount_0f7a4 27 = .ok (.iushr, 1) := by decide +kernel
theorem dJ6_bitCount_0f7a4_28 : decode cJ6_bitCount_0f7a4 28 = .ok (.iadd, 1) := by decide +kernel
theorem dJ6_bitCount_0f7a4_29 : decode cJ6_bitCount_0f7a4 29 = .ok (.ldc_w 267, 3) := by decide +kernel
theorem dJ6_bitCount_0f7a4_32 : decode cJ6_bitCount_0f7a4 32 = .ok (.iand, 1) := by decide +kernel
theorem dJ6_bitCount_0f7a4_33 : decode cJ6_bitCount_0f7a4 33 = .ok (.istore_n 0, 1) := by decide +kernel
theorem dJ6_bitCount_0f7a4_34 : decode cJ6_bitCount_0f7a4 34 = .ok (.iload_n 0, 1) := by decide +kernel
theorem dJ6_bitCount_0f7a4_35 : decode cJ6_bitCount_0f7a4 35 = .ok (.iload_n 0, 1) := by decide +kernel
theorem dJ6_bitCount_0f7a4_36 : decode cJ6_bitCount_0f7a4 36 = .ok (.bipush 8, 2) := by decide +kernel
theorem dJ6_bitCount_0f7a4_38 : decode cJ6_bitCount_0f7a4 38 = .ok (.iushr, 1) := by decide +kernel
theorem dJ6_bitCount_0f7a4_39 : decode cJ6_bitCount_0f7a4 39 = .ok (.iadd, 1) := by decide +kernel
theorem dJ6_bitCount_0f7a4_40 : decode cJ6_bitCount_0f7a4 40 = .ok (.istore_n 0, 1) := by decide +kernel
theorem dJ6_bitCount_0f7a4_41 : decode cJ6_bitCount_0f7a4 41 = .ok (.iload_n 0, 1) := by decide +kernel
theorem dJ6_bitCount_0f7a4_42 : decode cJ6_bitCount_0f7a4 42 = .ok (.iload_n 0, 1) := by decide +kernel
theorem dJ6_bitCount_0f7a4_43 : decode cJ6_bitCount_0f7a4 43 = .ok (.bipush 16, 2) := by decide +kernel
theorem dJ6_bitCount_0f7a4_45 : decode cJ6_bitCount_0f7a4 45 = .ok (.iushr, 1) := by decide +kernel
theorem dJ6_bitCount_0f7a4_46 : decode cJ6_bitCount_0f7a4 46 = .ok (.iadd, 1) := by decide +kernel
theorem dJ6_bitCount_0f7a4_47 : decode cJ6_bitCount_0f7a4 47 = .ok (.istore_n 0, 1) := by decide +kernel
theorem dJ6_bitCount_0f7a4_48 : decode cJ6_bitCount_0f7a4 48 = .ok (.iload_n 0, 1) := by decide +kernel
theorem dJ6_bitCount_0f7a4_49 : decode cJ6_bitCount_0f7a4 49 = .ok (.bipush 63, 2) := by decide +kernel
theorem dJ6_bitCount_0f7a4_51 : decode cJ6_bitCount_0f7a4 51 = .ok (.iand, 1) := by decide +kernel
theorem dJ6_bitCount_0f7a4_52 : decode cJ6_bitCount_0f7a4 52 = .ok (.ireturn, 1) := by decide +kernel
theorem dJ9_abs_067f4_0 : decode cJ9_abs_067f4 0 = .ok (.lload_n 0, 1) := by decide +kernel
theorem dJ9_abs_067f4_1 : decode cJ9_abs_067f4 1 = .ok (.lconst 0, 1) := by decide +kernel
theorem dJ9_abs_067f4_2 : decode cJ9_abs_067f4 2 = .ok (.lcmp, 1) := by decide +kernel
theorem dJ9_abs_067f4_3 : decode cJ9_abs_067f4 3 = .ok (.ifCond .ge 8, 3) := by decide +kernel
theorem dJ9_abs_067f4_6 : decode cJ9_abs_067f4 6 = .ok (.lload_n 0, 1) := by decide +kernel
theorem dJ9_abs_067f4_7 : decode cJ9_abs_067f4 7 = .ok (.lneg, 1) := by decide +kernel
theorem dJ9_abs_067f4_8 : decode cJ9_abs_067f4 8 = .ok (.goto 4, 3) := by decide +kernel
theorem dJ9_abs_067f4_11 : decode cJ9_abs_067f4 11 = .ok (.lload_n 0, 1) := by decide +kernel
theorem dJ9_abs_067f4_12 : decode cJ9_abs_067f4 12 = .ok (.lreturn, 1) := by decide +kernel
theorem dJ9_max_7cf53_0 : decode cJ9_max_7cf53 0 = .ok (.iload_n 0, 1) := by decide +kernel
theorem dJ9_max_7cf53_1 : decode cJ9_max_7cf53 1 = .ok (.iload_n 1, 1) := by decide +kernel
theorem dJ9_max_7cf53_2 : decode cJ9_max_7cf53 2 = .ok (.if_icmp .lt 7, 3) := by decide +kernel
theorem dJ9_max_7cf53_5 : decode cJ9_max_7cf53 5 = .ok (.iload_n 0, 1) := by decide +kernel
theorem dJ9_max_7cf53_6 : decode cJ9_max_7cf53 6 = .ok (.goto 4, 3) := by decide +kernel
theorem dJ9_max_7cf53_9 : decode cJ9_max_7cf53 9 = .ok (.iload_n 1, 1) := by decide +kernel
theorem dJ9_max_7cf53_10 : decode cJ9_max_7cf53 10 = .ok (.ireturn, 1) := by decide +kernel
theorem dJ9_max_f86c9_0 : decode cJ9_max_f86c9 0 = .ok (.lload_n 0, 1) := by decide +kernel
theorem dJ9_max_f86c9_1 : decode cJ9_max_f86c9 1 = .ok (.lload_n 2, 1) := by decide +kernel
theorem dJ9_max_f86c9_2 : decode cJ9_max_f86c9 2 = .ok (.lcmp, 1) := by decide +kernel
theorem dJ9_max_f86c9_3 : decode cJ9_max_f86c9 3 = .ok (.ifCond .lt 7, 3) := by decide +kernel
theorem dJ9_max_f86c9_6 : decode cJ9_max_f86c9 6 = .ok (.lload_n 0, 1) := by decide +kernel
theorem dJ9_max_f86c9_7 : decode cJ9_max_f86c9 7 = .ok (.goto 4, 3) := by decide +kernel
theorem dJ9_max_f86c9_10 : decode cJ9_max_f86c9 10 = .ok (.lload_n 2, 1) := by decide +kernel
theorem dJ9_max_f86c9_11 : decode cJ9_max_f86c9 11 = .ok (.lreturn, 1) := by decide +kernel
theorem dJ9_min_7cf53_0 : decode cJ9_min_7cf53 0 = .ok (.iload_n 0, 1) := by decide +kernel
theorem dJ9_min_7cf53_1 : decode cJ9_min_7cf53 1 = .ok (.iload_n 1, 1) := by decide +kernel
theorem dJ9_min_7cf53_2 : decode cJ9_min_7cf53 2 = .ok (.if_icmp .gt 7, 3) := by decide +kernel
theorem dJ9_min_7cf53_5 : decode cJ9_min_7cf53 5 = .ok (.iload_n 0, 1) := by decide +kernel
theorem dJ9_min_7cf53_6 : decode cJ9_min_7cf53 6 = .ok (.goto 4, 3) := by decide +kernel
theorem dJ9_min_7cf53_9 : decode cJ9_min_7cf53 9 = .ok (.iload_n 1, 1) := by decide +kernel
theorem dJ9_min_7cf53_10 : decode cJ9_min_7cf53 10 = .ok (.ireturn, 1) := by decide +kernel
theorem dJ9_min_f86c9_0 : decode cJ9_min_f86c9 0 = .ok (.lload_n 0, 1) := by decide +kernel
theorem dJ9_min_f86c9_1 : decode cJ9_min_f86c9 1 = .ok (.lload_n 2, 1) := by decide +kernel
theorem dJ9_min_f86c9_2 : decode cJ9_min_f86c9 2 = .ok (.lcmp, 1) := by decide +kernel
theorem dJ9_min_f86c9_3 : decode cJ9_min_f86c9 3 = .ok (.ifCond .gt 7, 3) := by decide +kernel
theorem dJ9_min_f86c9_6 : decode cJ9_min_f86c9 6 = .ok (.lload_n 0, 1) := by decide +kernel
theorem dJ9_min_f86c9_7 : decode cJ9_min_f86c9 7 = .ok (.goto 4, 3) := by decide +kernel
theorem dJ9_min_f86c9_10 : decode cJ9_min_f86c9 10 = .ok (.lload_n 2, 1) := by decide +kernel
theorem dJ9_min_f86c9_11 : decode cJ9_min_f86c9 11 = .ok (.lreturn, 1) := by decide +kernel
