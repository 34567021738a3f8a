theorem dX3_exchange_0 : decode cX3_exchange 0 = .ok (.aload_n 0, 1) := by decide +kernel
theorem dX3_exchange_1 : decode cX3_exchange 1 = .ok (.getfield 21, 3) := by decide +kernel
theorem dX3_exchange_4 : decode cX3_exchange 4 = .ok (.astore_n 2, 1) := by decide +kernel
theorem dX3_exchange_5 : decode cX3_exchange 5 = .ok (.aload_n 0, 1) := by decide +kernel
theorem dX3_exchange_6 : decode cX3_exchange 6 = .ok (.aload_n 1, 1) := by decide +kernel
theorem dX3_exchange_7 : decode cX3_exchange 7 = .ok (.putfield 21, 3) := by decide +kernel
theorem dX3_exchange_10 : decode cX3_exchange 10 = .ok (.aload_n 2, 1) := by decide +kernel
theorem dX3_exchange_11 : decode cX3_exchange 11 = .ok (.areturn, 1) := by decide +kernel
theorem dX3_read_0 : decode cX3_read 0 = .ok (.aload_n 0, 1) := by decide +kernel
theorem dX3_read_1 : decode cX3_read 1 = .ok (.getfield 12, 3) := by decide +kernel
theorem dX3_read_4 : decode cX3_read 4 = .ok (.aload_n 1, 1) := by decide +kernel
theorem dX3_read_5 : decode cX3_read 5 = .ok (.iload_n 2, 1) := by decide +kernel
theorem dX3_read_6 : decode cX3_read 6 = .ok (.invokevirtual 29, 3) := by decide +kernel
theorem dX3_read_9 : decode cX3_read 9 = .ok (.aload_n 0, 1) := by decide +kernel
theorem dX3_read_10 : decode cX3_read 10 = .ok (.getfield 21, 3) := by decide +kernel
theorem dX3_read_13 : decode cX3_read 13 = .ok (.invokevirtual 33, 3) := by decide +kernel
theorem dX3_read_16 : decode cX3_read 16 = .ok (.aload_n 0, 1) := by decide +kernel
theorem dX3_read_17 : decode cX3_read 17 = .ok (.iconst 0, 1) := by decide +kernel
theorem dX3_read_18 : decode cX3_read 18 = .ok (.putfield 36, 3) := by decide +kernel
theorem dX3_read_21 : decode cX3_read 21 = .ok (.aload_n 0, 1) := by decide +kernel
theorem dX3_read_22 : decode cX3_read 22 = .ok (.iconst 0, 1) := by decide +kernel
theorem dX3_read_23 : decode cX3_read 23 = .ok (.putfield 39, 3) := by decide +kernel
theorem dX3_read_26 : decode cX3_read 26 = .ok (.aload_n 0, 1) := by decide +kernel
theorem dX3_read_27 : decode cX3_read 27 = .ok (.iconst (-1), 1) := by decide +kernel
theorem dX3_read_28 : decode cX3_read 28 = .ok (.putfield 25, 3) := by decide +kernel
theorem dX3_read_31 : decode cX3_read 31 = .ok (.iconst 0, 1) := by decide +kernel
theorem dX3_read_32 : decode cX3_read 32 = .ok (.istore_n 3, 1) := by decide +kernel
theorem dX3_read_33 : decode cX3_read 33 = .ok (.iload_n 3, 1) := by decide +kernel
theorem dX3_read_34 : decode cX3_read 34 = .ok (.sipush 700, 3) := by decide +kernel
theorem dX3_read_37 : decode cX3_read 37 = .ok (.if_icmp .ge 48, 3) := by decide +kernel
theorem dX3_read_40 : decode cX3_read 40 = .ok (.aload_n 0, 1) := by decide +kernel
theorem dX3_read_41 : decode cX3_read 41 = .ok (.getfield 39, 3) := by decide +kernel
theorem dX3_read_44 : decode cX3_read 44 = .ok (.ifCond .ne 41, 3) := by decide +kernel
theorem dX3_read_47 : decode cX3_read 47 = .ok (.aload_n 0, 1) := by decide +kernel
theorem dX3_read_48 : decode cX3_read 48 = .ok (.invokevirtual 42, 3) := by decide +kernel
theorem dX3_read_51 : decode cX3_read 51 = .ok (.bipush 36, 2) := by decide +kernel
theorem dX3_read_53 : decode cX3_read 53 = .ok (.if_icmp .eq 32, 3) := by decide +kernel
theorem dX3_read_56 : decode cX3_read 56 = .ok (.aload_n 0, 1) := by decide +kernel
theorem dX3_read_57 : decode cX3_read 57 = .ok (.invokevirtual 46, 3) := by decide +kernel
theorem dX3_read_60 : decode cX3_read 60 = .ok (.aload_n 0, 1) := by decide +kernel
theorem dX3_read_61 : decode cX3_read 61 = .ok (.bipush 21, 2) := by decide +kernel
theorem dX3_read_63 : decode cX3_read 63 = .ok (.invokevirtual 49, 3) := by decide +kernel
theorem dX3_read_66 : decode cX3_read 66 = .ok (.aload_n 0, 1) := by decide +kernel
theorem dX3_read_67 : decode cX3_read 67 = .ok (.getfield 21, 3) := by decide +kernel
theorem dX3_read_70 : decode cX3_read 70 = .ok (.dup, 1) := by decide +kernel
theorem dX3_read_71 : decode cX3_read 71 = .ok (.getfield 53, 3) := by decide +kernel
theorem dX3_read_74 : decode cX3_read 74 = .ok (.iconst 1, 1) := by decide +kernel
theorem dX3_read_75 : decode cX3_read 75 = .ok (.iadd, 1) := by decide +kernel
theorem dX3_read_76 : decode cX3_read 76 = .ok (.putfield 53, 3) := by decide +kernel
theorem dX3_read_79 : decode cX3_read 79 = .ok (.iinc 3 1, 3) := by decide +kernel
theorem dX3_read_82 : decode cX3_read 82 = .ok (.goto (-49), 3) := by decide +kernel
theorem dX3_read_85 : decode cX3_read 85 = .ok (.aload_n 0, 1) := by decide +kernel
theorem dX3_read_86 : decode cX3_read 86 = .ok (.getfield 39, 3) := by decide +kernel
theorem dX3_read_89 : decode cX3_read 89 = .ok (.ifCond .ne 7, 3) := by decide +kernel
theorem dX3_read_92 : decode cX3_read 92 = .ok (.iconst 1, 1) := by decide +kernel
theorem dX3_read_93 : decode cX3_read 93 = .ok (.goto 4, 3) := by decide +kernel
theorem dX3_read_96 : decode cX3_read 96 = .ok (.iconst 0, 1) := by decide +kernel
theorem dX3_read_97 : decode cX3_read 97 = .ok (.ireturn, 1) := by decide +kernel
theorem dX3_kind_0 : decode cX3_kind 0 = .ok (.aload_n 0, 1) := by decide +kernel
theorem dX3_kind_1 : decode cX3_kind 1 = .ok (.getfield 36, 3) := by decide +kernel
theorem dX3_kind_4 : decode cX3_kind 4 = .ok (.ifCond .lt 28, 3) := by decide +kernel
theorem dX3_kind_7 : decode cX3_kind 7 = .ok (.aload_n 0, 1) := by decide +kernel
theorem dX3_kind_8 : decode cX3_kind 8 = .ok (.getfield 36, 3) := by decide +kernel
theorem dX3_kind_11 : decode cX3_kind 11 = .ok (.sipush 701, 3) := by decide +kernel
theorem dX3_kind_14 : decode cX3_kind 14 = .ok (.if_icmp .ge 18, 3) := by decide +kernel
theorem dX3_kind_17 : decode cX3_kind 17 = .ok (.aload_n 0, 1) := by decide +kernel
theorem dX3_kind_18 : decode cX3_kind 18 = .ok (.getfield 12, 3) := by decide +kernel
theorem dX3_kind_21 : decode cX3_kind 21 = .ok (.getfield 56, 3) := by decide +kernel
theorem dX3_kind_24 : decode cX3_kind 24 = .ok (.aload_n 0, 1) := by decide +kernel
theorem dX3_kind_25 : decode cX3_kind 25 = .ok (.getfield 36, 3) := by decide +kernel
theorem dX3_kind_28 : decode cX3_kind 28 = .ok (.iaload, 1) := by decide +kernel
theorem dX3_kind_29 : decode cX3_kind 29 = .ok (.goto 5, 3) := by decide +kernel
theorem dX3_kind_32 : decode cX3_kind 32 = .ok (.bipush 36, 2) := by decide +kernel
theorem dX3_kind_34 : decode cX3_kind 34 = .ok (.ireturn, 1) := by decide +kernel
theorem dX3_value_0 : decode cX3_value 0 = .ok (.aload_n 0, 1) := by decide +kernel
theorem dX3_value_1 : decode cX3_value 1 = .ok (.getfield 36, 3) := by decide +kernel
theorem dX3_value_4 : decode cX3_value 4 = .ok (.ifCond .lt 28, 3) := by decide +kernel
theorem dX3_value_7 : decode cX3_value 7 = .ok (.aload_n 0, 1) := by decide +kernel
theorem dX3_value_8 : decode cX3_value 8 = .ok (.getfield 36, 3) := by decide +kernel
theorem dX3_value_11 : decode cX3_value 11 = .ok (.sipush 701, 3) := by decide +kernel
theorem dX3_value_14 : decode cX3_value 14 = .ok (.if_icmp .ge 18, 3) := by decide +kernel
theorem dX3_value_17 : decode cX3_value 17 = .ok (.aload_n 0, 1) := by decide +kernel
theorem dX3_value_18 : decode cX3_value 18 = .ok (.getfield 12, 3) := by decide +kernel
theorem dX3_value_21 : decode cX3_value 21 = .ok (.getfield 60, 3) := by decide +kernel
theorem dX3_value_24 : decode cX3_value 24 = .ok (.aload_n 0, 1) := by decide +kernel
theorem dX3_value_25 : decode cX3_value 25 = .ok (.getfield 36, 3) := by decide +kernel
theorem dX3_value_28 : decode cX3_value 28 = .ok (.iaload, 1) := by decide +kernel
theorem dX3_value_29 : decode cX3_value 29 = .ok (.goto 4, 3) := by decide +kernel
theorem dX3_value_32 : decode cX3_value 32 = .ok (.iconst 0, 1) := by decide +kernel
theorem dX3_value_33 : decode cX3_value 33 = .ok (.ireturn, 1) := by decide +kernel
theorem dX3_step_0 : decode cX3_step 0 = .ok (.aload_n 0, 1) := by decide +kernel
theorem dX3_step_1 : decode cX3_step 1 = .ok (.getfield 36, 3) := by decide +kernel
theorem dX3_step_4 : decode cX3_step 4 = .ok (.iconst 1, 1) := by decide +kernel
theorem dX3_step_5 : decode cX3_step 5 = .ok (.iadd, 1) := by decide +kernel
theorem dX3_step_6 : decode cX3_step 6 = .ok (.aload_n 0, 1) := by decide +kernel
theorem dX3_step_7 : decode cX3_step 7 = .ok (.getfield 12, 3) := by decide +kernel
theorem dX3_step_10 : decode cX3_step 10 = .ok (.getfield 63, 3) := by decide +kernel
theorem dX3_step_13 : decode cX3_step 13 = .ok (.if_icmp .ge 13, 3) := by decide +kernel
theorem dX3_step_16 : decode cX3_step 16 = .ok (.aload_n 0, 1) := by decide +kernel
theorem dX3_step_17 : decode cX3_step 17 = .ok (.dup, 1) := by decide +kernel
theorem dX3_step_18 : decode cX3_step 18 = .ok (.getfield 36, 3) := by decide +kernel
theorem dX3_step_21 : decode cX3_step 21 = .ok (.iconst 1, 1) := by decide +kernel
theorem dX3_step_22 : decode cX3_step 22 = .ok (.iadd, 1) := by decide +kernel
theorem dX3_step_23 : decode cX3_step 23 = .ok (.putfield 36, 3) := by decide +kernel
theorem dX3_step_26 : decode cX3_step 26 = .ok (.return_, 1) := by decide +kernel
theorem dX3_refuse_0 : decode cX3_refuse 0 = .ok (.aload_n 0, 1) := by decide +kernel
theorem dX3_refuse_1 : decode cX3_refuse 1 = .ok (.getfield 39, 3) := by decide +kernel
theorem dX3_refuse_4 : decode cX3_refuse 4 = .ok (.ifCond .ne 41, 3) := by decide +kernel
theorem dX3_refuse_7 : decode cX3_refuse 7 = .ok (.aload_n 0, 1) := by decide +kernel
theorem dX3_refuse_8 : decode cX3_refuse 8 = .ok (.getfield 36, 3) := by decide +kernel
theorem dX3_refuse_11 : decode cX3_refuse 11 = .ok (.ifCond .lt 34, 3) := by decide +kernel
theorem dX3_refuse_14 : decode cX3_refuse 14 = .ok (.aload_n 0, 1) := by decide +kernel
theorem dX3_refuse_15 : decode cX3_refuse 15 = .ok (.getfield 36, 3) := by decide +kernel
theorem dX3_refuse_18 : decode cX3_refuse 18 = .ok (.sipush 701, 3) := by decide +kernel
theorem dX3_refuse_21 : decode cX3_refuse 21 = .ok (.if_icmp .ge 24, 3) := by decide +kernel
theorem dX3_refuse_24 : decode cX3_refuse 24 = .ok (.aload_n 0, 1) := by decide +kernel
theorem dX3_refuse_25 : decode cX3_refuse 25 = .ok (.iload_n 1, 1) := by decide +kernel
theorem dX3_refuse_26 : decode cX3_refuse 26 = .ok (.putfield 39, 3) := by decide +kernel
theorem dX3_refuse_29 : decode cX3_refuse 29 = .ok (.aload_n 0, 1) := by decide +kernel
theorem dX3_refuse_30 : decode cX3_refuse 30 = .ok (.aload_n 0, 1) := by decide +kernel
theorem dX3_refuse_31 : decode cX3_refuse 31 = .ok (.getfield 12, 3) := by decide +kernel
theorem dX3_refuse_34 : decode cX3_refuse 34 = .ok (.getfield 66, 3) := by decide +kernel
theorem dX3_refuse_37 : decode cX3_refuse 37 = .ok (.aload_n 0, 1) := by decide +kernel
theorem dX3_refuse_38 : decode cX3_refuse 38 = .ok (.getfield 36, 3) := by decide +kernel
theorem dX3_refuse_41 : decode cX3_refuse 41 = .ok (.iaload, 1) := by decide +kernel
theorem dX3_refuse_42 : decode cX3_refuse 42 = .ok (.putfield 25, 3) := by decide +kernel
theorem dX3_refuse_45 : decode cX3_refuse 45 = .ok (.return_, 1) := by decide +kernel
theorem dX3_take_0 : decode cX3_take 0 = .ok (.aload_n 0, 1) := by decide +kernel
theorem dX3_take_1 : decode cX3_take 1 = .ok (.getfield 39, 3) := by decide +kernel
theorem dX3_take_4 : decode cX3_take 4 = .ok (.ifCond .eq 4, 3) := by decide +kernel
theorem dX3_take_7 : decode cX3_take 7 = .ok (.return_, 1) := by decide +kernel
theorem dX3_take_8 : decode cX3_take 8 = .ok (.aload_n 0, 1) := by decide +kernel
theorem dX3_take_9 : decode cX3_take 9 = .ok (.invokevirtual 42, 3) := by decide +kernel
theorem dX3_take_12 : decode cX3_take 12 = .ok (.iload_n 1, 1) := by decide +kernel
theorem dX3_take_13 : decode cX3_take 13 = .ok (.if_icmp .ne 10, 3) := by decide +kernel
theorem dX3_take_16 : decode cX3_take 16 = .ok (.aload_n 0, 1) := by decide +kernel
theorem dX3_take_17 : decode cX3_take 17 = .ok (.invokevirtual 69, 3) := by decide +kernel
theorem dX3_take_20 : decode cX3_take 20 = .ok (.goto 8, 3) := by decide +kernel
theorem dX3_take_23 : decode cX3_take 23 = .ok (.aload_n 0, 1) := by decide +kernel
theorem dX3_take_24 : decode cX3_take 24 = .ok (.iconst 1, 1) := by decide +kernel
theorem dX3_take_25 : decode cX3_take 25 = .ok (.invokevirtual 72, 3) := by decide +kernel
theorem dX3_take_28 : decode cX3_take 28 = .ok (.return_, 1) := by decide +kernel
theorem dX3_readLine_0 : decode cX3_readLine 0 = .ok (.aload_n 0, 1) := by decide +kernel
theorem dX3_readLine_1 : decode cX3_readLine 1 = .ok (.invokevirtual 42, 3) := by decide +kernel
theorem dX3_readLine_4 : decode cX3_readLine 4 = .ok (.tableswitch 104 0 7 #[48, 55, 62, 69, 76, 83, 90, 97], 48) := by decide +kernel
theorem dX3_readLine_52 : decode cX3_readLine 52 = .ok (.aload_n 0, 1) := by decide +kernel
theorem dX3_readLine_53 : decode cX3_readLine 53 = .ok (.invokevirtual 75, 3) := by decide +kernel
theorem dX3_readLine_56 : decode cX3_readLine 56 = .ok (.goto 57, 3) := by decide +kernel
theorem dX3_readLine_59 : decode cX3_readLine 59 = .ok (.aload_n 0, 1) := by decide +kernel
theorem dX3_readLine_60 : decode cX3_readLine 60 = .ok (.invokevirtual 78, 3) := by decide +kernel
theorem dX3_readLine_63 : decode cX3_readLine 63 = .ok (.goto 50, 3) := by decide +kernel
theorem dX3_readLine_66 : decode cX3_readLine 66 = .ok (.aload_n 0, 1) := by decide +kernel
theorem dX3_readLine_67 : decode cX3_readLine 67 = .ok (.invokevirtual 81, 3) := by decide +kernel
theorem dX3_readLine_70 : decode cX3_readLine 70 = .ok (.goto 43, 3) := by decide +kernel
theorem dX3_readLine_73 : decode cX3_readLine 73 = .ok (.aload_n 0, 1) := by decide +kernel
theorem dX3_readLine_74 : decode cX3_readLine 74 = .ok (.invokevirtual 84, 3) := by decide +kernel
theorem dX3_readLine_77 : decode cX3_readLine 77 = .ok (.goto 36, 3) := by decide +kernel
theorem dX3_readLine_80 : decode cX3_readLine 80 = .ok (.aload_n 0, 1) := by decide +kernel
theorem dX3_readLine_81 : decode cX3_readLine 81 = .ok (.invokevirtual 87, 3) := by decide +kernel
theorem dX3_readLine_84 : decode cX3_readLine 84 = .ok (.goto 29, 3) := by decide +kernel
theorem dX3_readLine_87 : decode cX3_readLine 87 = .ok (.aload_n 0, 1) := by decide +kernel
theorem dX3_readLine_88 : decode cX3_readLine 88 = .ok (.invokevirtual 90, 3) := by decide +kernel
theorem dX3_readLine_91 : decode cX3_readLine 91 = .ok (.goto 22, 3) := by decide +kernel
theorem dX3_readLine_94 : decode cX3_readLine 94 = .ok (.aload_n 0, 1) := by decide +kernel
theorem dX3_readLine_95 : decode cX3_readLine 95 = .ok (.invokevirtual 93, 3) := by decide +kernel
theorem dX3_readLine_98 : decode cX3_readLine 98 = .ok (.goto 15, 3) := by decide +kernel
theorem dX3_readLine_101 : decode cX3_readLine 101 = .ok (.aload_n 0, 1) := by decide +kernel
theorem dX3_readLine_102 : decode cX3_readLine 102 = .ok (.invokevirtual 96, 3) := by decide +kernel
theorem dX3_readLine_105 : decode cX3_readLine 105 = .ok (.goto 8, 3) := by decide +kernel
theorem dX3_readLine_108 : decode cX3_readLine 108 = .ok (.aload_n 0, 1) := by decide +kernel
theorem dX3_readLine_109 : decode cX3_readLine 109 = .ok (.iconst 1, 1) := by decide +kernel
theorem dX3_readLine_110 : decode cX3_readLine 110 = .ok (.invokevirtual 72, 3) := by decide +kernel
theorem dX3_readLine_113 : decode cX3_readLine 113 = .ok (.return_, 1) := by decide +kernel
theorem dX3_takeLineWord_0 : decode cX3_takeLineWord 0 = .ok (.iload_n 1, 1) := by decide +kernel
theorem dX3_takeLineWord_1 : decode cX3_takeLineWord 1 = .ok (.ifCond .eq 10, 3) := by decide +kernel
theorem dX3_takeLineWord_4 : decode cX3_takeLineWord 4 = .ok (.aload_n 0, 1) := by decide +kernel
theorem dX3_takeLineWord_5 : decode cX3_takeLineWord 5 = .ok (.invokevirtual 69, 3) := by decide +kernel
theorem dX3_takeLineWord_8 : decode cX3_takeLineWord 8 = .ok (.goto 8, 3) := by decide +kernel
theorem dX3_takeLineWord_11 : decode cX3_takeLineWord 11 = .ok (.aload_n 0, 1) := by decide +kernel
theorem dX3_takeLineWord_12 : decode cX3_takeLineWord 12 = .ok (.iload_n 2, 1) := by decide +kernel
theorem dX3_takeLineWord_13 : decode cX3_takeLineWord 13 = .ok (.invokevirtual 72, 3) := by decide +kernel
theorem dX3_takeLineWord_16 : decode cX3_takeLineWord 16 = .ok (.return_, 1) := by decide +kernel
theorem dX3_readMan_0 : decode cX3_readMan 0 = .ok (.aload_n 0, 1) := by decide +kernel
theorem dX3_readMan_1 : decode cX3_readMan 1 = .ok (.aload_n 0, 1) := by decide +kernel
theorem dX3_readMan_2 : decode cX3_readMan 2 = .ok (.getfield 21, 3) := by decide +kernel
theorem dX3_readMan_5 : decode cX3_readMan 5 = .ok (.getfield 99, 3) := by decide +kernel
theorem dX3_readMan_8 : decode cX3_readMan 8 = .ok (.bipush 6, 2) := by decide +kernel
theorem dX3_readMan_10 : decode cX3_readMan 10 = .ok (.if_icmp .ge 7, 3) := by decide +kernel
theorem dX3_readMan_13 : decode cX3_readMan 13 = .ok (.iconst 1, 1) := by decide +kernel
theorem dX3_readMan_14 : decode cX3_readMan 14 = .ok (.goto 4, 3) := by decide +kernel
theorem dX3_readMan_17 : decode cX3_readMan 17 = .ok (.iconst 0, 1) := by decide +kernel
theorem dX3_readMan_18 : decode cX3_readMan 18 = .ok (.iconst 2, 1) := by decide +kernel
theorem dX3_readMan_19 : decode cX3_readMan 19 = .ok (.invokevirtual 102, 3) := by decide +kernel
theorem dX3_readMan_22 : decode cX3_readMan 22 = .ok (.aload_n 0, 1) := by decide +kernel
theorem dX3_readMan_23 : decode cX3_readMan 23 = .ok (.aload_n 0, 1) := by decide +kernel
theorem dX3_readMan_24 : decode cX3_readMan 24 = .ok (.getfield 21, 3) := by decide +kernel
theorem dX3_readMan_27 : decode cX3_readMan 27 = .ok (.getfield 106, 3) := by decide +kernel
theorem dX3_readMan_30 : decode cX3_readMan 30 = .ok (.aload_n 0, 1) := by decide +kernel
theorem dX3_readMan_31 : decode cX3_readMan 31 = .ok (.getfield 21, 3) := by decide +kernel
theorem dX3_readMan_34 : decode cX3_readMan 34 = .ok (.getfield 99, 3) := by decide +kernel
theorem dX3_readMan_37 : decode cX3_readMan 37 = .ok (.invokevirtual 109, 3) := by decide +kernel
theorem dX3_readMan_40 : decode cX3_readMan 40 = .ok (.istore_n 1, 1) := by decide +kernel
theorem dX3_readMan_41 : decode cX3_readMan 41 = .ok (.aload_n 0, 1) := by decide +kernel
theorem dX3_readMan_42 : decode cX3_readMan 42 = .ok (.iconst 0, 1) := by decide +kernel
theorem dX3_readMan_43 : decode cX3_readMan 43 = .ok (.sipush 999, 3) := by decide +kernel
theorem dX3_readMan_46 : decode cX3_readMan 46 = .ok (.invokevirtual 113, 3) := by decide +kernel
theorem dX3_readMan_49 : decode cX3_readMan 49 = .ok (.istore_n 2, 1) := by decide +kernel
theorem dX3_readMan_50 : decode cX3_readMan 50 = .ok (.aload_n 0, 1) := by decide +kernel
theorem dX3_readMan_51 : decode cX3_readMan 51 = .ok (.getfield 39, 3) := by decide +kernel
theorem dX3_readMan_54 : decode cX3_readMan 54 = .ok (.ifCond .ne 12, 3) := by decide +kernel
theorem dX3_readMan_57 : decode cX3_readMan 57 = .ok (.aload_n 0, 1) := by decide +kernel
theorem dX3_readMan_58 : decode cX3_readMan 58 = .ok (.getfield 21, 3) := by decide +kernel
theorem dX3_readMan_61 : decode cX3_readMan 61 = .ok (.iload_n 1, 1) := by decide +kernel
theorem dX3_readMan_62 : decode cX3_readMan 62 = .ok (.iload_n 2, 1) := by decide +kernel
theorem dX3_readMan_63 : decode cX3_readMan 63 = .ok (.invokevirtual 117, 3) := by decide +kernel
theorem dX3_readMan_66 : decode cX3_readMan 66 = .ok (.return_, 1) := by decide +kernel
theorem dX3_readTusk_0 : decode cX3_readTusk 0 = .ok (.aload_n 0, 1) := by decide +kernel
theorem dX3_readTusk_1 : decode cX3_readTusk 1 = .ok (.aload_n 0, 1) := by decide +kernel
theorem dX3_readTusk_2 : decode cX3_readTusk 2 = .ok (.getfield 21, 3) := by decide +kernel
theorem dX3_readTusk_5 : decode cX3_readTusk 5 = .ok (.getfield 121, 3) := by decide +kernel
theorem dX3_readTusk_8 : decode cX3_readTusk 8 = .ok (.bipush 6, 2) := by decide +kernel
theorem dX3_readTusk_10 : decode cX3_readTusk 10 = .ok (.if_icmp .ge 7, 3) := by decide +kernel
theorem dX3_readTusk_13 : decode cX3_readTusk 13 = .ok (.iconst 1, 1) := by decide +kernel
theorem dX3_readTusk_14 : decode cX3_readTusk 14 = .ok (.goto 4, 3) := by decide +kernel
theorem dX3_readTusk_17 : decode cX3_readTusk 17 = .ok (.iconst 0, 1) := by decide +kernel
theorem dX3_readTusk_18 : decode cX3_readTusk 18 = .ok (.iconst 2, 1) := by decide +kernel
theorem dX3_readTusk_19 : decode cX3_readTusk 19 = .ok (.invokevirtual 102, 3) := by decide +kernel
theorem dX3_readTusk_22 : decode cX3_readTusk 22 = .ok (.aload_n 0, 1) := by decide +kernel
theorem dX3_readTusk_23 : decode cX3_readTusk 23 = .ok (.aload_n 0, 1) := by decide +kernel
theorem dX3_readTusk_24 : decode cX3_readTusk 24 = .ok (.getfield 21, 3) := by decide +kernel
theorem dX3_readTusk_27 : decode cX3_readTusk 27 = .ok (.getfield 124, 3) := by decide +kernel
theorem dX3_readTusk_30 : decode cX3_readTusk 30 = .ok (.aload_n 0, 1) := by decide +kernel
theorem dX3_readTusk_31 : decode cX3_readTusk 31 = .ok (.getfield 21, 3) := by decide +kernel
theorem dX3_readTusk_34 : decode cX3_readTusk 34 = .ok (.getfield 121, 3) := by decide +kernel
theorem dX3_readTusk_37 : decode cX3_readTusk 37 = .ok (.invokevirtual 109, 3) := by decide +kernel
theorem dX3_readTusk_40 : decode cX3_readTusk 40 = .ok (.istore_n 1, 1) := by decide +kernel
theorem dX3_readTusk_41 : decode cX3_readTusk 41 = .ok (.aload_n 0, 1) := by decide +kernel
theorem dX3_readTusk_42 : decode cX3_readTusk 42 = .ok (.iconst 0, 1) := by decide +kernel
theorem dX3_readTusk_43 : decode cX3_readTusk 43 = .ok (.bipush 99, 2) := by decide +kernel
theorem dX3_readTusk_45 : decode cX3_readTusk 45 = .ok (.invokevirtual 113, 3) := by decide +kernel
theorem dX3_readTusk_48 : decode cX3_readTusk 48 = .ok (.istore_n 2, 1) := by decide +kernel
theorem dX3_readTusk_49 : decode cX3_readTusk 49 = .ok (.aload_n 0, 1) := by decide +kernel
theorem dX3_readTusk_50 : decode cX3_readTusk 50 = .ok (.iconst 0, 1) := by decide +kernel
theorem dX3_readTusk_51 : decode cX3_readTusk 51 = .ok (.bipush 9, 2) := by decide +kernel
theorem dX3_readTusk_53 : decode cX3_readTusk 53 = .ok (.invokevirtual 113, 3) := by decide +kernel
theorem dX3_readTusk_56 : decode cX3_readTusk 56 = .ok (.istore_n 3, 1) := by decide +kernel
theorem dX3_readTusk_57 : decode cX3_readTusk 57 = .ok (.aload_n 0, 1) := by decide +kernel
theorem dX3_readTusk_58 : decode cX3_readTusk 58 = .ok (.getfield 39, 3) := by decide +kernel
theorem dX3_readTusk_61 : decode cX3_readTusk 61 = .ok (.ifCond .ne 13, 3) := by decide +kernel
theorem dX3_readTusk_64 : decode cX3_readTusk 64 = .ok (.aload_n 0, 1) := by decide +kernel
theorem dX3_readTusk_65 : decode cX3_readTusk 65 = .ok (.getfield 21, 3) := by decide +kernel
theorem dX3_readTusk_68 : decode cX3_readTusk 68 = .ok (.iload_n 1, 1) := by decide +kernel
theorem dX3_readTusk_69 : decode cX3_readTusk 69 = .ok (.iload_n 2, 1) := by decide +kernel
theorem dX3_readTusk_70 : decode cX3_readTusk 70 = .ok (.iload_n 3, 1) := by decide +kernel
theorem dX3_readTusk_71 : decode cX3_readTusk 71 = .ok (.invokevirtual 127, 3) := by decide +kernel
theorem dX3_readTusk_74 : decode cX3_readTusk 74 = .ok (.return_, 1) := by decide +kernel
theorem dX3_readDebt_0 : decode cX3_readDebt 0 = .ok (.aload_n 0, 1) := by decide +kernel
theorem dX3_readDebt_1 : decode cX3_readDebt 1 = .ok (.aload_n 0, 1) := by decide +kernel
theorem dX3_readDebt_2 : decode cX3_readDebt 2 = .ok (.getfield 21, 3) := by decide +kernel
theorem dX3_readDebt_5 : decode cX3_readDebt 5 = .ok (.getfield 131, 3) := by decide +kernel
theorem dX3_readDebt_8 : decode cX3_readDebt 8 = .ok (.getfield 135, 3) := by decide +kernel
theorem dX3_readDebt_11 : decode cX3_readDebt 11 = .ok (.bipush 8, 2) := by decide +kernel
theorem dX3_readDebt_13 : decode cX3_readDebt 13 = .ok (.if_icmp .ge 7, 3) := by decide +kernel
theorem dX3_readDebt_16 : decode cX3_readDebt 16 = .ok (.iconst 1, 1) := by decide +kernel
theorem dX3_readDebt_17 : decode cX3_readDebt 17 = .ok (.goto 4, 3) := by decide +kernel
theorem dX3_readDebt_20 : decode cX3_readDebt 20 = .ok (.iconst 0, 1) := by decide +kernel
theorem dX3_readDebt_21 : decode cX3_readDebt 21 = .ok (.iconst 2, 1) := by decide +kernel
theorem dX3_readDebt_22 : decode cX3_readDebt 22 = .ok (.invokevirtual 102, 3) := by decide +kernel
theorem dX3_readDebt_25 : decode cX3_readDebt 25 = .ok (.aload_n 0, 1) := by decide +kernel
theorem dX3_readDebt_26 : decode cX3_readDebt 26 = .ok (.iconst (-1), 1) := by decide +kernel
theorem dX3_readDebt_27 : decode cX3_readDebt 27 = .ok (.invokevirtual 140, 3) := by decide +kernel
theorem dX3_readDebt_30 : decode cX3_readDebt 30 = .ok (.istore_n 1, 1) := by decide +kernel
theorem dX3_readDebt_31 : decode cX3_readDebt 31 = .ok (.aload_n 0, 1) := by decide +kernel
theorem dX3_readDebt_32 : decode cX3_readDebt 32 = .ok (.iload_n 1, 1) := by decide +kernel
theorem dX3_readDebt_33 : decode cX3_readDebt 33 = .ok (.invokevirtual 140, 3) := by decide +kernel
theorem dX3_readDebt_36 : decode cX3_readDebt 36 = .ok (.istore_n 2, 1) := by decide +kernel
theorem dX3_readDebt_37 : decode cX3_readDebt 37 = .ok (.aload_n 0, 1) := by decide +kernel
theorem dX3_readDebt_38 : decode cX3_readDebt 38 = .ok (.iconst 1, 1) := by decide +kernel
theorem dX3_readDebt_39 : decode cX3_readDebt 39 = .ok (.bipush 99, 2) := by decide +kernel
theorem dX3_readDebt_41 : decode cX3_readDebt 41 = .ok (.invokevirtual 113, 3) := by decide +kernel
theorem dX3_readDebt_44 : decode cX3_readDebt 44 = .ok (.istore_n 3, 1) := by decide +kernel
theorem dX3_readDebt_45 : decode cX3_readDebt 45 = .ok (.aload_n 0, 1) := by decide +kernel
theorem dX3_readDebt_46 : decode cX3_readDebt 46 = .ok (.iconst (-1), 1) := by decide +kernel
theorem dX3_readDebt_47 : decode cX3_readDebt 47 = .ok (.invokevirtual 144, 3) := by decide +kernel
theorem dX3_readDebt_50 : decode cX3_readDebt 50 = .ok (.istore 4, 2) := by decide +kernel
theorem dX3_readDebt_52 : decode cX3_readDebt 52 = .ok (.aload_n 0, 1) := by decide +kernel
theorem dX3_readDebt_53 : decode cX3_readDebt 53 = .ok (.iconst 0, 1) := by decide +kernel
theorem dX3_readDebt_54 : decode cX3_readDebt 54 = .ok (.bipush 99, 2) := by decide +kernel
theorem dX3_readDebt_56 : decode cX3_readDebt 56 = .ok (.invokevirtual 113, 3) := by decide +kernel
theorem dX3_readDebt_59 : decode cX3_readDebt 59 = .ok (.istore 5, 2) := by decide +kernel
theorem dX3_readDebt_61 : decode cX3_readDebt 61 = .ok (.aload_n 0, 1) := by decide +kernel
theorem dX3_readDebt_62 : decode cX3_readDebt 62 = .ok (.getfield 39, 3) := by decide +kernel
theorem dX3_readDebt_65 : decode cX3_readDebt 65 = .ok (.ifCond .ne 20, 3) := by decide +kernel
theorem dX3_readDebt_68 : decode cX3_readDebt 68 = .ok (.aload_n 0, 1) := by decide +kernel
theorem dX3_readDebt_69 : decode cX3_readDebt 69 = .ok (.getfield 21, 3) := by decide +kernel
theorem dX3_readDebt_72 : decode cX3_readDebt 72 = .ok (.getfield 131, 3) := by decide +kernel
theorem dX3_readDebt_75 : decode cX3_readDebt 75 = .ok (.iload_n 1, 1) := by decide +kernel
theorem dX3_readDebt_76 : decode cX3_readDebt 76 = .ok (.iload_n 2, 1) := by decide +kernel
theorem dX3_readDebt_77 : decode cX3_readDebt 77 = .ok (.iload_n 3, 1) := by decide +kernel
theorem dX3_readDebt_78 : decode cX3_readDebt 78 = .ok (.iload 4, 2) := by decide +kernel
theorem dX3_readDebt_80 : decode cX3_readDebt 80 = .ok (.iload 5, 2) := by decide +kernel
theorem dX3_readDebt_82 : decode cX3_readDebt 82 = .ok (.invokevirtual 147, 3) := by decide +kernel
theorem dX3_readDebt_85 : decode cX3_readDebt 85 = .ok (.return_, 1) := by decide +kernel
theorem dX3_readLeaning_0 : decode cX3_readLeaning 0 = .ok (.aload_n 0, 1) := by decide +kernel
theorem dX3_readLeaning_1 : decode cX3_readLeaning 1 = .ok (.aload_n 0, 1) := by decide +kernel
theorem dX3_readLeaning_2 : decode cX3_readLeaning 2 = .ok (.getfield 21, 3) := by decide +kernel
theorem dX3_readLeaning_5 : decode cX3_readLeaning 5 = .ok (.getfield 151, 3) := by decide +kernel
theorem dX3_readLeaning_8 : decode cX3_readLeaning 8 = .ok (.bipush 10, 2) := by decide +kernel
theorem dX3_readLeaning_10 : decode cX3_readLeaning 10 = .ok (.if_icmp .ge 7, 3) := by decide +kernel
theorem dX3_readLeaning_13 : decode cX3_readLeaning 13 = .ok (.iconst 1, 1) := by decide +kernel
theorem dX3_readLeaning_14 : decode cX3_readLeaning 14 = .ok (.goto 4, 3) := by decide +kernel
theorem dX3_readLeaning_17 : decode cX3_readLeaning 17 = .ok (.iconst 0, 1) := by decide +kernel
theorem dX3_readLeaning_18 : decode cX3_readLeaning 18 = .ok (.iconst 2, 1) := by decide +kernel
theorem dX3_readLeaning_19 : decode cX3_readLeaning 19 = .ok (.invokevirtual 102, 3) := by decide +kernel
theorem dX3_readLeaning_22 : decode cX3_readLeaning 22 = .ok (.aload_n 0, 1) := by decide +kernel
theorem dX3_readLeaning_23 : decode cX3_readLeaning 23 = .ok (.iconst (-1), 1) := by decide +kernel
theorem dX3_readLeaning_24 : decode cX3_readLeaning 24 = .ok (.invokevirtual 144, 3) := by decide +kernel
theorem dX3_readLeaning_27 : decode cX3_readLeaning 27 = .ok (.istore_n 1, 1) := by decide +kernel
theorem dX3_readLeaning_28 : decode cX3_readLeaning 28 = .ok (.aload_n 0, 1) := by decide +kernel
theorem dX3_readLeaning_29 : decode cX3_readLeaning 29 = .ok (.iload_n 1, 1) := by decide +kernel
theorem dX3_readLeaning_30 : decode cX3_readLeaning 30 = .ok (.invokevirtual 144, 3) := by decide +kernel
theorem dX3_readLeaning_33 : decode cX3_readLeaning 33 = .ok (.istore_n 2, 1) := by decide +kernel
theorem dX3_readLeaning_34 : decode cX3_readLeaning 34 = .ok (.aload_n 0, 1) := by decide +kernel
theorem dX3_readLeaning_35 : decode cX3_readLeaning 35 = .ok (.iconst 0, 1) := by decide +kernel
theorem dX3_readLeaning_36 : decode cX3_readLeaning 36 = .ok (.bipush 99, 2) := by decide +kernel
theorem dX3_readLeaning_38 : decode cX3_readLeaning 38 = .ok (.invokevirtual 113, 3) := by decide +kernel
theorem dX3_readLeaning_41 : decode cX3_readLeaning 41 = .ok (.istore_n 3, 1) := by decide +kernel
theorem dX3_readLeaning_42 : decode cX3_readLeaning 42 = .ok (.aload_n 0, 1) := by decide +kernel
theorem dX3_readLeaning_43 : decode cX3_readLeaning 43 = .ok (.getfield 39, 3) := by decide +kernel
theorem dX3_readLeaning_46 : decode cX3_readLeaning 46 = .ok (.ifCond .ne 13, 3) := by decide +kernel
theorem dX3_readLeaning_49 : decode cX3_readLeaning 49 = .ok (.aload_n 0, 1) := by decide +kernel
theorem dX3_readLeaning_50 : decode cX3_readLeaning 50 = .ok (.getfield 21, 3) := by decide +kernel
theorem dX3_readLeaning_53 : decode cX3_readLeaning 53 = .ok (.iload_n 1, 1) := by decide +kernel
theorem dX3_readLeaning_54 : decode cX3_readLeaning 54 = .ok (.iload_n 2, 1) := by decide +kernel
theorem dX3_readLeaning_55 : decode cX3_readLeaning 55 = .ok (.iload_n 3, 1) := by decide +kernel
theorem dX3_readLeaning_56 : decode cX3_readLeaning 56 = .ok (.invokevirtual 154, 3) := by decide +kernel
theorem dX3_readLeaning_59 : decode cX3_readLeaning 59 = .ok (.return_, 1) := by decide +kernel
theorem dX3_readDeath_0 : decode cX3_readDeath 0 = .ok (.aload_n 0, 1) := by decide +kernel
theorem dX3_readDeath_1 : decode cX3_readDeath 1 = .ok (.invokevirtual 69, 3) := by decide +kernel
theorem dX3_readDeath_4 : decode cX3_readDeath 4 = .ok (.aload_n 0, 1) := by decide +kernel
theorem dX3_readDeath_5 : decode cX3_readDeath 5 = .ok (.aload_n 0, 1) := by decide +kernel
theorem dX3_readDeath_6 : decode cX3_readDeath 6 = .ok (.getfield 21, 3) := by decide +kernel
theorem dX3_readDeath_9 : decode cX3_readDeath 9 = .ok (.getfield 124, 3) := by decide +kernel
theorem dX3_readDeath_12 : decode cX3_readDeath 12 = .ok (.aload_n 0, 1) := by decide +kernel
theorem dX3_readDeath_13 : decode cX3_readDeath 13 = .ok (.getfield 21, 3) := by decide +kernel
theorem dX3_readDeath_16 : decode cX3_readDeath 16 = .ok (.getfield 121, 3) := by decide +kernel
theorem dX3_readDeath_19 : decode cX3_readDeath 19 = .ok (.invokevirtual 157, 3) := by decide +kernel
theorem dX3_readDeath_22 : decode cX3_readDeath 22 = .ok (.istore_n 1, 1) := by decide +kernel
theorem dX3_readDeath_23 : decode cX3_readDeath 23 = .ok (.iload_n 1, 1) := by decide +kernel
theorem dX3_readDeath_24 : decode cX3_readDeath 24 = .ok (.ifCond .lt 13, 3) := by decide +kernel
theorem dX3_readDeath_27 : decode cX3_readDeath 27 = .ok (.iload_n 1, 1) := by decide +kernel
theorem dX3_readDeath_28 : decode cX3_readDeath 28 = .ok (.bipush 6, 2) := by decide +kernel
theorem dX3_readDeath_30 : decode cX3_readDeath 30 = .ok (.if_icmp .ge 7, 3) := by decide +kernel
theorem dX3_readDeath_33 : decode cX3_readDeath 33 = .ok (.iconst 1, 1) := by decide +kernel
theorem dX3_readDeath_34 : decode cX3_readDeath 34 = .ok (.goto 4, 3) := by decide +kernel
theorem dX3_readDeath_37 : decode cX3_readDeath 37 = .ok (.iconst 0, 1) := by decide +kernel
theorem dX3_readDeath_38 : decode cX3_readDeath 38 = .ok (.istore_n 2, 1) := by decide +kernel
theorem dX3_readDeath_39 : decode cX3_readDeath 39 = .ok (.iload_n 2, 1) := by decide +kernel
theorem dX3_readDeath_40 : decode cX3_readDeath 40 = .ok (.ifCond .eq 21, 3) := by decide +kernel
theorem dX3_readDeath_43 : decode cX3_readDeath 43 = .ok (.aload_n 0, 1) := by decide +kernel
theorem dX3_readDeath_44 : decode cX3_readDeath 44 = .ok (.getfield 21, 3) := by decide +kernel
theorem dX3_readDeath_47 : decode cX3_readDeath 47 = .ok (.getfield 160, 3) := by decide +kernel
theorem dX3_readDeath_50 : decode cX3_readDeath 50 = .ok (.iload_n 1, 1) := by decide +kernel
theorem dX3_readDeath_51 : decode cX3_readDeath 51 = .ok (.iaload, 1) := by decide +kernel
theorem dX3_readDeath_52 : decode cX3_readDeath 52 = .ok (.iconst (-1), 1) := by decide +kernel
theorem dX3_readDeath_53 : decode cX3_readDeath 53 = .ok (.if_icmp .eq 8, 3) := by decide +kernel
theorem dX3_readDeath_56 : decode cX3_readDeath 56 = .ok (.aload_n 0, 1) := by decide +kernel
theorem dX3_readDeath_57 : decode cX3_readDeath 57 = .ok (.iconst 3, 1) := by decide +kernel
theorem dX3_readDeath_58 : decode cX3_readDeath 58 = .ok (.invokevirtual 72, 3) := by decide +kernel
theorem dX3_readDeath_61 : decode cX3_readDeath 61 = .ok (.aload_n 0, 1) := by decide +kernel
theorem dX3_readDeath_62 : decode cX3_readDeath 62 = .ok (.invokevirtual 69, 3) := by decide +kernel
theorem dX3_readDeath_65 : decode cX3_readDeath 65 = .ok (.aload_n 0, 1) := by decide +kernel
theorem dX3_readDeath_66 : decode cX3_readDeath 66 = .ok (.iconst 0, 1) := by decide +kernel
theorem dX3_readDeath_67 : decode cX3_readDeath 67 = .ok (.bipush 99, 2) := by decide +kernel
theorem dX3_readDeath_69 : decode cX3_readDeath 69 = .ok (.invokevirtual 113, 3) := by decide +kernel
theorem dX3_readDeath_72 : decode cX3_readDeath 72 = .ok (.istore_n 3, 1) := by decide +kernel
theorem dX3_readDeath_73 : decode cX3_readDeath 73 = .ok (.aload_n 0, 1) := by decide +kernel
theorem dX3_readDeath_74 : decode cX3_readDeath 74 = .ok (.getfield 39, 3) := by decide +kernel
theorem dX3_readDeath_77 : decode cX3_readDeath 77 = .ok (.ifCond .ne 17, 3) := by decide +kernel
theorem dX3_readDeath_80 : decode cX3_readDeath 80 = .ok (.iload_n 2, 1) := by decide +kernel
theorem dX3_readDeath_81 : decode cX3_readDeath 81 = .ok (.ifCond .eq 13, 3) := by decide +kernel
theorem dX3_readDeath_84 : decode cX3_readDeath 84 = .ok (.aload_n 0, 1) := by decide +kernel
theorem dX3_readDeath_85 : decode cX3_readDeath 85 = .ok (.getfield 21, 3) := by decide +kernel
theorem dX3_readDeath_88 : decode cX3_readDeath 88 = .ok (.getfield 160, 3) := by decide +kernel
theorem dX3_readDeath_91 : decode cX3_readDeath 91 = .ok (.iload_n 1, 1) := by decide +kernel
theorem dX3_readDeath_92 : decode cX3_readDeath 92 = .ok (.iload_n 3, 1) := by decide +kernel
theorem dX3_readDeath_93 : decode cX3_readDeath 93 = .ok (.iastore, 1) := by decide +kernel
theorem dX3_readDeath_94 : decode cX3_readDeath 94 = .ok (.return_, 1) := by decide +kernel
theorem dX3_readRate_0 : decode cX3_readRate 0 = .ok (.aload_n 0, 1) := by decide +kernel
theorem dX3_readRate_1 : decode cX3_readRate 1 = .ok (.aload_n 0, 1) := by decide +kernel
theorem dX3_readRate_2 : decode cX3_readRate 2 = .ok (.getfield 21, 3) := by decide +kernel
theorem dX3_readRate_5 : decode cX3_readRate 5 = .ok (.getfield 163, 3) := by decide +kernel
theorem dX3_readRate_8 : decode cX3_readRate 8 = .ok (.ifCond .ne 7, 3) := by decide +kernel
theorem dX3_readRate_11 : decode cX3_readRate 11 = .ok (.iconst 1, 1) := by decide +kernel
theorem dX3_readRate_12 : decode cX3_readRate 12 = .ok (.goto 4, 3) := by decide +kernel
theorem dX3_readRate_15 : decode cX3_readRate 15 = .ok (.iconst 0, 1) := by decide +kernel
theorem dX3_readRate_16 : decode cX3_readRate 16 = .ok (.iconst 3, 1) := by decide +kernel
theorem dX3_readRate_17 : decode cX3_readRate 17 = .ok (.invokevirtual 102, 3) := by decide +kernel
theorem dX3_readRate_20 : decode cX3_readRate 20 = .ok (.aload_n 0, 1) := by decide +kernel
theorem dX3_readRate_21 : decode cX3_readRate 21 = .ok (.getfield 21, 3) := by decide +kernel
theorem dX3_readRate_24 : decode cX3_readRate 24 = .ok (.aload_n 0, 1) := by decide +kernel
theorem dX3_readRate_25 : decode cX3_readRate 25 = .ok (.iconst 0, 1) := by decide +kernel
theorem dX3_readRate_26 : decode cX3_readRate 26 = .ok (.bipush 100, 2) := by decide +kernel
theorem dX3_readRate_28 : decode cX3_readRate 28 = .ok (.invokevirtual 113, 3) := by decide +kernel
theorem dX3_readRate_31 : decode cX3_readRate 31 = .ok (.putfield 167, 3) := by decide +kernel
theorem dX3_readRate_34 : decode cX3_readRate 34 = .ok (.aload_n 0, 1) := by decide +kernel
theorem dX3_readRate_35 : decode cX3_readRate 35 = .ok (.getfield 21, 3) := by decide +kernel
theorem dX3_readRate_38 : decode cX3_readRate 38 = .ok (.iconst 1, 1) := by decide +kernel
theorem dX3_readRate_39 : decode cX3_readRate 39 = .ok (.putfield 163, 3) := by decide +kernel
theorem dX3_readRate_42 : decode cX3_readRate 42 = .ok (.return_, 1) := by decide +kernel
theorem dX3_readSeed_0 : decode cX3_readSeed 0 = .ok (.aload_n 0, 1) := by decide +kernel
theorem dX3_readSeed_1 : decode cX3_readSeed 1 = .ok (.aload_n 0, 1) := by decide +kernel
theorem dX3_readSeed_2 : decode cX3_readSeed 2 = .ok (.getfield 21, 3) := by decide +kernel
theorem dX3_readSeed_5 : decode cX3_readSeed 5 = .ok (.getfield 170, 3) := by decide +kernel
theorem dX3_readSeed_8 : decode cX3_readSeed 8 = .ok (.ifCond .ne 7, 3) := by decide +kernel
theorem dX3_readSeed_11 : decode cX3_readSeed 11 = .ok (.iconst 1, 1) := by decide +kernel
theorem dX3_readSeed_12 : decode cX3_readSeed 12 = .ok (.goto 4, 3) := by decide +kernel
theorem dX3_readSeed_15 : decode cX3_readSeed 15 = .ok (.iconst 0, 1) := by decide +kernel
theorem dX3_readSeed_16 : decode cX3_readSeed 16 = .ok (.iconst 3, 1) := by decide +kernel
theorem dX3_readSeed_17 : decode cX3_readSeed 17 = .ok (.invokevirtual 102, 3) := by decide +kernel
theorem dX3_readSeed_20 : decode cX3_readSeed 20 = .ok (.aload_n 0, 1) := by decide +kernel
theorem dX3_readSeed_21 : decode cX3_readSeed 21 = .ok (.getfield 21, 3) := by decide +kernel
theorem dX3_readSeed_24 : decode cX3_readSeed 24 = .ok (.getfield 131, 3) := by decide +kernel
theorem dX3_readSeed_27 : decode cX3_readSeed 27 = .ok (.aload_n 0, 1) := by decide +kernel
theorem dX3_readSeed_28 : decode cX3_readSeed 28 = .ok (.iconst 0, 1) := by decide +kernel
theorem dX3_readSeed_29 : decode cX3_readSeed 29 = .ok (.ldc 173, 2) := by decide +kernel
theorem dX3_readSeed_31 : decode cX3_readSeed 31 = .ok (.invokevirtual 113, 3) := by decide +kernel
theorem dX3_readSeed_34 : decode cX3_readSeed 34 = .ok (.putfield 174, 3) := by decide +kernel
theorem dX3_readSeed_37 : decode cX3_readSeed 37 = .ok (.aload_n 0, 1) := by decide +kernel
theorem dX3_readSeed_38 : decode cX3_readSeed 38 = .ok (.getfield 21, 3) := by decide +kernel
theorem dX3_readSeed_41 : decode cX3_readSeed 41 = .ok (.iconst 1, 1) := by decide +kernel
theorem dX3_readSeed_42 : decode cX3_readSeed 42 = .ok (.putfield 170, 3) := by decide +kernel
theorem dX3_readSeed_45 : decode cX3_readSeed 45 = .ok (.return_, 1) := by decide +kernel
theorem dX3_readLaw_0 : decode cX3_readLaw 0 = .ok (.aload_n 0, 1) := by decide +kernel
theorem dX3_readLaw_1 : decode cX3_readLaw 1 = .ok (.invokevirtual 69, 3) := by decide +kernel
theorem dX3_readLaw_4 : decode cX3_readLaw 4 = .ok (.aload_n 0, 1) := by decide +kernel
theorem dX3_readLaw_5 : decode cX3_readLaw 5 = .ok (.getfield 21, 3) := by decide +kernel
theorem dX3_readLaw_8 : decode cX3_readLaw 8 = .ok (.getfield 177, 3) := by decide +kernel
theorem dX3_readLaw_11 : decode cX3_readLaw 11 = .ok (.astore_n 1, 1) := by decide +kernel
theorem dX3_readLaw_12 : decode cX3_readLaw 12 = .ok (.aload_n 0, 1) := by decide +kernel
theorem dX3_readLaw_13 : decode cX3_readLaw 13 = .ok (.invokevirtual 42, 3) := by decide +kernel
theorem dX3_readLaw_16 : decode cX3_readLaw 16 = .ok (.bipush 9, 2) := by decide +kernel
theorem dX3_readLaw_18 : decode cX3_readLaw 18 = .ok (.if_icmp .ne 14, 3) := by decide +kernel
theorem dX3_readLaw_21 : decode cX3_readLaw 21 = .ok (.aload_n 0, 1) := by decide +kernel
theorem dX3_readLaw_22 : decode cX3_readLaw 22 = .ok (.getfield 21, 3) := by decide +kernel
theorem dX3_readLaw_25 : decode cX3_readLaw 25 = .ok (.getfield 181, 3) := by decide +kernel
theorem dX3_readLaw_28 : decode cX3_readLaw 28 = .ok (.astore_n 1, 1) := by decide +kernel
theorem dX3_readLaw_29 : decode cX3_readLaw 29 = .ok (.goto 37, 3) := by decide +kernel
theorem dX3_readLaw_32 : decode cX3_readLaw 32 = .ok (.aload_n 0, 1) := by decide +kernel
theorem dX3_readLaw_33 : decode cX3_readLaw 33 = .ok (.invokevirtual 42, 3) := by decide +kernel
theorem dX3_readLaw_36 : decode cX3_readLaw 36 = .ok (.bipush 10, 2) := by decide +kernel
theorem dX3_readLaw_38 : decode cX3_readLaw 38 = .ok (.if_icmp .ne 14, 3) := by decide +kernel
theorem dX3_readLaw_41 : decode cX3_readLaw 41 = .ok (.aload_n 0, 1) := by decide +kernel
theorem dX3_readLaw_42 : decode cX3_readLaw 42 = .ok (.getfield 21, 3) := by decide +kernel
theorem dX3_readLaw_45 : decode cX3_readLaw 45 = .ok (.getfield 184, 3) := by decide +kernel
theorem dX3_readLaw_48 : decode cX3_readLaw 48 = .ok (.astore_n 1, 1) := by decide +kernel
theorem dX3_readLaw_49 : decode cX3_readLaw 49 = .ok (.goto 17, 3) := by decide +kernel
theorem dX3_readLaw_52 : decode cX3_readLaw 52 = .ok (.aload_n 0, 1) := by decide +kernel
theorem dX3_readLaw_53 : decode cX3_readLaw 53 = .ok (.invokevirtual 42, 3) := by decide +kernel
theorem dX3_readLaw_56 : decode cX3_readLaw 56 = .ok (.bipush 8, 2) := by decide +kernel
theorem dX3_readLaw_58 : decode cX3_readLaw 58 = .ok (.if_icmp .eq 8, 3) := by decide +kernel
theorem dX3_readLaw_61 : decode cX3_readLaw 61 = .ok (.aload_n 0, 1) := by decide +kernel
theorem dX3_readLaw_62 : decode cX3_readLaw 62 = .ok (.iconst 1, 1) := by decide +kernel
theorem dX3_readLaw_63 : decode cX3_readLaw 63 = .ok (.invokevirtual 72, 3) := by decide +kernel
theorem dX3_readLaw_66 : decode cX3_readLaw 66 = .ok (.aload_n 1, 1) := by decide +kernel
theorem dX3_readLaw_67 : decode cX3_readLaw 67 = .ok (.getfield 187, 3) := by decide +kernel
theorem dX3_readLaw_70 : decode cX3_readLaw 70 = .ok (.ifCond .le 8, 3) := by decide +kernel
theorem dX3_readLaw_73 : decode cX3_readLaw 73 = .ok (.aload_n 0, 1) := by decide +kernel
theorem dX3_readLaw_74 : decode cX3_readLaw 74 = .ok (.iconst 3, 1) := by decide +kernel
theorem dX3_readLaw_75 : decode cX3_readLaw 75 = .ok (.invokevirtual 72, 3) := by decide +kernel
theorem dX3_readLaw_78 : decode cX3_readLaw 78 = .ok (.aload_n 0, 1) := by decide +kernel
theorem dX3_readLaw_79 : decode cX3_readLaw 79 = .ok (.invokevirtual 69, 3) := by decide +kernel
theorem dX3_readLaw_82 : decode cX3_readLaw 82 = .ok (.aload_n 0, 1) := by decide +kernel
theorem dX3_readLaw_83 : decode cX3_readLaw 83 = .ok (.iconst 0, 1) := by decide +kernel
theorem dX3_readLaw_84 : decode cX3_readLaw 84 = .ok (.iconst 0, 1) := by decide +kernel
theorem dX3_readLaw_85 : decode cX3_readLaw 85 = .ok (.aload_n 1, 1) := by decide +kernel
theorem dX3_readLaw_86 : decode cX3_readLaw 86 = .ok (.invokevirtual 192, 3) := by decide +kernel
theorem dX3_readLaw_89 : decode cX3_readLaw 89 = .ok (.return_, 1) := by decide +kernel
theorem dX3_takeNewName_0 : decode cX3_takeNewName 0 = .ok (.aload_n 0, 1) := by decide +kernel
theorem dX3_takeNewName_1 : decode cX3_takeNewName 1 = .ok (.getfield 39, 3) := by decide +kernel
theorem dX3_takeNewName_4 : decode cX3_takeNewName 4 = .ok (.ifCond .eq 5, 3) := by decide +kernel
theorem dX3_takeNewName_7 : decode cX3_takeNewName 7 = .ok (.iconst (-1), 1) := by decide +kernel
theorem dX3_takeNewName_8 : decode cX3_takeNewName 8 = .ok (.ireturn, 1) := by decide +kernel
theorem dX3_takeNewName_9 : decode cX3_takeNewName 9 = .ok (.aload_n 0, 1) := by decide +kernel
theorem dX3_takeNewName_10 : decode cX3_takeNewName 10 = .ok (.invokevirtual 42, 3) := by decide +kernel
theorem dX3_takeNewName_13 : decode cX3_takeNewName 13 = .ok (.bipush 35, 2) := by decide +kernel
theorem dX3_takeNewName_15 : decode cX3_takeNewName 15 = .ok (.if_icmp .eq 11, 3) := by decide +kernel
theorem dX3_takeNewName_18 : decode cX3_takeNewName 18 = .ok (.aload_n 0, 1) := by decide +kernel
theorem dX3_takeNewName_19 : decode cX3_takeNewName 19 = .ok (.iconst 1, 1) := by decide +kernel
theorem dX3_takeNewName_20 : decode cX3_takeNewName 20 = .ok (.invokevirtual 72, 3) := by decide +kernel
theorem dX3_takeNewName_23 : decode cX3_takeNewName 23 = .ok (.goto 21, 3) := by decide +kernel
theorem dX3_takeNewName_26 : decode cX3_takeNewName 26 = .ok (.aload_n 0, 1) := by decide +kernel
theorem dX3_takeNewName_27 : decode cX3_takeNewName 27 = .ok (.invokevirtual 196, 3) := by decide +kernel
theorem dX3_takeNewName_30 : decode cX3_takeNewName 30 = .ok (.aload_n 1, 1) := by decide +kernel
theorem dX3_takeNewName_31 : decode cX3_takeNewName 31 = .ok (.iload_n 2, 1) := by decide +kernel
theorem dX3_takeNewName_32 : decode cX3_takeNewName 32 = .ok (.invokestatic 199, 3) := by decide +kernel
theorem dX3_takeNewName_35 : decode cX3_takeNewName 35 = .ok (.iconst (-1), 1) := by decide +kernel
theorem dX3_takeNewName_36 : decode cX3_takeNewName 36 = .ok (.if_icmp .eq 8, 3) := by decide +kernel
theorem dX3_takeNewName_39 : decode cX3_takeNewName 39 = .ok (.aload_n 0, 1) := by decide +kernel
theorem dX3_takeNewName_40 : decode cX3_takeNewName 40 = .ok (.iconst 3, 1) := by decide +kernel
theorem dX3_takeNewName_41 : decode cX3_takeNewName 41 = .ok (.invokevirtual 72, 3) := by decide +kernel
theorem dX3_takeNewName_44 : decode cX3_takeNewName 44 = .ok (.aload_n 0, 1) := by decide +kernel
theorem dX3_takeNewName_45 : decode cX3_takeNewName 45 = .ok (.invokevirtual 196, 3) := by decide +kernel
theorem dX3_takeNewName_48 : decode cX3_takeNewName 48 = .ok (.istore_n 3, 1) := by decide +kernel
theorem dX3_takeNewName_49 : decode cX3_takeNewName 49 = .ok (.aload_n 0, 1) := by decide +kernel
theorem dX3_takeNewName_50 : decode cX3_takeNewName 50 = .ok (.invokevirtual 69, 3) := by decide +kernel
theorem dX3_takeNewName_53 : decode cX3_takeNewName 53 = .ok (.iload_n 3, 1) := by decide +kernel
theorem dX3_takeNewName_54 : decode cX3_takeNewName 54 = .ok (.ireturn, 1) := by decide +kernel
theorem dX3_takeMan_0 : decode cX3_takeMan 0 = .ok (.aload_n 0, 1) := by decide +kernel
theorem dX3_takeMan_1 : decode cX3_takeMan 1 = .ok (.aload_n 0, 1) := by decide +kernel
theorem dX3_takeMan_2 : decode cX3_takeMan 2 = .ok (.getfield 21, 3) := by decide +kernel
theorem dX3_takeMan_5 : decode cX3_takeMan 5 = .ok (.getfield 106, 3) := by decide +kernel
theorem dX3_takeMan_8 : decode cX3_takeMan 8 = .ok (.aload_n 0, 1) := by decide +kernel
theorem dX3_takeMan_9 : decode cX3_takeMan 9 = .ok (.getfield 21, 3) := by decide +kernel
theorem dX3_takeMan_12 : decode cX3_takeMan 12 = .ok (.getfield 99, 3) := by decide +kernel
theorem dX3_takeMan_15 : decode cX3_takeMan 15 = .ok (.iload_n 1, 1) := by decide +kernel
theorem dX3_takeMan_16 : decode cX3_takeMan 16 = .ok (.invokevirtual 203, 3) := by decide +kernel
theorem dX3_takeMan_19 : decode cX3_takeMan 19 = .ok (.ireturn, 1) := by decide +kernel
theorem dX3_takeTusk_0 : decode cX3_takeTusk 0 = .ok (.aload_n 0, 1) := by decide +kernel
theorem dX3_takeTusk_1 : decode cX3_takeTusk 1 = .ok (.aload_n 0, 1) := by decide +kernel
theorem dX3_takeTusk_2 : decode cX3_takeTusk 2 = .ok (.getfield 21, 3) := by decide +kernel
theorem dX3_takeTusk_5 : decode cX3_takeTusk 5 = .ok (.getfield 124, 3) := by decide +kernel
theorem dX3_takeTusk_8 : decode cX3_takeTusk 8 = .ok (.aload_n 0, 1) := by decide +kernel
theorem dX3_takeTusk_9 : decode cX3_takeTusk 9 = .ok (.getfield 21, 3) := by decide +kernel
theorem dX3_takeTusk_12 : decode cX3_takeTusk 12 = .ok (.getfield 121, 3) := by decide +kernel
theorem dX3_takeTusk_15 : decode cX3_takeTusk 15 = .ok (.iload_n 1, 1) := by decide +kernel
theorem dX3_takeTusk_16 : decode cX3_takeTusk 16 = .ok (.invokevirtual 203, 3) := by decide +kernel
theorem dX3_takeTusk_19 : decode cX3_takeTusk 19 = .ok (.ireturn, 1) := by decide +kernel
theorem dX3_takeToldName_0 : decode cX3_takeToldName 0 = .ok (.aload_n 0, 1) := by decide +kernel
theorem dX3_takeToldName_1 : decode cX3_takeToldName 1 = .ok (.aload_n 1, 1) := by decide +kernel
theorem dX3_takeToldName_2 : decode cX3_takeToldName 2 = .ok (.iload_n 2, 1) := by decide +kernel
theorem dX3_takeToldName_3 : decode cX3_takeToldName 3 = .ok (.invokevirtual 157, 3) := by decide +kernel
theorem dX3_takeToldName_6 : decode cX3_takeToldName 6 = .ok (.istore 4, 2) := by decide +kernel
theorem dX3_takeToldName_8 : decode cX3_takeToldName 8 = .ok (.iload 4, 2) := by decide +kernel
theorem dX3_takeToldName_10 : decode cX3_takeToldName 10 = .ok (.iconst (-1), 1) := by decide +kernel
theorem dX3_takeToldName_11 : decode cX3_takeToldName 11 = .ok (.if_icmp .eq 14, 3) := by decide +kernel
theorem dX3_takeToldName_14 : decode cX3_takeToldName 14 = .ok (.iload 4, 2) := by decide +kernel
theorem dX3_takeToldName_16 : decode cX3_takeToldName 16 = .ok (.iload_n 3, 1) := by decide +kernel
theorem dX3_takeToldName_17 : decode cX3_takeToldName 17 = .ok (.if_icmp .ne 8, 3) := by decide +kernel
theorem dX3_takeToldName_20 : decode cX3_takeToldName 20 = .ok (.aload_n 0, 1) := by decide +kernel
theorem dX3_takeToldName_21 : decode cX3_takeToldName 21 = .ok (.iconst 5, 1) := by decide +kernel
theorem dX3_takeToldName_22 : decode cX3_takeToldName 22 = .ok (.invokevirtual 72, 3) := by decide +kernel
theorem dX3_takeToldName_25 : decode cX3_takeToldName 25 = .ok (.aload_n 0, 1) := by decide +kernel
theorem dX3_takeToldName_26 : decode cX3_takeToldName 26 = .ok (.invokevirtual 69, 3) := by decide +kernel
theorem dX3_takeToldName_29 : decode cX3_takeToldName 29 = .ok (.iload 4, 2) := by decide +kernel
theorem dX3_takeToldName_31 : decode cX3_takeToldName 31 = .ok (.ireturn, 1) := by decide +kernel
theorem dX3_toldIndex_0 : decode cX3_toldIndex 0 = .ok (.aload_n 0, 1) := by decide +kernel
theorem dX3_toldIndex_1 : decode cX3_toldIndex 1 = .ok (.getfield 39, 3) := by decide +kernel
theorem dX3_toldIndex_4 : decode cX3_toldIndex 4 = .ok (.ifCond .eq 5, 3) := by decide +kernel
theorem dX3_toldIndex_7 : decode cX3_toldIndex 7 = .ok (.iconst (-1), 1) := by decide +kernel
theorem dX3_toldIndex_8 : decode cX3_toldIndex 8 = .ok (.ireturn, 1) := by decide +kernel
theorem dX3_toldIndex_9 : decode cX3_toldIndex 9 = .ok (.aload_n 0, 1) := by decide +kernel
theorem dX3_toldIndex_10 : decode cX3_toldIndex 10 = .ok (.invokevirtual 42, 3) := by decide +kernel
theorem dX3_toldIndex_13 : decode cX3_toldIndex 13 = .ok (.bipush 35, 2) := by decide +kernel
theorem dX3_toldIndex_15 : decode cX3_toldIndex 15 = .ok (.if_icmp .eq 10, 3) := by decide +kernel
theorem dX3_toldIndex_18 : decode cX3_toldIndex 18 = .ok (.aload_n 0, 1) := by decide +kernel
theorem dX3_toldIndex_19 : decode cX3_toldIndex 19 = .ok (.iconst 1, 1) := by decide +kernel
theorem dX3_toldIndex_20 : decode cX3_toldIndex 20 = .ok (.invokevirtual 72, 3) := by decide +kernel
theorem dX3_toldIndex_23 : decode cX3_toldIndex 23 = .ok (.iconst (-1), 1) := by decide +kernel
theorem dX3_toldIndex_24 : decode cX3_toldIndex 24 = .ok (.ireturn, 1) := by decide +kernel
theorem dX3_toldIndex_25 : decode cX3_toldIndex 25 = .ok (.aload_n 0, 1) := by decide +kernel
theorem dX3_toldIndex_26 : decode cX3_toldIndex 26 = .ok (.invokevirtual 196, 3) := by decide +kernel
theorem dX3_toldIndex_29 : decode cX3_toldIndex 29 = .ok (.aload_n 1, 1) := by decide +kernel
theorem dX3_toldIndex_30 : decode cX3_toldIndex 30 = .ok (.iload_n 2, 1) := by decide +kernel
theorem dX3_toldIndex_31 : decode cX3_toldIndex 31 = .ok (.invokestatic 199, 3) := by decide +kernel
theorem dX3_toldIndex_34 : decode cX3_toldIndex 34 = .ok (.istore_n 3, 1) := by decide +kernel
theorem dX3_toldIndex_35 : decode cX3_toldIndex 35 = .ok (.iload_n 3, 1) := by decide +kernel
theorem dX3_toldIndex_36 : decode cX3_toldIndex 36 = .ok (.iconst (-1), 1) := by decide +kernel
theorem dX3_toldIndex_37 : decode cX3_toldIndex 37 = .ok (.if_icmp .ne 8, 3) := by decide +kernel
theorem dX3_toldIndex_40 : decode cX3_toldIndex 40 = .ok (.aload_n 0, 1) := by decide +kernel
theorem dX3_toldIndex_41 : decode cX3_toldIndex 41 = .ok (.iconst 4, 1) := by decide +kernel
theorem dX3_toldIndex_42 : decode cX3_toldIndex 42 = .ok (.invokevirtual 72, 3) := by decide +kernel
theorem dX3_toldIndex_45 : decode cX3_toldIndex 45 = .ok (.iload_n 3, 1) := by decide +kernel
theorem dX3_toldIndex_46 : decode cX3_toldIndex 46 = .ok (.ireturn, 1) := by decide +kernel
theorem dX3_takeNumber_0 : decode cX3_takeNumber 0 = .ok (.aload_n 0, 1) := by decide +kernel
theorem dX3_takeNumber_1 : decode cX3_takeNumber 1 = .ok (.getfield 39, 3) := by decide +kernel
theorem dX3_takeNumber_4 : decode cX3_takeNumber 4 = .ok (.ifCond .eq 5, 3) := by decide +kernel
theorem dX3_takeNumber_7 : decode cX3_takeNumber 7 = .ok (.iconst 0, 1) := by decide +kernel
theorem dX3_takeNumber_8 : decode cX3_takeNumber 8 = .ok (.ireturn, 1) := by decide +kernel
theorem dX3_takeNumber_9 : decode cX3_takeNumber 9 = .ok (.aload_n 0, 1) := by decide +kernel
theorem dX3_takeNumber_10 : decode cX3_takeNumber 10 = .ok (.invokevirtual 196, 3) := by decide +kernel
theorem dX3_takeNumber_13 : decode cX3_takeNumber 13 = .ok (.istore_n 3, 1) := by decide +kernel
theorem dX3_takeNumber_14 : decode cX3_takeNumber 14 = .ok (.aload_n 0, 1) := by decide +kernel
theorem dX3_takeNumber_15 : decode cX3_takeNumber 15 = .ok (.invokevirtual 42, 3) := by decide +kernel
theorem dX3_takeNumber_18 : decode cX3_takeNumber 18 = .ok (.bipush 34, 2) := by decide +kernel
theorem dX3_takeNumber_20 : decode cX3_takeNumber 20 = .ok (.if_icmp .eq 11, 3) := by decide +kernel
theorem dX3_takeNumber_23 : decode cX3_takeNumber 23 = .ok (.aload_n 0, 1) := by decide +kernel
theorem dX3_takeNumber_24 : decode cX3_takeNumber 24 = .ok (.iconst 1, 1) := by decide +kernel
theorem dX3_takeNumber_25 : decode cX3_takeNumber 25 = .ok (.invokevirtual 72, 3) := by decide +kernel
theorem dX3_takeNumber_28 : decode cX3_takeNumber 28 = .ok (.goto 18, 3) := by decide +kernel
theorem dX3_takeNumber_31 : decode cX3_takeNumber 31 = .ok (.iload_n 3, 1) := by decide +kernel
theorem dX3_takeNumber_32 : decode cX3_takeNumber 32 = .ok (.iload_n 1, 1) := by decide +kernel
theorem dX3_takeNumber_33 : decode cX3_takeNumber 33 = .ok (.if_icmp .lt 8, 3) := by decide +kernel
theorem dX3_takeNumber_36 : decode cX3_takeNumber 36 = .ok (.iload_n 3, 1) := by decide +kernel
theorem dX3_takeNumber_37 : decode cX3_takeNumber 37 = .ok (.iload_n 2, 1) := by decide +kernel
theorem dX3_takeNumber_38 : decode cX3_takeNumber 38 = .ok (.if_icmp .le 8, 3) := by decide +kernel
theorem dX3_takeNumber_41 : decode cX3_takeNumber 41 = .ok (.aload_n 0, 1) := by decide +kernel
theorem dX3_takeNumber_42 : decode cX3_takeNumber 42 = .ok (.iconst 2, 1) := by decide +kernel
theorem dX3_takeNumber_43 : decode cX3_takeNumber 43 = .ok (.invokevirtual 72, 3) := by decide +kernel
theorem dX3_takeNumber_46 : decode cX3_takeNumber 46 = .ok (.aload_n 0, 1) := by decide +kernel
theorem dX3_takeNumber_47 : decode cX3_takeNumber 47 = .ok (.invokevirtual 69, 3) := by decide +kernel
theorem dX3_takeNumber_50 : decode cX3_takeNumber 50 = .ok (.iload_n 3, 1) := by decide +kernel
theorem dX3_takeNumber_51 : decode cX3_takeNumber 51 = .ok (.ireturn, 1) := by decide +kernel
theorem dX3_takeKnot_0 : decode cX3_takeKnot 0 = .ok (.aload_n 0, 1) := by decide +kernel
theorem dX3_takeKnot_1 : decode cX3_takeKnot 1 = .ok (.getfield 21, 3) := by decide +kernel
theorem dX3_takeKnot_4 : decode cX3_takeKnot 4 = .ok (.getfield 207, 3) := by decide +kernel
theorem dX3_takeKnot_7 : decode cX3_takeKnot 7 = .ok (.bipush 64, 2) := by decide +kernel
theorem dX3_takeKnot_9 : decode cX3_takeKnot 9 = .ok (.if_icmp .lt 8, 3) := by decide +kernel
theorem dX3_takeKnot_12 : decode cX3_takeKnot 12 = .ok (.aload_n 0, 1) := by decide +kernel
theorem dX3_takeKnot_13 : decode cX3_takeKnot 13 = .ok (.iconst 2, 1) := by decide +kernel
theorem dX3_takeKnot_14 : decode cX3_takeKnot 14 = .ok (.invokevirtual 72, 3) := by decide +kernel
theorem dX3_takeKnot_17 : decode cX3_takeKnot 17 = .ok (.aload_n 0, 1) := by decide +kernel
theorem dX3_takeKnot_18 : decode cX3_takeKnot 18 = .ok (.getfield 21, 3) := by decide +kernel
theorem dX3_takeKnot_21 : decode cX3_takeKnot 21 = .ok (.dup, 1) := by decide +kernel
theorem dX3_takeKnot_22 : decode cX3_takeKnot 22 = .ok (.getfield 207, 3) := by decide +kernel
theorem dX3_takeKnot_25 : decode cX3_takeKnot 25 = .ok (.iconst 1, 1) := by decide +kernel
theorem dX3_takeKnot_26 : decode cX3_takeKnot 26 = .ok (.iadd, 1) := by decide +kernel
theorem dX3_takeKnot_27 : decode cX3_takeKnot 27 = .ok (.putfield 207, 3) := by decide +kernel
theorem dX3_takeKnot_30 : decode cX3_takeKnot 30 = .ok (.aload_n 0, 1) := by decide +kernel
theorem dX3_takeKnot_31 : decode cX3_takeKnot 31 = .ok (.invokevirtual 69, 3) := by decide +kernel
theorem dX3_takeKnot_34 : decode cX3_takeKnot 34 = .ok (.return_, 1) := by decide +kernel
theorem dX3_readLevel_0 : decode cX3_readLevel 0 = .ok (.iload_n 1, 1) := by decide +kernel
theorem dX3_readLevel_1 : decode cX3_readLevel 1 = .ok (.bipush 6, 2) := by decide +kernel
theorem dX3_readLevel_3 : decode cX3_readLevel 3 = .ok (.if_icmp .lt 10, 3) := by decide +kernel
theorem dX3_readLevel_6 : decode cX3_readLevel 6 = .ok (.aload_n 0, 1) := by decide +kernel
theorem dX3_readLevel_7 : decode cX3_readLevel 7 = .ok (.iload_n 2, 1) := by decide +kernel
theorem dX3_readLevel_8 : decode cX3_readLevel 8 = .ok (.aload_n 3, 1) := by decide +kernel
theorem dX3_readLevel_9 : decode cX3_readLevel 9 = .ok (.invokevirtual 210, 3) := by decide +kernel
theorem dX3_readLevel_12 : decode cX3_readLevel 12 = .ok (.return_, 1) := by decide +kernel
theorem dX3_readLevel_13 : decode cX3_readLevel 13 = .ok (.iload_n 1, 1) := by decide +kernel
theorem dX3_readLevel_14 : decode cX3_readLevel 14 = .ok (.iconst 2, 1) := by decide +kernel
theorem dX3_readLevel_15 : decode cX3_readLevel 15 = .ok (.if_icmp .ne 10, 3) := by decide +kernel
theorem dX3_readLevel_18 : decode cX3_readLevel 18 = .ok (.aload_n 0, 1) := by decide +kernel
theorem dX3_readLevel_19 : decode cX3_readLevel 19 = .ok (.invokevirtual 214, 3) := by decide +kernel
theorem dX3_readLevel_22 : decode cX3_readLevel 22 = .ok (.goto 4, 3) := by decide +kernel
theorem dX3_readLevel_25 : decode cX3_readLevel 25 = .ok (.iconst 0, 1) := by decide +kernel
theorem dX3_readLevel_26 : decode cX3_readLevel 26 = .ok (.istore 4, 2) := by decide +kernel
theorem dX3_readLevel_28 : decode cX3_readLevel 28 = .ok (.aload_n 0, 1) := by decide +kernel
theorem dX3_readLevel_29 : decode cX3_readLevel 29 = .ok (.iload_n 1, 1) := by decide +kernel
theorem dX3_readLevel_30 : decode cX3_readLevel 30 = .ok (.iconst 1, 1) := by decide +kernel
theorem dX3_readLevel_31 : decode cX3_readLevel 31 = .ok (.iadd, 1) := by decide +kernel
theorem dX3_readLevel_32 : decode cX3_readLevel 32 = .ok (.iload_n 2, 1) := by decide +kernel
theorem dX3_readLevel_33 : decode cX3_readLevel 33 = .ok (.aload_n 3, 1) := by decide +kernel
theorem dX3_readLevel_34 : decode cX3_readLevel 34 = .ok (.invokevirtual 192, 3) := by decide +kernel
theorem dX3_readLevel_37 : decode cX3_readLevel 37 = .ok (.iload_n 1, 1) := by decide +kernel
theorem dX3_readLevel_38 : decode cX3_readLevel 38 = .ok (.iconst 3, 1) := by decide +kernel
theorem dX3_readLevel_39 : decode cX3_readLevel 39 = .ok (.if_icmp .ne 7, 3) := by decide +kernel
theorem dX3_readLevel_42 : decode cX3_readLevel 42 = .ok (.iconst 1, 1) := by decide +kernel
theorem dX3_readLevel_43 : decode cX3_readLevel 43 = .ok (.goto 5, 3) := by decide +kernel
theorem dX3_readLevel_46 : decode cX3_readLevel 46 = .ok (.bipush 64, 2) := by decide +kernel
theorem dX3_readLevel_48 : decode cX3_readLevel 48 = .ok (.istore 5, 2) := by decide +kernel
theorem dX3_readLevel_50 : decode cX3_readLevel 50 = .ok (.iconst 0, 1) := by decide +kernel
theorem dX3_readLevel_51 : decode cX3_readLevel 51 = .ok (.istore 6, 2) := by decide +kernel
theorem dX3_readLevel_53 : decode cX3_readLevel 53 = .ok (.iload 6, 2) := by decide +kernel
theorem dX3_readLevel_55 : decode cX3_readLevel 55 = .ok (.iload 5, 2) := by decide +kernel
theorem dX3_readLevel_57 : decode cX3_readLevel 57 = .ok (.if_icmp .ge 52, 3) := by decide +kernel
theorem dX3_readLevel_60 : decode cX3_readLevel 60 = .ok (.aload_n 0, 1) := by decide +kernel
theorem dX3_readLevel_61 : decode cX3_readLevel 61 = .ok (.getfield 39, 3) := by decide +kernel
theorem dX3_readLevel_64 : decode cX3_readLevel 64 = .ok (.ifCond .ne 45, 3) := by decide +kernel
theorem dX3_readLevel_67 : decode cX3_readLevel 67 = .ok (.aload_n 0, 1) := by decide +kernel
theorem dX3_readLevel_68 : decode cX3_readLevel 68 = .ok (.invokevirtual 42, 3) := by decide +kernel
theorem dX3_readLevel_71 : decode cX3_readLevel 71 = .ok (.invokestatic 217, 3) := by decide +kernel
theorem dX3_readLevel_74 : decode cX3_readLevel 74 = .ok (.iload_n 1, 1) := by decide +kernel
theorem dX3_readLevel_75 : decode cX3_readLevel 75 = .ok (.if_icmp .ne 34, 3) := by decide +kernel
theorem dX3_readLevel_78 : decode cX3_readLevel 78 = .ok (.aload_n 0, 1) := by decide +kernel
theorem dX3_readLevel_79 : decode cX3_readLevel 79 = .ok (.invokevirtual 42, 3) := by decide +kernel
theorem dX3_readLevel_82 : decode cX3_readLevel 82 = .ok (.istore 7, 2) := by decide +kernel
theorem dX3_readLevel_84 : decode cX3_readLevel 84 = .ok (.aload_n 0, 1) := by decide +kernel
theorem dX3_readLevel_85 : decode cX3_readLevel 85 = .ok (.invokevirtual 220, 3) := by decide +kernel
theorem dX3_readLevel_88 : decode cX3_readLevel 88 = .ok (.aload_n 0, 1) := by decide +kernel
theorem dX3_readLevel_89 : decode cX3_readLevel 89 = .ok (.iload_n 1, 1) := by decide +kernel
theorem dX3_readLevel_90 : decode cX3_readLevel 90 = .ok (.iconst 1, 1) := by decide +kernel
theorem dX3_readLevel_91 : decode cX3_readLevel 91 = .ok (.iadd, 1) := by decide +kernel
theorem dX3_readLevel_92 : decode cX3_readLevel 92 = .ok (.iload_n 2, 1) := by decide +kernel
theorem dX3_readLevel_93 : decode cX3_readLevel 93 = .ok (.aload_n 3, 1) := by decide +kernel
theorem dX3_readLevel_94 : decode cX3_readLevel 94 = .ok (.invokevirtual 192, 3) := by decide +kernel
theorem dX3_readLevel_97 : decode cX3_readLevel 97 = .ok (.aload_n 3, 1) := by decide +kernel
theorem dX3_readLevel_98 : decode cX3_readLevel 98 = .ok (.iload 7, 2) := by decide +kernel
theorem dX3_readLevel_100 : decode cX3_readLevel 100 = .ok (.invokevirtual 223, 3) := by decide +kernel
theorem dX3_readLevel_103 : decode cX3_readLevel 103 = .ok (.iinc 6 1, 3) := by decide +kernel
theorem dX3_readLevel_106 : decode cX3_readLevel 106 = .ok (.goto (-53), 3) := by decide +kernel
theorem dX3_readLevel_109 : decode cX3_readLevel 109 = .ok (.iconst 0, 1) := by decide +kernel
theorem dX3_readLevel_110 : decode cX3_readLevel 110 = .ok (.istore 6, 2) := by decide +kernel
theorem dX3_readLevel_112 : decode cX3_readLevel 112 = .ok (.iload 6, 2) := by decide +kernel
theorem dX3_readLevel_114 : decode cX3_readLevel 114 = .ok (.iload 4, 2) := by decide +kernel
theorem dX3_readLevel_116 : decode cX3_readLevel 116 = .ok (.if_icmp .ge 15, 3) := by decide +kernel
theorem dX3_readLevel_119 : decode cX3_readLevel 119 = .ok (.aload_n 3, 1) := by decide +kernel
theorem dX3_readLevel_120 : decode cX3_readLevel 120 = .ok (.bipush 11, 2) := by decide +kernel
theorem dX3_readLevel_122 : decode cX3_readLevel 122 = .ok (.invokevirtual 223, 3) := by decide +kernel
theorem dX3_readLevel_125 : decode cX3_readLevel 125 = .ok (.iinc 6 1, 3) := by decide +kernel
theorem dX3_readLevel_128 : decode cX3_readLevel 128 = .ok (.goto (-16), 3) := by decide +kernel
theorem dX3_readLevel_131 : decode cX3_readLevel 131 = .ok (.return_, 1) := by decide +kernel
theorem dX3_takeNots_0 : decode cX3_takeNots 0 = .ok (.iconst 0, 1) := by decide +kernel
theorem dX3_takeNots_1 : decode cX3_takeNots 1 = .ok (.istore_n 1, 1) := by decide +kernel
theorem dX3_takeNots_2 : decode cX3_takeNots 2 = .ok (.iload_n 1, 1) := by decide +kernel
theorem dX3_takeNots_3 : decode cX3_takeNots 3 = .ok (.bipush 64, 2) := by decide +kernel
theorem dX3_takeNots_5 : decode cX3_takeNots 5 = .ok (.if_icmp .gt 29, 3) := by decide +kernel
theorem dX3_takeNots_8 : decode cX3_takeNots 8 = .ok (.aload_n 0, 1) := by decide +kernel
theorem dX3_takeNots_9 : decode cX3_takeNots 9 = .ok (.getfield 39, 3) := by decide +kernel
theorem dX3_takeNots_12 : decode cX3_takeNots 12 = .ok (.ifCond .ne 22, 3) := by decide +kernel
theorem dX3_takeNots_15 : decode cX3_takeNots 15 = .ok (.aload_n 0, 1) := by decide +kernel
theorem dX3_takeNots_16 : decode cX3_takeNots 16 = .ok (.invokevirtual 42, 3) := by decide +kernel
theorem dX3_takeNots_19 : decode cX3_takeNots 19 = .ok (.bipush 11, 2) := by decide +kernel
theorem dX3_takeNots_21 : decode cX3_takeNots 21 = .ok (.if_icmp .ne 13, 3) := by decide +kernel
theorem dX3_takeNots_24 : decode cX3_takeNots 24 = .ok (.aload_n 0, 1) := by decide +kernel
theorem dX3_takeNots_25 : decode cX3_takeNots 25 = .ok (.invokevirtual 220, 3) := by decide +kernel
theorem dX3_takeNots_28 : decode cX3_takeNots 28 = .ok (.iinc 1 1, 3) := by decide +kernel
theorem dX3_takeNots_31 : decode cX3_takeNots 31 = .ok (.goto (-29), 3) := by decide +kernel
theorem dX3_takeNots_34 : decode cX3_takeNots 34 = .ok (.iload_n 1, 1) := by decide +kernel
theorem dX3_takeNots_35 : decode cX3_takeNots 35 = .ok (.ireturn, 1) := by decide +kernel
theorem dX3_levelOf_0 : decode cX3_levelOf 0 = .ok (.iload_n 0, 1) := by decide +kernel
theorem dX3_levelOf_1 : decode cX3_levelOf 1 = .ok (.tableswitch 113 12 33 #[105, 103, 113, 113, 113, 113, 113, 113, 113, 113, 113, 113, 109, 109, 111, 111, 107, 107, 107, 107, 107, 107], 103) := by decide +kernel
theorem dX3_levelOf_104 : decode cX3_levelOf 104 = .ok (.iconst 0, 1) := by decide +kernel
theorem dX3_levelOf_105 : decode cX3_levelOf 105 = .ok (.ireturn, 1) := by decide +kernel
theorem dX3_levelOf_106 : decode cX3_levelOf 106 = .ok (.iconst 1, 1) := by decide +kernel
theorem dX3_levelOf_107 : decode cX3_levelOf 107 = .ok (.ireturn, 1) := by decide +kernel
theorem dX3_levelOf_108 : decode cX3_levelOf 108 = .ok (.iconst 3, 1) := by decide +kernel
theorem dX3_levelOf_109 : decode cX3_levelOf 109 = .ok (.ireturn, 1) := by decide +kernel
theorem dX3_levelOf_110 : decode cX3_levelOf 110 = .ok (.iconst 4, 1) := by decide +kernel
theorem dX3_levelOf_111 : decode cX3_levelOf 111 = .ok (.ireturn, 1) := by decide +kernel
theorem dX3_levelOf_112 : decode cX3_levelOf 112 = .ok (.iconst 5, 1) := by decide +kernel
theorem dX3_levelOf_113 : decode cX3_levelOf 113 = .ok (.ireturn, 1) := by decide +kernel
theorem dX3_levelOf_114 : decode cX3_levelOf 114 = .ok (.iconst (-1), 1) := by decide +kernel
theorem dX3_levelOf_115 : decode cX3_levelOf 115 = .ok (.ireturn, 1) := by decide +kernel
theorem dX3_readPart_0 : decode cX3_readPart 0 = .ok (.aload_n 0, 1) := by decide +kernel
theorem dX3_readPart_1 : decode cX3_readPart 1 = .ok (.getfield 39, 3) := by decide +kernel
theorem dX3_readPart_4 : decode cX3_readPart 4 = .ok (.ifCond .eq 4, 3) := by decide +kernel
theorem dX3_readPart_7 : decode cX3_readPart 7 = .ok (.return_, 1) := by decide +kernel
theorem dX3_readPart_8 : decode cX3_readPart 8 = .ok (.aload_n 0, 1) := by decide +kernel
theorem dX3_readPart_9 : decode cX3_readPart 9 = .ok (.invokevirtual 42, 3) := by decide +kernel
theorem dX3_readPart_12 : decode cX3_readPart 12 = .ok (.istore_n 3, 1) := by decide +kernel
theorem dX3_readPart_13 : decode cX3_readPart 13 = .ok (.iload_n 3, 1) := by decide +kernel
theorem dX3_readPart_14 : decode cX3_readPart 14 = .ok (.bipush 22, 2) := by decide +kernel
theorem dX3_readPart_16 : decode cX3_readPart 16 = .ok (.if_icmp .ne 17, 3) := by decide +kernel
theorem dX3_readPart_19 : decode cX3_readPart 19 = .ok (.iload_n 1, 1) := by decide +kernel
theorem dX3_readPart_20 : decode cX3_readPart 20 = .ok (.bipush 8, 2) := by decide +kernel
theorem dX3_readPart_22 : decode cX3_readPart 22 = .ok (.if_icmp .lt 7, 3) := by decide +kernel
theorem dX3_readPart_25 : decode cX3_readPart 25 = .ok (.iconst 1, 1) := by decide +kernel
theorem dX3_readPart_26 : decode cX3_readPart 26 = .ok (.goto 28, 3) := by decide +kernel
theorem dX3_readPart_29 : decode cX3_readPart 29 = .ok (.iconst 0, 1) := by decide +kernel
theorem dX3_readPart_30 : decode cX3_readPart 30 = .ok (.goto 24, 3) := by decide +kernel
theorem dX3_readPart_33 : decode cX3_readPart 33 = .ok (.iload_n 3, 1) := by decide +kernel
theorem dX3_readPart_34 : decode cX3_readPart 34 = .ok (.bipush 34, 2) := by decide +kernel
theorem dX3_readPart_36 : decode cX3_readPart 36 = .ok (.if_icmp .ne 17, 3) := by decide +kernel
theorem dX3_readPart_39 : decode cX3_readPart 39 = .ok (.aload_n 0, 1) := by decide +kernel
theorem dX3_readPart_40 : decode cX3_readPart 40 = .ok (.invokevirtual 196, 3) := by decide +kernel
theorem dX3_readPart_43 : decode cX3_readPart 43 = .ok (.sipush 9999, 3) := by decide +kernel
theorem dX3_readPart_46 : decode cX3_readPart 46 = .ok (.if_icmp .le 7, 3) := by decide +kernel
theorem dX3_readPart_49 : decode cX3_readPart 49 = .ok (.iconst 1, 1) := by decide +kernel
theorem dX3_readPart_50 : decode cX3_readPart 50 = .ok (.goto 4, 3) := by decide +kernel
theorem dX3_readPart_53 : decode cX3_readPart 53 = .ok (.iconst 0, 1) := by decide +kernel
theorem dX3_readPart_54 : decode cX3_readPart 54 = .ok (.istore 4, 2) := by decide +kernel
theorem dX3_readPart_56 : decode cX3_readPart 56 = .ok (.iload 4, 2) := by decide +kernel
theorem dX3_readPart_58 : decode cX3_readPart 58 = .ok (.ifCond .eq 11, 3) := by decide +kernel
theorem dX3_readPart_61 : decode cX3_readPart 61 = .ok (.aload_n 0, 1) := by decide +kernel
theorem dX3_readPart_62 : decode cX3_readPart 62 = .ok (.iconst 2, 1) := by decide +kernel
theorem dX3_readPart_63 : decode cX3_readPart 63 = .ok (.invokevirtual 72, 3) := by decide +kernel
theorem dX3_readPart_66 : decode cX3_readPart 66 = .ok (.goto 84, 3) := by decide +kernel
theorem dX3_readPart_69 : decode cX3_readPart 69 = .ok (.iload_n 3, 1) := by decide +kernel
theorem dX3_readPart_70 : decode cX3_readPart 70 = .ok (.bipush 22, 2) := by decide +kernel
theorem dX3_readPart_72 : decode cX3_readPart 72 = .ok (.if_icmp .ne 25, 3) := by decide +kernel
theorem dX3_readPart_75 : decode cX3_readPart 75 = .ok (.aload_n 0, 1) := by decide +kernel
theorem dX3_readPart_76 : decode cX3_readPart 76 = .ok (.invokevirtual 69, 3) := by decide +kernel
theorem dX3_readPart_79 : decode cX3_readPart 79 = .ok (.aload_n 0, 1) := by decide +kernel
theorem dX3_readPart_80 : decode cX3_readPart 80 = .ok (.iconst 0, 1) := by decide +kernel
theorem dX3_readPart_81 : decode cX3_readPart 81 = .ok (.iload_n 1, 1) := by decide +kernel
theorem dX3_readPart_82 : decode cX3_readPart 82 = .ok (.iconst 1, 1) := by decide +kernel
theorem dX3_readPart_83 : decode cX3_readPart 83 = .ok (.iadd, 1) := by decide +kernel
theorem dX3_readPart_84 : decode cX3_readPart 84 = .ok (.aload_n 2, 1) := by decide +kernel
theorem dX3_readPart_85 : decode cX3_readPart 85 = .ok (.invokevirtual 192, 3) := by decide +kernel
theorem dX3_readPart_88 : decode cX3_readPart 88 = .ok (.aload_n 0, 1) := by decide +kernel
theorem dX3_readPart_89 : decode cX3_readPart 89 = .ok (.bipush 23, 2) := by decide +kernel
theorem dX3_readPart_91 : decode cX3_readPart 91 = .ok (.invokevirtual 49, 3) := by decide +kernel
theorem dX3_readPart_94 : decode cX3_readPart 94 = .ok (.goto 56, 3) := by decide +kernel
theorem dX3_readPart_97 : decode cX3_readPart 97 = .ok (.iload_n 3, 1) := by decide +kernel
theorem dX3_readPart_98 : decode cX3_readPart 98 = .ok (.bipush 34, 2) := by decide +kernel
theorem dX3_readPart_100 : decode cX3_readPart 100 = .ok (.if_icmp .ne 21, 3) := by decide +kernel
theorem dX3_readPart_103 : decode cX3_readPart 103 = .ok (.aload_n 2, 1) := by decide +kernel
theorem dX3_readPart_104 : decode cX3_readPart 104 = .ok (.bipush 64, 2) := by decide +kernel
theorem dX3_readPart_106 : decode cX3_readPart 106 = .ok (.aload_n 0, 1) := by decide +kernel
theorem dX3_readPart_107 : decode cX3_readPart 107 = .ok (.invokevirtual 196, 3) := by decide +kernel
theorem dX3_readPart_110 : decode cX3_readPart 110 = .ok (.iadd, 1) := by decide +kernel
theorem dX3_readPart_111 : decode cX3_readPart 111 = .ok (.invokevirtual 223, 3) := by decide +kernel
theorem dX3_readPart_114 : decode cX3_readPart 114 = .ok (.aload_n 0, 1) := by decide +kernel
theorem dX3_readPart_115 : decode cX3_readPart 115 = .ok (.invokevirtual 220, 3) := by decide +kernel
theorem dX3_readPart_118 : decode cX3_readPart 118 = .ok (.goto 32, 3) := by decide +kernel
theorem dX3_readPart_121 : decode cX3_readPart 121 = .ok (.iload_n 3, 1) := by decide +kernel
theorem dX3_readPart_122 : decode cX3_readPart 122 = .ok (.bipush 14, 2) := by decide +kernel
theorem dX3_readPart_124 : decode cX3_readPart 124 = .ok (.if_icmp .lt 21, 3) := by decide +kernel
theorem dX3_readPart_127 : decode cX3_readPart 127 = .ok (.iload_n 3, 1) := by decide +kernel
theorem dX3_readPart_128 : decode cX3_readPart 128 = .ok (.bipush 20, 2) := by decide +kernel
theorem dX3_readPart_130 : decode cX3_readPart 130 = .ok (.if_icmp .gt 15, 3) := by decide +kernel
theorem dX3_readPart_133 : decode cX3_readPart 133 = .ok (.aload_n 2, 1) := by decide +kernel
theorem dX3_readPart_134 : decode cX3_readPart 134 = .ok (.iload_n 3, 1) := by decide +kernel
theorem dX3_readPart_135 : decode cX3_readPart 135 = .ok (.invokevirtual 223, 3) := by decide +kernel
theorem dX3_readPart_138 : decode cX3_readPart 138 = .ok (.aload_n 0, 1) := by decide +kernel
theorem dX3_readPart_139 : decode cX3_readPart 139 = .ok (.invokevirtual 220, 3) := by decide +kernel
theorem dX3_readPart_142 : decode cX3_readPart 142 = .ok (.goto 8, 3) := by decide +kernel
theorem dX3_readPart_145 : decode cX3_readPart 145 = .ok (.aload_n 0, 1) := by decide +kernel
theorem dX3_readPart_146 : decode cX3_readPart 146 = .ok (.iconst 1, 1) := by decide +kernel
theorem dX3_readPart_147 : decode cX3_readPart 147 = .ok (.invokevirtual 72, 3) := by decide +kernel
theorem dX3_readPart_150 : decode cX3_readPart 150 = .ok (.return_, 1) := by decide +kernel
theorem dX7_wordCode_0 : decode cX7_wordCode 0 = .ok (.iconst 0, 1) := by decide +kernel
theorem dX7_wordCode_1 : decode cX7_wordCode 1 = .ok (.istore_n 1, 1) := by decide +kernel
theorem dX7_wordCode_2 : decode cX7_wordCode 2 = .ok (.iload_n 0, 1) := by decide +kernel
theorem dX7_wordCode_3 : decode cX7_wordCode 3 = .ok (.bipush 6, 2) := by decide +kernel
theorem dX7_wordCode_5 : decode cX7_wordCode 5 = .ok (.imul, 1) := by decide +kernel
theorem dX7_wordCode_6 : decode cX7_wordCode 6 = .ok (.istore_n 2, 1) := by decide +kernel
theorem dX7_wordCode_7 : decode cX7_wordCode 7 = .ok (.iload_n 2, 1) := by decide +kernel
theorem dX7_wordCode_8 : decode cX7_wordCode 8 = .ok (.iload_n 0, 1) := by decide +kernel
theorem dX7_wordCode_9 : decode cX7_wordCode 9 = .ok (.iconst 1, 1) := by decide +kernel
theorem dX7_wordCode_10 : decode cX7_wordCode 10 = .ok (.iadd, 1) := by decide +kernel
theorem dX7_wordCode_11 : decode cX7_wordCode 11 = .ok (.bipush 6, 2) := by decide +kernel
theorem dX7_wordCode_13 : decode cX7_wordCode 13 = .ok (.imul, 1) := by decide +kernel
theorem dX7_wordCode_14 : decode cX7_wordCode 14 = .ok (.if_icmp .ge 46, 3) := by decide +kernel
theorem dX7_wordCode_17 : decode cX7_wordCode 17 = .ok (.iload_n 2, 1) := by decide +kernel
theorem dX7_wordCode_18 : decode cX7_wordCode 18 = .ok (.ldc 28, 2) := by decide +kernel
theorem dX7_wordCode_20 : decode cX7_wordCode 20 = .ok (.invokevirtual 30, 3) := by decide +kernel
theorem dX7_wordCode_23 : decode cX7_wordCode 23 = .ok (.if_icmp .ge 37, 3) := by decide +kernel
theorem dX7_wordCode_26 : decode cX7_wordCode 26 = .ok (.ldc 28, 2) := by decide +kernel
theorem dX7_wordCode_28 : decode cX7_wordCode 28 = .ok (.iload_n 2, 1) := by decide +kernel
theorem dX7_wordCode_29 : decode cX7_wordCode 29 = .ok (.invokevirtual 36, 3) := by decide +kernel
theorem dX7_wordCode_32 : decode cX7_wordCode 32 = .ok (.istore_n 3, 1) := by decide +kernel
theorem dX7_wordCode_33 : decode cX7_wordCode 33 = .ok (.iload_n 1, 1) := by decide +kernel
theorem dX7_wordCode_34 : decode cX7_wordCode 34 = .ok (.iconst 5, 1) := by decide +kernel
theorem dX7_wordCode_35 : decode cX7_wordCode 35 = .ok (.ishl, 1) := by decide +kernel
theorem dX7_wordCode_36 : decode cX7_wordCode 36 = .ok (.iload_n 3, 1) := by decide +kernel
theorem dX7_wordCode_37 : decode cX7_wordCode 37 = .ok (.bipush 32, 2) := by decide +kernel
theorem dX7_wordCode_39 : decode cX7_wordCode 39 = .ok (.if_icmp .ne 7, 3) := by decide +kernel
theorem dX7_wordCode_42 : decode cX7_wordCode 42 = .ok (.iconst 0, 1) := by decide +kernel
theorem dX7_wordCode_43 : decode cX7_wordCode 43 = .ok (.goto 9, 3) := by decide +kernel
theorem dX7_wordCode_46 : decode cX7_wordCode 46 = .ok (.iload_n 3, 1) := by decide +kernel
theorem dX7_wordCode_47 : decode cX7_wordCode 47 = .ok (.bipush 97, 2) := by decide +kernel
theorem dX7_wordCode_49 : decode cX7_wordCode 49 = .ok (.isub, 1) := by decide +kernel
theorem dX7_wordCode_50 : decode cX7_wordCode 50 = .ok (.iconst 1, 1) := by decide +kernel
theorem dX7_wordCode_51 : decode cX7_wordCode 51 = .ok (.iadd, 1) := by decide +kernel
theorem dX7_wordCode_52 : decode cX7_wordCode 52 = .ok (.ior, 1) := by decide +kernel
theorem dX7_wordCode_53 : decode cX7_wordCode 53 = .ok (.istore_n 1, 1) := by decide +kernel
theorem dX7_wordCode_54 : decode cX7_wordCode 54 = .ok (.iinc 2 1, 3) := by decide +kernel
theorem dX7_wordCode_57 : decode cX7_wordCode 57 = .ok (.goto (-50), 3) := by decide +kernel
theorem dX7_wordCode_60 : decode cX7_wordCode 60 = .ok (.iload_n 1, 1) := by decide +kernel
theorem dX7_wordCode_61 : decode cX7_wordCode 61 = .ok (.ireturn, 1) := by decide +kernel
theorem dX7_scan_0 : decode cX7_scan 0 = .ok (.aload_n 0, 1) := by decide +kernel
theorem dX7_scan_1 : decode cX7_scan 1 = .ok (.iconst 0, 1) := by decide +kernel
theorem dX7_scan_2 : decode cX7_scan 2 = .ok (.putfield 40, 3) := by decide +kernel
theorem dX7_scan_5 : decode cX7_scan 5 = .ok (.iconst 0, 1) := by decide +kernel
theorem dX7_scan_6 : decode cX7_scan 6 = .ok (.istore_n 3, 1) := by decide +kernel
theorem dX7_scan_7 : decode cX7_scan 7 = .ok (.iconst 0, 1) := by decide +kernel
theorem dX7_scan_8 : decode cX7_scan 8 = .ok (.istore 4, 2) := by decide +kernel
theorem dX7_scan_10 : decode cX7_scan 10 = .ok (.iload 4, 2) := by decide +kernel
theorem dX7_scan_12 : decode cX7_scan 12 = .ok (.sipush 700, 3) := by decide +kernel
theorem dX7_scan_15 : decode cX7_scan 15 = .ok (.if_icmp .ge 91, 3) := by decide +kernel
theorem dX7_scan_18 : decode cX7_scan 18 = .ok (.iload_n 3, 1) := by decide +kernel
theorem dX7_scan_19 : decode cX7_scan 19 = .ok (.iload_n 2, 1) := by decide +kernel
theorem dX7_scan_20 : decode cX7_scan 20 = .ok (.if_icmp .ge 86, 3) := by decide +kernel
theorem dX7_scan_23 : decode cX7_scan 23 = .ok (.iload_n 3, 1) := by decide +kernel
theorem dX7_scan_24 : decode cX7_scan 24 = .ok (.aload_n 1, 1) := by decide +kernel
theorem dX7_scan_25 : decode cX7_scan 25 = .ok (.arraylength, 1) := by decide +kernel
theorem dX7_scan_26 : decode cX7_scan 26 = .ok (.if_icmp .ge 80, 3) := by decide +kernel
theorem dX7_scan_29 : decode cX7_scan 29 = .ok (.aload_n 1, 1) := by decide +kernel
theorem dX7_scan_30 : decode cX7_scan 30 = .ok (.iload_n 3, 1) := by decide +kernel
theorem dX7_scan_31 : decode cX7_scan 31 = .ok (.iaload, 1) := by decide +kernel
theorem dX7_scan_32 : decode cX7_scan 32 = .ok (.istore 5, 2) := by decide +kernel
theorem dX7_scan_34 : decode cX7_scan 34 = .ok (.iload 5, 2) := by decide +kernel
theorem dX7_scan_36 : decode cX7_scan 36 = .ok (.bipush 10, 2) := by decide +kernel
theorem dX7_scan_38 : decode cX7_scan 38 = .ok (.if_icmp .eq 10, 3) := by decide +kernel
theorem dX7_scan_41 : decode cX7_scan 41 = .ok (.iload 5, 2) := by decide +kernel
theorem dX7_scan_43 : decode cX7_scan 43 = .ok (.bipush 32, 2) := by decide +kernel
theorem dX7_scan_45 : decode cX7_scan 45 = .ok (.if_icmp .ne 9, 3) := by decide +kernel
theorem dX7_scan_48 : decode cX7_scan 48 = .ok (.iinc 3 1, 3) := by decide +kernel
theorem dX7_scan_51 : decode cX7_scan 51 = .ok (.goto 49, 3) := by decide +kernel
theorem dX7_scan_54 : decode cX7_scan 54 = .ok (.iload 5, 2) := by decide +kernel
theorem dX7_scan_56 : decode cX7_scan 56 = .ok (.invokestatic 44, 3) := by decide +kernel
theorem dX7_scan_59 : decode cX7_scan 59 = .ok (.ifCond .eq 14, 3) := by decide +kernel
theorem dX7_scan_62 : decode cX7_scan 62 = .ok (.aload_n 0, 1) := by decide +kernel
theorem dX7_scan_63 : decode cX7_scan 63 = .ok (.aload_n 1, 1) := by decide +kernel
theorem dX7_scan_64 : decode cX7_scan 64 = .ok (.iload_n 3, 1) := by decide +kernel
theorem dX7_scan_65 : decode cX7_scan 65 = .ok (.iload_n 2, 1) := by decide +kernel
theorem dX7_scan_66 : decode cX7_scan 66 = .ok (.invokevirtual 48, 3) := by decide +kernel
theorem dX7_scan_69 : decode cX7_scan 69 = .ok (.istore_n 3, 1) := by decide +kernel
theorem dX7_scan_70 : decode cX7_scan 70 = .ok (.goto 30, 3) := by decide +kernel
theorem dX7_scan_73 : decode cX7_scan 73 = .ok (.iload 5, 2) := by decide +kernel
theorem dX7_scan_75 : decode cX7_scan 75 = .ok (.invokestatic 52, 3) := by decide +kernel
theorem dX7_scan_78 : decode cX7_scan 78 = .ok (.ifCond .eq 14, 3) := by decide +kernel
theorem dX7_scan_81 : decode cX7_scan 81 = .ok (.aload_n 0, 1) := by decide +kernel
theorem dX7_scan_82 : decode cX7_scan 82 = .ok (.aload_n 1, 1) := by decide +kernel
theorem dX7_scan_83 : decode cX7_scan 83 = .ok (.iload_n 3, 1) := by decide +kernel
theorem dX7_scan_84 : decode cX7_scan 84 = .ok (.iload_n 2, 1) := by decide +kernel
theorem dX7_scan_85 : decode cX7_scan 85 = .ok (.invokevirtual 55, 3) := by decide +kernel
theorem dX7_scan_88 : decode cX7_scan 88 = .ok (.istore_n 3, 1) := by decide +kernel
theorem dX7_scan_89 : decode cX7_scan 89 = .ok (.goto 11, 3) := by decide +kernel
theorem dX7_scan_92 : decode cX7_scan 92 = .ok (.aload_n 0, 1) := by decide +kernel
theorem dX7_scan_93 : decode cX7_scan 93 = .ok (.aload_n 1, 1) := by decide +kernel
theorem dX7_scan_94 : decode cX7_scan 94 = .ok (.iload_n 3, 1) := by decide +kernel
theorem dX7_scan_95 : decode cX7_scan 95 = .ok (.iload_n 2, 1) := by decide +kernel
theorem dX7_scan_96 : decode cX7_scan 96 = .ok (.invokevirtual 58, 3) := by decide +kernel
theorem dX7_scan_99 : decode cX7_scan 99 = .ok (.istore_n 3, 1) := by decide +kernel
theorem dX7_scan_100 : decode cX7_scan 100 = .ok (.iinc 4 1, 3) := by decide +kernel
theorem dX7_scan_103 : decode cX7_scan 103 = .ok (.goto (-93), 3) := by decide +kernel
theorem dX7_scan_106 : decode cX7_scan 106 = .ok (.aload_n 0, 1) := by decide +kernel
theorem dX7_scan_107 : decode cX7_scan 107 = .ok (.bipush 36, 2) := by decide +kernel
theorem dX7_scan_109 : decode cX7_scan 109 = .ok (.iload_n 2, 1) := by decide +kernel
theorem dX7_scan_110 : decode cX7_scan 110 = .ok (.iconst 0, 1) := by decide +kernel
theorem dX7_scan_111 : decode cX7_scan 111 = .ok (.invokevirtual 61, 3) := by decide +kernel
theorem dX7_scan_114 : decode cX7_scan 114 = .ok (.return_, 1) := by decide +kernel
theorem dX7_add_0 : decode cX7_add 0 = .ok (.aload_n 0, 1) := by decide +kernel
theorem dX7_add_1 : decode cX7_add 1 = .ok (.getfield 40, 3) := by decide +kernel
theorem dX7_add_4 : decode cX7_add 4 = .ok (.sipush 701, 3) := by decide +kernel
theorem dX7_add_7 : decode cX7_add 7 = .ok (.if_icmp .ge 43, 3) := by decide +kernel
theorem dX7_add_10 : decode cX7_add 10 = .ok (.aload_n 0, 1) := by decide +kernel
theorem dX7_add_11 : decode cX7_add 11 = .ok (.getfield 11, 3) := by decide +kernel
theorem dX7_add_14 : decode cX7_add 14 = .ok (.aload_n 0, 1) := by decide +kernel
theorem dX7_add_15 : decode cX7_add 15 = .ok (.getfield 40, 3) := by decide +kernel
theorem dX7_add_18 : decode cX7_add 18 = .ok (.iload_n 1, 1) := by decide +kernel
theorem dX7_add_19 : decode cX7_add 19 = .ok (.iastore, 1) := by decide +kernel
theorem dX7_add_20 : decode cX7_add 20 = .ok (.aload_n 0, 1) := by decide +kernel
theorem dX7_add_21 : decode cX7_add 21 = .ok (.getfield 15, 3) := by decide +kernel
theorem dX7_add_24 : decode cX7_add 24 = .ok (.aload_n 0, 1) := by decide +kernel
theorem dX7_add_25 : decode cX7_add 25 = .ok (.getfield 40, 3) := by decide +kernel
theorem dX7_add_28 : decode cX7_add 28 = .ok (.iload_n 2, 1) := by decide +kernel
theorem dX7_add_29 : decode cX7_add 29 = .ok (.iastore, 1) := by decide +kernel
theorem dX7_add_30 : decode cX7_add 30 = .ok (.aload_n 0, 1) := by decide +kernel
theorem dX7_add_31 : decode cX7_add 31 = .ok (.getfield 18, 3) := by decide +kernel
theorem dX7_add_34 : decode cX7_add 34 = .ok (.aload_n 0, 1) := by decide +kernel
theorem dX7_add_35 : decode cX7_add 35 = .ok (.getfield 40, 3) := by decide +kernel
theorem dX7_add_38 : decode cX7_add 38 = .ok (.iload_n 3, 1) := by decide +kernel
theorem dX7_add_39 : decode cX7_add 39 = .ok (.iastore, 1) := by decide +kernel
theorem dX7_add_40 : decode cX7_add 40 = .ok (.aload_n 0, 1) := by decide +kernel
theorem dX7_add_41 : decode cX7_add 41 = .ok (.dup, 1) := by decide +kernel
theorem dX7_add_42 : decode cX7_add 42 = .ok (.getfield 40, 3) := by decide +kernel
theorem dX7_add_45 : decode cX7_add 45 = .ok (.iconst 1, 1) := by decide +kernel
theorem dX7_add_46 : decode cX7_add 46 = .ok (.iadd, 1) := by decide +kernel
theorem dX7_add_47 : decode cX7_add 47 = .ok (.putfield 40, 3) := by decide +kernel
theorem dX7_add_50 : decode cX7_add 50 = .ok (.return_, 1) := by decide +kernel
theorem dX7_scanWord_0 : decode cX7_scanWord 0 = .ok (.iconst 0, 1) := by decide +kernel
theorem dX7_scanWord_1 : decode cX7_scanWord 1 = .ok (.istore 4, 2) := by decide +kernel
theorem dX7_scanWord_3 : decode cX7_scanWord 3 = .ok (.iload_n 2, 1) := by decide +kernel
theorem dX7_scanWord_4 : decode cX7_scanWord 4 = .ok (.istore 5, 2) := by decide +kernel
theorem dX7_scanWord_6 : decode cX7_scanWord 6 = .ok (.iload 5, 2) := by decide +kernel
theorem dX7_scanWord_8 : decode cX7_scanWord 8 = .ok (.iload_n 3, 1) := by decide +kernel
theorem dX7_scanWord_9 : decode cX7_scanWord 9 = .ok (.if_icmp .ge 42, 3) := by decide +kernel
theorem dX7_scanWord_12 : decode cX7_scanWord 12 = .ok (.iload 5, 2) := by decide +kernel
theorem dX7_scanWord_14 : decode cX7_scanWord 14 = .ok (.aload_n 1, 1) := by decide +kernel
theorem dX7_scanWord_15 : decode cX7_scanWord 15 = .ok (.arraylength, 1) := by decide +kernel
theorem dX7_scanWord_16 : decode cX7_scanWord 16 = .ok (.if_icmp .ge 35, 3) := by decide +kernel
theorem dX7_scanWord_19 : decode cX7_scanWord 19 = .ok (.aload_n 1, 1) := by decide +kernel
theorem dX7_scanWord_20 : decode cX7_scanWord 20 = .ok (.iload 5, 2) := by decide +kernel
theorem dX7_scanWord_22 : decode cX7_scanWord 22 = .ok (.iaload, 1) := by decide +kernel
theorem dX7_scanWord_23 : decode cX7_scanWord 23 = .ok (.invokestatic 44, 3) := by decide +kernel
theorem dX7_scanWord_26 : decode cX7_scanWord 26 = .ok (.ifCond .eq 25, 3) := by decide +kernel
theorem dX7_scanWord_29 : decode cX7_scanWord 29 = .ok (.iload 4, 2) := by decide +kernel
theorem dX7_scanWord_31 : decode cX7_scanWord 31 = .ok (.iconst 5, 1) := by decide +kernel
theorem dX7_scanWord_32 : decode cX7_scanWord 32 = .ok (.ishl, 1) := by decide +kernel
theorem dX7_scanWord_33 : decode cX7_scanWord 33 = .ok (.aload_n 1, 1) := by decide +kernel
theorem dX7_scanWord_34 : decode cX7_scanWord 34 = .ok (.iload 5, 2) := by decide +kernel
theorem dX7_scanWord_36 : decode cX7_scanWord 36 = .ok (.iaload, 1) := by decide +kernel
theorem dX7_scanWord_37 : decode cX7_scanWord 37 = .ok (.bipush 97, 2) := by decide +kernel
theorem dX7_scanWord_39 : decode cX7_scanWord 39 = .ok (.isub, 1) := by decide +kernel
theorem dX7_scanWord_40 : decode cX7_scanWord 40 = .ok (.iconst 1, 1) := by decide +kernel
theorem dX7_scanWord_41 : decode cX7_scanWord 41 = .ok (.iadd, 1) := by decide +kernel
theorem dX7_scanWord_42 : decode cX7_scanWord 42 = .ok (.ior, 1) := by decide +kernel
theorem dX7_scanWord_43 : decode cX7_scanWord 43 = .ok (.istore 4, 2) := by decide +kernel
theorem dX7_scanWord_45 : decode cX7_scanWord 45 = .ok (.iinc 5 1, 3) := by decide +kernel
theorem dX7_scanWord_48 : decode cX7_scanWord 48 = .ok (.goto (-42), 3) := by decide +kernel
theorem dX7_scanWord_51 : decode cX7_scanWord 51 = .ok (.iload 5, 2) := by decide +kernel
theorem dX7_scanWord_53 : decode cX7_scanWord 53 = .ok (.iload_n 2, 1) := by decide +kernel
theorem dX7_scanWord_54 : decode cX7_scanWord 54 = .ok (.isub, 1) := by decide +kernel
theorem dX7_scanWord_55 : decode cX7_scanWord 55 = .ok (.istore 6, 2) := by decide +kernel
theorem dX7_scanWord_57 : decode cX7_scanWord 57 = .ok (.iload 6, 2) := by decide +kernel
theorem dX7_scanWord_59 : decode cX7_scanWord 59 = .ok (.bipush 6, 2) := by decide +kernel
theorem dX7_scanWord_61 : decode cX7_scanWord 61 = .ok (.if_icmp .le 14, 3) := by decide +kernel
theorem dX7_scanWord_64 : decode cX7_scanWord 64 = .ok (.aload_n 0, 1) := by decide +kernel
theorem dX7_scanWord_65 : decode cX7_scanWord 65 = .ok (.bipush 37, 2) := by decide +kernel
theorem dX7_scanWord_67 : decode cX7_scanWord 67 = .ok (.iload_n 2, 1) := by decide +kernel
theorem dX7_scanWord_68 : decode cX7_scanWord 68 = .ok (.iconst 0, 1) := by decide +kernel
theorem dX7_scanWord_69 : decode cX7_scanWord 69 = .ok (.invokevirtual 61, 3) := by decide +kernel
theorem dX7_scanWord_72 : decode cX7_scanWord 72 = .ok (.iload 5, 2) := by decide +kernel
theorem dX7_scanWord_74 : decode cX7_scanWord 74 = .ok (.ireturn, 1) := by decide +kernel
theorem dX7_scanWord_75 : decode cX7_scanWord 75 = .ok (.iload 4, 2) := by decide +kernel
theorem dX7_scanWord_77 : decode cX7_scanWord 77 = .ok (.iconst 5, 1) := by decide +kernel
theorem dX7_scanWord_78 : decode cX7_scanWord 78 = .ok (.bipush 6, 2) := by decide +kernel
theorem dX7_scanWord_80 : decode cX7_scanWord 80 = .ok (.iload 6, 2) := by decide +kernel
theorem dX7_scanWord_82 : decode cX7_scanWord 82 = .ok (.isub, 1) := by decide +kernel
theorem dX7_scanWord_83 : decode cX7_scanWord 83 = .ok (.imul, 1) := by decide +kernel
theorem dX7_scanWord_84 : decode cX7_scanWord 84 = .ok (.ishl, 1) := by decide +kernel
theorem dX7_scanWord_85 : decode cX7_scanWord 85 = .ok (.istore 4, 2) := by decide +kernel
theorem dX7_scanWord_87 : decode cX7_scanWord 87 = .ok (.iload 4, 2) := by decide +kernel
theorem dX7_scanWord_89 : decode cX7_scanWord 89 = .ok (.aload_n 0, 1) := by decide +kernel
theorem dX7_scanWord_90 : decode cX7_scanWord 90 = .ok (.getfield 21, 3) := by decide +kernel
theorem dX7_scanWord_93 : decode cX7_scanWord 93 = .ok (.aload_n 0, 1) := by decide +kernel
theorem dX7_scanWord_94 : decode cX7_scanWord 94 = .ok (.getfield 21, 3) := by decide +kernel
theorem dX7_scanWord_97 : decode cX7_scanWord 97 = .ok (.arraylength, 1) := by decide +kernel
theorem dX7_scanWord_98 : decode cX7_scanWord 98 = .ok (.invokestatic 65, 3) := by decide +kernel
theorem dX7_scanWord_101 : decode cX7_scanWord 101 = .ok (.istore 7, 2) := by decide +kernel
theorem dX7_scanWord_103 : decode cX7_scanWord 103 = .ok (.aload_n 0, 1) := by decide +kernel
theorem dX7_scanWord_104 : decode cX7_scanWord 104 = .ok (.iload 7, 2) := by decide +kernel
theorem dX7_scanWord_106 : decode cX7_scanWord 106 = .ok (.iconst (-1), 1) := by decide +kernel
theorem dX7_scanWord_107 : decode cX7_scanWord 107 = .ok (.if_icmp .ne 8, 3) := by decide +kernel
theorem dX7_scanWord_110 : decode cX7_scanWord 110 = .ok (.bipush 35, 2) := by decide +kernel
theorem dX7_scanWord_112 : decode cX7_scanWord 112 = .ok (.goto 5, 3) := by decide +kernel
theorem dX7_scanWord_115 : decode cX7_scanWord 115 = .ok (.iload 7, 2) := by decide +kernel
theorem dX7_scanWord_117 : decode cX7_scanWord 117 = .ok (.iload_n 2, 1) := by decide +kernel
theorem dX7_scanWord_118 : decode cX7_scanWord 118 = .ok (.iload 4, 2) := by decide +kernel
theorem dX7_scanWord_120 : decode cX7_scanWord 120 = .ok (.invokevirtual 61, 3) := by decide +kernel
theorem dX7_scanWord_123 : decode cX7_scanWord 123 = .ok (.iload 5, 2) := by decide +kernel
theorem dX7_scanWord_125 : decode cX7_scanWord 125 = .ok (.ireturn, 1) := by decide +kernel
theorem dX7_scanNumber_0 : decode cX7_scanNumber 0 = .ok (.iconst 0, 1) := by decide +kernel
theorem dX7_scanNumber_1 : decode cX7_scanNumber 1 = .ok (.istore 4, 2) := by decide +kernel
theorem dX7_scanNumber_3 : decode cX7_scanNumber 3 = .ok (.iload_n 2, 1) := by decide +kernel
theorem dX7_scanNumber_4 : decode cX7_scanNumber 4 = .ok (.istore 5, 2) := by decide +kernel
theorem dX7_scanNumber_6 : decode cX7_scanNumber 6 = .ok (.iload 5, 2) := by decide +kernel
theorem dX7_scanNumber_8 : decode cX7_scanNumber 8 = .ok (.iload_n 3, 1) := by decide +kernel
theorem dX7_scanNumber_9 : decode cX7_scanNumber 9 = .ok (.if_icmp .ge 46, 3) := by decide +kernel
theorem dX7_scanNumber_12 : decode cX7_scanNumber 12 = .ok (.iload 5, 2) := by decide +kernel
theorem dX7_scanNumber_14 : decode cX7_scanNumber 14 = .ok (.aload_n 1, 1) := by decide +kernel
theorem dX7_scanNumber_15 : decode cX7_scanNumber 15 = .ok (.arraylength, 1) := by decide +kernel
theorem dX7_scanNumber_16 : decode cX7_scanNumber 16 = .ok (.if_icmp .ge 39, 3) := by decide +kernel
theorem dX7_scanNumber_19 : decode cX7_scanNumber 19 = .ok (.aload_n 1, 1) := by decide +kernel
theorem dX7_scanNumber_20 : decode cX7_scanNumber 20 = .ok (.iload 5, 2) := by decide +kernel
theorem dX7_scanNumber_22 : decode cX7_scanNumber 22 = .ok (.iaload, 1) := by decide +kernel
theorem dX7_scanNumber_23 : decode cX7_scanNumber 23 = .ok (.invokestatic 52, 3) := by decide +kernel
theorem dX7_scanNumber_26 : decode cX7_scanNumber 26 = .ok (.ifCond .eq 29, 3) := by decide +kernel
theorem dX7_scanNumber_29 : decode cX7_scanNumber 29 = .ok (.ldc 69, 2) := by decide +kernel
theorem dX7_scanNumber_31 : decode cX7_scanNumber 31 = .ok (.iload 4, 2) := by decide +kernel
theorem dX7_scanNumber_33 : decode cX7_scanNumber 33 = .ok (.bipush 10, 2) := by decide +kernel
theorem dX7_scanNumber_35 : decode cX7_scanNumber 35 = .ok (.imul, 1) := by decide +kernel
theorem dX7_scanNumber_36 : decode cX7_scanNumber 36 = .ok (.aload_n 1, 1) := by decide +kernel
theorem dX7_scanNumber_37 : decode cX7_scanNumber 37 = .ok (.iload 5, 2) := by decide +kernel
theorem dX7_scanNumber_39 : decode cX7_scanNumber 39 = .ok (.iaload, 1) := by decide +kernel
theorem dX7_scanNumber_40 : decode cX7_scanNumber 40 = .ok (.iadd, 1) := by decide +kernel
theorem dX7_scanNumber_41 : decode cX7_scanNumber 41 = .ok (.bipush 48, 2) := by decide +kernel
theorem dX7_scanNumber_43 : decode cX7_scanNumber 43 = .ok (.isub, 1) := by decide +kernel
theorem dX7_scanNumber_44 : decode cX7_scanNumber 44 = .ok (.invokestatic 70, 3) := by decide +kernel
theorem dX7_scanNumber_47 : decode cX7_scanNumber 47 = .ok (.istore 4, 2) := by decide +kernel
theorem dX7_scanNumber_49 : decode cX7_scanNumber 49 = .ok (.iinc 5 1, 3) := by decide +kernel
theorem dX7_scanNumber_52 : decode cX7_scanNumber 52 = .ok (.goto (-46), 3) := by decide +kernel
theorem dX7_scanNumber_55 : decode cX7_scanNumber 55 = .ok (.aload_n 0, 1) := by decide +kernel
theorem dX7_scanNumber_56 : decode cX7_scanNumber 56 = .ok (.bipush 34, 2) := by decide +kernel
theorem dX7_scanNumber_58 : decode cX7_scanNumber 58 = .ok (.iload_n 2, 1) := by decide +kernel
theorem dX7_scanNumber_59 : decode cX7_scanNumber 59 = .ok (.iload 4, 2) := by decide +kernel
theorem dX7_scanNumber_61 : decode cX7_scanNumber 61 = .ok (.invokevirtual 61, 3) := by decide +kernel
theorem dX7_scanNumber_64 : decode cX7_scanNumber 64 = .ok (.iload 5, 2) := by decide +kernel
theorem dX7_scanNumber_66 : decode cX7_scanNumber 66 = .ok (.ireturn, 1) := by decide +kernel
theorem dX7_scanSign_0 : decode cX7_scanSign 0 = .ok (.iload_n 2, 1) := by decide +kernel
theorem dX7_scanSign_1 : decode cX7_scanSign 1 = .ok (.aload_n 1, 1) := by decide +kernel
theorem dX7_scanSign_2 : decode cX7_scanSign 2 = .ok (.arraylength, 1) := by decide +kernel
theorem dX7_scanSign_3 : decode cX7_scanSign 3 = .ok (.if_icmp .ge 9, 3) := by decide +kernel
theorem dX7_scanSign_6 : decode cX7_scanSign 6 = .ok (.aload_n 1, 1) := by decide +kernel
theorem dX7_scanSign_7 : decode cX7_scanSign 7 = .ok (.iload_n 2, 1) := by decide +kernel
theorem dX7_scanSign_8 : decode cX7_scanSign 8 = .ok (.iaload, 1) := by decide +kernel
theorem dX7_scanSign_9 : decode cX7_scanSign 9 = .ok (.goto 4, 3) := by decide +kernel
theorem dX7_scanSign_12 : decode cX7_scanSign 12 = .ok (.iconst 0, 1) := by decide +kernel
theorem dX7_scanSign_13 : decode cX7_scanSign 13 = .ok (.istore 4, 2) := by decide +kernel
theorem dX7_scanSign_15 : decode cX7_scanSign 15 = .ok (.iload_n 2, 1) := by decide +kernel
theorem dX7_scanSign_16 : decode cX7_scanSign 16 = .ok (.iconst 1, 1) := by decide +kernel
theorem dX7_scanSign_17 : decode cX7_scanSign 17 = .ok (.iadd, 1) := by decide +kernel
theorem dX7_scanSign_18 : decode cX7_scanSign 18 = .ok (.iload_n 3, 1) := by decide +kernel
theorem dX7_scanSign_19 : decode cX7_scanSign 19 = .ok (.if_icmp .ge 19, 3) := by decide +kernel
theorem dX7_scanSign_22 : decode cX7_scanSign 22 = .ok (.iload_n 2, 1) := by decide +kernel
theorem dX7_scanSign_23 : decode cX7_scanSign 23 = .ok (.iconst 1, 1) := by decide +kernel
theorem dX7_scanSign_24 : decode cX7_scanSign 24 = .ok (.iadd, 1) := by decide +kernel
theorem dX7_scanSign_25 : decode cX7_scanSign 25 = .ok (.aload_n 1, 1) := by decide +kernel
theorem dX7_scanSign_26 : decode cX7_scanSign 26 = .ok (.arraylength, 1) := by decide +kernel
theorem dX7_scanSign_27 : decode cX7_scanSign 27 = .ok (.if_icmp .ge 11, 3) := by decide +kernel
theorem dX7_scanSign_30 : decode cX7_scanSign 30 = .ok (.aload_n 1, 1) := by decide +kernel
theorem dX7_scanSign_31 : decode cX7_scanSign 31 = .ok (.iload_n 2, 1) := by decide +kernel
theorem dX7_scanSign_32 : decode cX7_scanSign 32 = .ok (.iconst 1, 1) := by decide +kernel
theorem dX7_scanSign_33 : decode cX7_scanSign 33 = .ok (.iadd, 1) := by decide +kernel
theorem dX7_scanSign_34 : decode cX7_scanSign 34 = .ok (.iaload, 1) := by decide +kernel
theorem dX7_scanSign_35 : decode cX7_scanSign 35 = .ok (.goto 4, 3) := by decide +kernel
theorem dX7_scanSign_38 : decode cX7_scanSign 38 = .ok (.iconst 0, 1) := by decide +kernel
theorem dX7_scanSign_39 : decode cX7_scanSign 39 = .ok (.istore 5, 2) := by decide +kernel
theorem dX7_scanSign_41 : decode cX7_scanSign 41 = .ok (.iload 4, 2) := by decide +kernel
theorem dX7_scanSign_43 : decode cX7_scanSign 43 = .ok (.iload 5, 2) := by decide +kernel
theorem dX7_scanSign_45 : decode cX7_scanSign 45 = .ok (.invokestatic 76, 3) := by decide +kernel
theorem dX7_scanSign_48 : decode cX7_scanSign 48 = .ok (.istore 6, 2) := by decide +kernel
theorem dX7_scanSign_50 : decode cX7_scanSign 50 = .ok (.iload 6, 2) := by decide +kernel
theorem dX7_scanSign_52 : decode cX7_scanSign 52 = .ok (.bipush 37, 2) := by decide +kernel
theorem dX7_scanSign_54 : decode cX7_scanSign 54 = .ok (.if_icmp .eq 15, 3) := by decide +kernel
theorem dX7_scanSign_57 : decode cX7_scanSign 57 = .ok (.aload_n 0, 1) := by decide +kernel
theorem dX7_scanSign_58 : decode cX7_scanSign 58 = .ok (.iload 6, 2) := by decide +kernel
theorem dX7_scanSign_60 : decode cX7_scanSign 60 = .ok (.iload_n 2, 1) := by decide +kernel
theorem dX7_scanSign_61 : decode cX7_scanSign 61 = .ok (.iconst 0, 1) := by decide +kernel
theorem dX7_scanSign_62 : decode cX7_scanSign 62 = .ok (.invokevirtual 61, 3) := by decide +kernel
theorem dX7_scanSign_65 : decode cX7_scanSign 65 = .ok (.iload_n 2, 1) := by decide +kernel
theorem dX7_scanSign_66 : decode cX7_scanSign 66 = .ok (.iconst 2, 1) := by decide +kernel
theorem dX7_scanSign_67 : decode cX7_scanSign 67 = .ok (.iadd, 1) := by decide +kernel
theorem dX7_scanSign_68 : decode cX7_scanSign 68 = .ok (.ireturn, 1) := by decide +kernel
theorem dX7_scanSign_69 : decode cX7_scanSign 69 = .ok (.aload_n 0, 1) := by decide +kernel
theorem dX7_scanSign_70 : decode cX7_scanSign 70 = .ok (.iload 4, 2) := by decide +kernel
theorem dX7_scanSign_72 : decode cX7_scanSign 72 = .ok (.invokestatic 79, 3) := by decide +kernel
theorem dX7_scanSign_75 : decode cX7_scanSign 75 = .ok (.iload_n 2, 1) := by decide +kernel
theorem dX7_scanSign_76 : decode cX7_scanSign 76 = .ok (.iconst 0, 1) := by decide +kernel
theorem dX7_scanSign_77 : decode cX7_scanSign 77 = .ok (.invokevirtual 61, 3) := by decide +kernel
theorem dX7_scanSign_80 : decode cX7_scanSign 80 = .ok (.iload_n 2, 1) := by decide +kernel
theorem dX7_scanSign_81 : decode cX7_scanSign 81 = .ok (.iconst 1, 1) := by decide +kernel
theorem dX7_scanSign_82 : decode cX7_scanSign 82 = .ok (.iadd, 1) := by decide +kernel
theorem dX7_scanSign_83 : decode cX7_scanSign 83 = .ok (.ireturn, 1) := by decide +kernel
theorem dX7_pairKind_0 : decode cX7_pairKind 0 = .ok (.iload_n 0, 1) := by decide +kernel
theorem dX7_pairKind_1 : decode cX7_pairKind 1 = .ok (.bipush 60, 2) := by decide +kernel
theorem dX7_pairKind_3 : decode cX7_pairKind 3 = .ok (.if_icmp .ne 12, 3) := by decide +kernel
theorem dX7_pairKind_6 : decode cX7_pairKind 6 = .ok (.iload_n 1, 1) := by decide +kernel
theorem dX7_pairKind_7 : decode cX7_pairKind 7 = .ok (.bipush 61, 2) := by decide +kernel
theorem dX7_pairKind_9 : decode cX7_pairKind 9 = .ok (.if_icmp .ne 6, 3) := by decide +kernel
theorem dX7_pairKind_12 : decode cX7_pairKind 12 = .ok (.bipush 29, 2) := by decide +kernel
theorem dX7_pairKind_14 : decode cX7_pairKind 14 = .ok (.ireturn, 1) := by decide +kernel
theorem dX7_pairKind_15 : decode cX7_pairKind 15 = .ok (.iload_n 0, 1) := by decide +kernel
theorem dX7_pairKind_16 : decode cX7_pairKind 16 = .ok (.bipush 60, 2) := by decide +kernel
theorem dX7_pairKind_18 : decode cX7_pairKind 18 = .ok (.if_icmp .ne 12, 3) := by decide +kernel
theorem dX7_pairKind_21 : decode cX7_pairKind 21 = .ok (.iload_n 1, 1) := by decide +kernel
theorem dX7_pairKind_22 : decode cX7_pairKind 22 = .ok (.bipush 62, 2) := by decide +kernel
theorem dX7_pairKind_24 : decode cX7_pairKind 24 = .ok (.if_icmp .ne 6, 3) := by decide +kernel
theorem dX7_pairKind_27 : decode cX7_pairKind 27 = .ok (.bipush 31, 2) := by decide +kernel
theorem dX7_pairKind_29 : decode cX7_pairKind 29 = .ok (.ireturn, 1) := by decide +kernel
theorem dX7_pairKind_30 : decode cX7_pairKind 30 = .ok (.iload_n 0, 1) := by decide +kernel
theorem dX7_pairKind_31 : decode cX7_pairKind 31 = .ok (.bipush 62, 2) := by decide +kernel
theorem dX7_pairKind_33 : decode cX7_pairKind 33 = .ok (.if_icmp .ne 14, 3) := by decide +kernel
theorem dX7_pairKind_36 : decode cX7_pairKind 36 = .ok (.iload_n 1, 1) := by decide +kernel
theorem dX7_pairKind_37 : decode cX7_pairKind 37 = .ok (.bipush 61, 2) := by decide +kernel
theorem dX7_pairKind_39 : decode cX7_pairKind 39 = .ok (.if_icmp .ne 8, 3) := by decide +kernel
theorem dX7_pairKind_42 : decode cX7_pairKind 42 = .ok (.bipush 32, 2) := by decide +kernel
theorem dX7_pairKind_44 : decode cX7_pairKind 44 = .ok (.goto 5, 3) := by decide +kernel
theorem dX7_pairKind_47 : decode cX7_pairKind 47 = .ok (.bipush 37, 2) := by decide +kernel
theorem dX7_pairKind_49 : decode cX7_pairKind 49 = .ok (.ireturn, 1) := by decide +kernel
theorem dX7_signKind_0 : decode cX7_signKind 0 = .ok (.iload_n 0, 1) := by decide +kernel
theorem dX7_signKind_1 : decode cX7_signKind 1 = .ok (.tableswitch 137 40 62 #[110, 113, 122, 116, 137, 119, 137, 125, 137, 137, 137, 137, 137, 137, 137, 137, 137, 137, 137, 107, 128, 131, 134], 107) := by decide +kernel
theorem dX7_signKind_108 : decode cX7_signKind 108 = .ok (.bipush 21, 2) := by decide +kernel
theorem dX7_signKind_110 : decode cX7_signKind 110 = .ok (.ireturn, 1) := by decide +kernel
theorem dX7_signKind_111 : decode cX7_signKind 111 = .ok (.bipush 22, 2) := by decide +kernel
theorem dX7_signKind_113 : decode cX7_signKind 113 = .ok (.ireturn, 1) := by decide +kernel
theorem dX7_signKind_114 : decode cX7_signKind 114 = .ok (.bipush 23, 2) := by decide +kernel
theorem dX7_signKind_116 : decode cX7_signKind 116 = .ok (.ireturn, 1) := by decide +kernel
theorem dX7_signKind_117 : decode cX7_signKind 117 = .ok (.bipush 24, 2) := by decide +kernel
theorem dX7_signKind_119 : decode cX7_signKind 119 = .ok (.ireturn, 1) := by decide +kernel
theorem dX7_signKind_120 : decode cX7_signKind 120 = .ok (.bipush 25, 2) := by decide +kernel
theorem dX7_signKind_122 : decode cX7_signKind 122 = .ok (.ireturn, 1) := by decide +kernel
theorem dX7_signKind_123 : decode cX7_signKind 123 = .ok (.bipush 26, 2) := by decide +kernel
theorem dX7_signKind_125 : decode cX7_signKind 125 = .ok (.ireturn, 1) := by decide +kernel
theorem dX7_signKind_126 : decode cX7_signKind 126 = .ok (.bipush 27, 2) := by decide +kernel
theorem dX7_signKind_128 : decode cX7_signKind 128 = .ok (.ireturn, 1) := by decide +kernel
theorem dX7_signKind_129 : decode cX7_signKind 129 = .ok (.bipush 28, 2) := by decide +kernel
theorem dX7_signKind_131 : decode cX7_signKind 131 = .ok (.ireturn, 1) := by decide +kernel
theorem dX7_signKind_132 : decode cX7_signKind 132 = .ok (.bipush 30, 2) := by decide +kernel
theorem dX7_signKind_134 : decode cX7_signKind 134 = .ok (.ireturn, 1) := by decide +kernel
theorem dX7_signKind_135 : decode cX7_signKind 135 = .ok (.bipush 33, 2) := by decide +kernel
theorem dX7_signKind_137 : decode cX7_signKind 137 = .ok (.ireturn, 1) := by decide +kernel
theorem dX7_signKind_138 : decode cX7_signKind 138 = .ok (.bipush 37, 2) := by decide +kernel
theorem dX7_signKind_140 : decode cX7_signKind 140 = .ok (.ireturn, 1) := by decide +kernel
theorem dX7_isLetter_0 : decode cX7_isLetter 0 = .ok (.iload_n 0, 1) := by decide +kernel
theorem dX7_isLetter_1 : decode cX7_isLetter 1 = .ok (.bipush 97, 2) := by decide +kernel
theorem dX7_isLetter_3 : decode cX7_isLetter 3 = .ok (.if_icmp .lt 13, 3) := by decide +kernel
theorem dX7_isLetter_6 : decode cX7_isLetter 6 = .ok (.iload_n 0, 1) := by decide +kernel
theorem dX7_isLetter_7 : decode cX7_isLetter 7 = .ok (.bipush 122, 2) := by decide +kernel
theorem dX7_isLetter_9 : decode cX7_isLetter 9 = .ok (.if_icmp .gt 7, 3) := by decide +kernel
theorem dX7_isLetter_12 : decode cX7_isLetter 12 = .ok (.iconst 1, 1) := by decide +kernel
theorem dX7_isLetter_13 : decode cX7_isLetter 13 = .ok (.goto 4, 3) := by decide +kernel
theorem dX7_isLetter_16 : decode cX7_isLetter 16 = .ok (.iconst 0, 1) := by decide +kernel
theorem dX7_isLetter_17 : decode cX7_isLetter 17 = .ok (.ireturn, 1) := by decide +kernel
theorem dX7_isDigit_0 : decode cX7_isDigit 0 = .ok (.iload_n 0, 1) := by decide +kernel
theorem dX7_isDigit_1 : decode cX7_isDigit 1 = .ok (.bipush 48, 2) := by decide +kernel
theorem dX7_isDigit_3 : decode cX7_isDigit 3 = .ok (.if_icmp .lt 13, 3) := by decide +kernel
theorem dX7_isDigit_6 : decode cX7_isDigit 6 = .ok (.iload_n 0, 1) := by decide +kernel
theorem dX7_isDigit_7 : decode cX7_isDigit 7 = .ok (.bipush 57, 2) := by decide +kernel
theorem dX7_isDigit_9 : decode cX7_isDigit 9 = .ok (.if_icmp .gt 7, 3) := by decide +kernel
theorem dX7_isDigit_12 : decode cX7_isDigit 12 = .ok (.iconst 1, 1) := by decide +kernel
theorem dX7_isDigit_13 : decode cX7_isDigit 13 = .ok (.goto 4, 3) := by decide +kernel
theorem dX7_isDigit_16 : decode cX7_isDigit 16 = .ok (.iconst 0, 1) := by decide +kernel
theorem dX7_isDigit_17 : decode cX7_isDigit 17 = .ok (.ireturn, 1) := by decide +kernel
