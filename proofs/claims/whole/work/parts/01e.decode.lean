theorem dX12_sends_293 : decode cX12_sends 293 = .ok (.iload_n 3, 1) := by decide +kernel
theorem dX12_sends_294 : decode cX12_sends 294 = .ok (.invokevirtual 203, 3) := by decide +kernel
theorem dX12_sends_297 : decode cX12_sends 297 = .ok (.aload_n 0, 1) := by decide +kernel
theorem dX12_sends_298 : decode cX12_sends 298 = .ok (.iload_n 2, 1) := by decide +kernel
theorem dX12_sends_299 : decode cX12_sends 299 = .ok (.iload_n 3, 1) := by decide +kernel
theorem dX12_sends_300 : decode cX12_sends 300 = .ok (.invokevirtual 186, 3) := by decide +kernel
theorem dX12_sends_303 : decode cX12_sends 303 = .ok (.ireturn, 1) := by decide +kernel
theorem dX12_sum_0 : decode cX12_sum 0 = .ok (.lload_n 1, 1) := by decide +kernel
theorem dX12_sum_1 : decode cX12_sum 1 = .ok (.lload_n 3, 1) := by decide +kernel
theorem dX12_sum_2 : decode cX12_sum 2 = .ok (.ladd, 1) := by decide +kernel
theorem dX12_sum_3 : decode cX12_sum 3 = .ok (.lstore 5, 2) := by decide +kernel
theorem dX12_sum_5 : decode cX12_sum 5 = .ok (.aload_n 0, 1) := by decide +kernel
theorem dX12_sum_6 : decode cX12_sum 6 = .ok (.aload_n 0, 1) := by decide +kernel
theorem dX12_sum_7 : decode cX12_sum 7 = .ok (.getfield 211, 3) := by decide +kernel
theorem dX12_sum_10 : decode cX12_sum 10 = .ok (.ifCond .ne 54, 3) := by decide +kernel
theorem dX12_sum_13 : decode cX12_sum 13 = .ok (.lload_n 1, 1) := by decide +kernel
theorem dX12_sum_14 : decode cX12_sum 14 = .ok (.lconst 0, 1) := by decide +kernel
theorem dX12_sum_15 : decode cX12_sum 15 = .ok (.lcmp, 1) := by decide +kernel
theorem dX12_sum_16 : decode cX12_sum 16 = .ok (.ifCond .lt 7, 3) := by decide +kernel
theorem dX12_sum_19 : decode cX12_sum 19 = .ok (.iconst 1, 1) := by decide +kernel
theorem dX12_sum_20 : decode cX12_sum 20 = .ok (.goto 4, 3) := by decide +kernel
theorem dX12_sum_23 : decode cX12_sum 23 = .ok (.iconst 0, 1) := by decide +kernel
theorem dX12_sum_24 : decode cX12_sum 24 = .ok (.lload_n 3, 1) := by decide +kernel
theorem dX12_sum_25 : decode cX12_sum 25 = .ok (.lconst 0, 1) := by decide +kernel
theorem dX12_sum_26 : decode cX12_sum 26 = .ok (.lcmp, 1) := by decide +kernel
theorem dX12_sum_27 : decode cX12_sum 27 = .ok (.ifCond .lt 7, 3) := by decide +kernel
theorem dX12_sum_30 : decode cX12_sum 30 = .ok (.iconst 1, 1) := by decide +kernel
theorem dX12_sum_31 : decode cX12_sum 31 = .ok (.goto 4, 3) := by decide +kernel
theorem dX12_sum_34 : decode cX12_sum 34 = .ok (.iconst 0, 1) := by decide +kernel
theorem dX12_sum_35 : decode cX12_sum 35 = .ok (.if_icmp .ne 33, 3) := by decide +kernel
theorem dX12_sum_38 : decode cX12_sum 38 = .ok (.lload 5, 2) := by decide +kernel
theorem dX12_sum_40 : decode cX12_sum 40 = .ok (.lconst 0, 1) := by decide +kernel
theorem dX12_sum_41 : decode cX12_sum 41 = .ok (.lcmp, 1) := by decide +kernel
theorem dX12_sum_42 : decode cX12_sum 42 = .ok (.ifCond .lt 7, 3) := by decide +kernel
theorem dX12_sum_45 : decode cX12_sum 45 = .ok (.iconst 1, 1) := by decide +kernel
theorem dX12_sum_46 : decode cX12_sum 46 = .ok (.goto 4, 3) := by decide +kernel
theorem dX12_sum_49 : decode cX12_sum 49 = .ok (.iconst 0, 1) := by decide +kernel
theorem dX12_sum_50 : decode cX12_sum 50 = .ok (.lload_n 1, 1) := by decide +kernel
theorem dX12_sum_51 : decode cX12_sum 51 = .ok (.lconst 0, 1) := by decide +kernel
theorem dX12_sum_52 : decode cX12_sum 52 = .ok (.lcmp, 1) := by decide +kernel
theorem dX12_sum_53 : decode cX12_sum 53 = .ok (.ifCond .lt 7, 3) := by decide +kernel
theorem dX12_sum_56 : decode cX12_sum 56 = .ok (.iconst 1, 1) := by decide +kernel
theorem dX12_sum_57 : decode cX12_sum 57 = .ok (.goto 4, 3) := by decide +kernel
theorem dX12_sum_60 : decode cX12_sum 60 = .ok (.iconst 0, 1) := by decide +kernel
theorem dX12_sum_61 : decode cX12_sum 61 = .ok (.if_icmp .eq 7, 3) := by decide +kernel
theorem dX12_sum_64 : decode cX12_sum 64 = .ok (.iconst 1, 1) := by decide +kernel
theorem dX12_sum_65 : decode cX12_sum 65 = .ok (.goto 4, 3) := by decide +kernel
theorem dX12_sum_68 : decode cX12_sum 68 = .ok (.iconst 0, 1) := by decide +kernel
theorem dX12_sum_69 : decode cX12_sum 69 = .ok (.putfield 211, 3) := by decide +kernel
theorem dX12_sum_72 : decode cX12_sum 72 = .ok (.lload 5, 2) := by decide +kernel
theorem dX12_sum_74 : decode cX12_sum 74 = .ok (.lreturn, 1) := by decide +kernel
theorem dX12_common_0 : decode cX12_common 0 = .ok (.lload_n 0, 1) := by decide +kernel
theorem dX12_common_1 : decode cX12_common 1 = .ok (.lconst 0, 1) := by decide +kernel
theorem dX12_common_2 : decode cX12_common 2 = .ok (.lcmp, 1) := by decide +kernel
theorem dX12_common_3 : decode cX12_common 3 = .ok (.ifCond .le 8, 3) := by decide +kernel
theorem dX12_common_6 : decode cX12_common 6 = .ok (.lload_n 0, 1) := by decide +kernel
theorem dX12_common_7 : decode cX12_common 7 = .ok (.lneg, 1) := by decide +kernel
theorem dX12_common_8 : decode cX12_common 8 = .ok (.goto 4, 3) := by decide +kernel
theorem dX12_common_11 : decode cX12_common 11 = .ok (.lload_n 0, 1) := by decide +kernel
theorem dX12_common_12 : decode cX12_common 12 = .ok (.lstore 4, 2) := by decide +kernel
theorem dX12_common_14 : decode cX12_common 14 = .ok (.lload_n 2, 1) := by decide +kernel
theorem dX12_common_15 : decode cX12_common 15 = .ok (.lconst 0, 1) := by decide +kernel
theorem dX12_common_16 : decode cX12_common 16 = .ok (.lcmp, 1) := by decide +kernel
theorem dX12_common_17 : decode cX12_common 17 = .ok (.ifCond .le 8, 3) := by decide +kernel
theorem dX12_common_20 : decode cX12_common 20 = .ok (.lload_n 2, 1) := by decide +kernel
theorem dX12_common_21 : decode cX12_common 21 = .ok (.lneg, 1) := by decide +kernel
theorem dX12_common_22 : decode cX12_common 22 = .ok (.goto 4, 3) := by decide +kernel
theorem dX12_common_25 : decode cX12_common 25 = .ok (.lload_n 2, 1) := by decide +kernel
theorem dX12_common_26 : decode cX12_common 26 = .ok (.lstore 6, 2) := by decide +kernel
theorem dX12_common_28 : decode cX12_common 28 = .ok (.lload 6, 2) := by decide +kernel
theorem dX12_common_30 : decode cX12_common 30 = .ok (.lconst 0, 1) := by decide +kernel
theorem dX12_common_31 : decode cX12_common 31 = .ok (.lcmp, 1) := by decide +kernel
theorem dX12_common_32 : decode cX12_common 32 = .ok (.ifCond .eq 21, 3) := by decide +kernel
theorem dX12_common_35 : decode cX12_common 35 = .ok (.lload 4, 2) := by decide +kernel
theorem dX12_common_37 : decode cX12_common 37 = .ok (.lload 6, 2) := by decide +kernel
theorem dX12_common_39 : decode cX12_common 39 = .ok (.lrem, 1) := by decide +kernel
theorem dX12_common_40 : decode cX12_common 40 = .ok (.lstore 8, 2) := by decide +kernel
theorem dX12_common_42 : decode cX12_common 42 = .ok (.lload 6, 2) := by decide +kernel
theorem dX12_common_44 : decode cX12_common 44 = .ok (.lstore 4, 2) := by decide +kernel
theorem dX12_common_46 : decode cX12_common 46 = .ok (.lload 8, 2) := by decide +kernel
theorem dX12_common_48 : decode cX12_common 48 = .ok (.lstore 6, 2) := by decide +kernel
theorem dX12_common_50 : decode cX12_common 50 = .ok (.goto (-22), 3) := by decide +kernel
theorem dX12_common_53 : decode cX12_common 53 = .ok (.lload 4, 2) := by decide +kernel
theorem dX12_common_55 : decode cX12_common 55 = .ok (.lreturn, 1) := by decide +kernel
theorem dX12_joined_0 : decode cX12_joined 0 = .ok (.iload_n 2, 1) := by decide +kernel
theorem dX12_joined_1 : decode cX12_joined 1 = .ok (.tableswitch 108 0 3 #[31, 45, 59, 84], 31) := by decide +kernel
theorem dX12_joined_32 : decode cX12_joined 32 = .ok (.lload_n 3, 1) := by decide +kernel
theorem dX12_joined_33 : decode cX12_joined 33 = .ok (.lload 5, 2) := by decide +kernel
theorem dX12_joined_35 : decode cX12_joined 35 = .ok (.lcmp, 1) := by decide +kernel
theorem dX12_joined_36 : decode cX12_joined 36 = .ok (.ifCond .le 7, 3) := by decide +kernel
theorem dX12_joined_39 : decode cX12_joined 39 = .ok (.lload_n 3, 1) := by decide +kernel
theorem dX12_joined_40 : decode cX12_joined 40 = .ok (.goto 5, 3) := by decide +kernel
theorem dX12_joined_43 : decode cX12_joined 43 = .ok (.lload 5, 2) := by decide +kernel
theorem dX12_joined_45 : decode cX12_joined 45 = .ok (.lreturn, 1) := by decide +kernel
theorem dX12_joined_46 : decode cX12_joined 46 = .ok (.lload_n 3, 1) := by decide +kernel
theorem dX12_joined_47 : decode cX12_joined 47 = .ok (.lload 5, 2) := by decide +kernel
theorem dX12_joined_49 : decode cX12_joined 49 = .ok (.lcmp, 1) := by decide +kernel
theorem dX12_joined_50 : decode cX12_joined 50 = .ok (.ifCond .ge 7, 3) := by decide +kernel
theorem dX12_joined_53 : decode cX12_joined 53 = .ok (.lload_n 3, 1) := by decide +kernel
theorem dX12_joined_54 : decode cX12_joined 54 = .ok (.goto 5, 3) := by decide +kernel
theorem dX12_joined_57 : decode cX12_joined 57 = .ok (.lload 5, 2) := by decide +kernel
theorem dX12_joined_59 : decode cX12_joined 59 = .ok (.lreturn, 1) := by decide +kernel
theorem dX12_joined_60 : decode cX12_joined 60 = .ok (.aload_n 0, 1) := by decide +kernel
theorem dX12_joined_61 : decode cX12_joined 61 = .ok (.getfield 7, 3) := by decide +kernel
theorem dX12_joined_64 : decode cX12_joined 64 = .ok (.iload_n 1, 1) := by decide +kernel
theorem dX12_joined_65 : decode cX12_joined 65 = .ok (.iaload, 1) := by decide +kernel
theorem dX12_joined_66 : decode cX12_joined 66 = .ok (.iconst 1, 1) := by decide +kernel
theorem dX12_joined_67 : decode cX12_joined 67 = .ok (.if_icmp .ne 10, 3) := by decide +kernel
theorem dX12_joined_70 : decode cX12_joined 70 = .ok (.lload_n 3, 1) := by decide +kernel
theorem dX12_joined_71 : decode cX12_joined 71 = .ok (.lload 5, 2) := by decide +kernel
theorem dX12_joined_73 : decode cX12_joined 73 = .ok (.lor, 1) := by decide +kernel
theorem dX12_joined_74 : decode cX12_joined 74 = .ok (.goto 10, 3) := by decide +kernel
theorem dX12_joined_77 : decode cX12_joined 77 = .ok (.aload_n 0, 1) := by decide +kernel
theorem dX12_joined_78 : decode cX12_joined 78 = .ok (.lload_n 3, 1) := by decide +kernel
theorem dX12_joined_79 : decode cX12_joined 79 = .ok (.lload 5, 2) := by decide +kernel
theorem dX12_joined_81 : decode cX12_joined 81 = .ok (.invokevirtual 215, 3) := by decide +kernel
theorem dX12_joined_84 : decode cX12_joined 84 = .ok (.lreturn, 1) := by decide +kernel
theorem dX12_joined_85 : decode cX12_joined 85 = .ok (.aload_n 0, 1) := by decide +kernel
theorem dX12_joined_86 : decode cX12_joined 86 = .ok (.getfield 7, 3) := by decide +kernel
theorem dX12_joined_89 : decode cX12_joined 89 = .ok (.iload_n 1, 1) := by decide +kernel
theorem dX12_joined_90 : decode cX12_joined 90 = .ok (.iaload, 1) := by decide +kernel
theorem dX12_joined_91 : decode cX12_joined 91 = .ok (.iconst 1, 1) := by decide +kernel
theorem dX12_joined_92 : decode cX12_joined 92 = .ok (.if_icmp .ne 10, 3) := by decide +kernel
theorem dX12_joined_95 : decode cX12_joined 95 = .ok (.lload_n 3, 1) := by decide +kernel
theorem dX12_joined_96 : decode cX12_joined 96 = .ok (.lload 5, 2) := by decide +kernel
theorem dX12_joined_98 : decode cX12_joined 98 = .ok (.land, 1) := by decide +kernel
theorem dX12_joined_99 : decode cX12_joined 99 = .ok (.goto 9, 3) := by decide +kernel
theorem dX12_joined_102 : decode cX12_joined 102 = .ok (.lload_n 3, 1) := by decide +kernel
theorem dX12_joined_103 : decode cX12_joined 103 = .ok (.lload 5, 2) := by decide +kernel
theorem dX12_joined_105 : decode cX12_joined 105 = .ok (.invokestatic 219, 3) := by decide +kernel
theorem dX12_joined_108 : decode cX12_joined 108 = .ok (.lreturn, 1) := by decide +kernel
theorem dX12_joined_109 : decode cX12_joined 109 = .ok (.lload 5, 2) := by decide +kernel
theorem dX12_joined_111 : decode cX12_joined 111 = .ok (.lreturn, 1) := by decide +kernel
theorem dX12_ruleOf_0 : decode cX12_ruleOf 0 = .ok (.iconst 0, 1) := by decide +kernel
theorem dX12_ruleOf_1 : decode cX12_ruleOf 1 = .ok (.istore_n 2, 1) := by decide +kernel
theorem dX12_ruleOf_2 : decode cX12_ruleOf 2 = .ok (.iload_n 2, 1) := by decide +kernel
theorem dX12_ruleOf_3 : decode cX12_ruleOf 3 = .ok (.aload_n 0, 1) := by decide +kernel
theorem dX12_ruleOf_4 : decode cX12_ruleOf 4 = .ok (.getfield 110, 3) := by decide +kernel
theorem dX12_ruleOf_7 : decode cX12_ruleOf 7 = .ok (.if_icmp .ge 26, 3) := by decide +kernel
theorem dX12_ruleOf_10 : decode cX12_ruleOf 10 = .ok (.aload_n 0, 1) := by decide +kernel
theorem dX12_ruleOf_11 : decode cX12_ruleOf 11 = .ok (.getfield 60, 3) := by decide +kernel
theorem dX12_ruleOf_14 : decode cX12_ruleOf 14 = .ok (.iload_n 2, 1) := by decide +kernel
theorem dX12_ruleOf_15 : decode cX12_ruleOf 15 = .ok (.iaload, 1) := by decide +kernel
theorem dX12_ruleOf_16 : decode cX12_ruleOf 16 = .ok (.iload_n 1, 1) := by decide +kernel
theorem dX12_ruleOf_17 : decode cX12_ruleOf 17 = .ok (.if_icmp .ne 10, 3) := by decide +kernel
theorem dX12_ruleOf_20 : decode cX12_ruleOf 20 = .ok (.aload_n 0, 1) := by decide +kernel
theorem dX12_ruleOf_21 : decode cX12_ruleOf 21 = .ok (.getfield 63, 3) := by decide +kernel
theorem dX12_ruleOf_24 : decode cX12_ruleOf 24 = .ok (.iload_n 2, 1) := by decide +kernel
theorem dX12_ruleOf_25 : decode cX12_ruleOf 25 = .ok (.iaload, 1) := by decide +kernel
theorem dX12_ruleOf_26 : decode cX12_ruleOf 26 = .ok (.ireturn, 1) := by decide +kernel
theorem dX12_ruleOf_27 : decode cX12_ruleOf 27 = .ok (.iinc 2 1, 3) := by decide +kernel
theorem dX12_ruleOf_30 : decode cX12_ruleOf 30 = .ok (.goto (-28), 3) := by decide +kernel
theorem dX12_ruleOf_33 : decode cX12_ruleOf 33 = .ok (.bipush (-9), 2) := by decide +kernel
theorem dX12_ruleOf_35 : decode cX12_ruleOf 35 = .ok (.ireturn, 1) := by decide +kernel
theorem dX12_joinedAll_0 : decode cX12_joinedAll 0 = .ok (.aload_n 0, 1) := by decide +kernel
theorem dX12_joinedAll_1 : decode cX12_joinedAll 1 = .ok (.iconst 0, 1) := by decide +kernel
theorem dX12_joinedAll_2 : decode cX12_joinedAll 2 = .ok (.putfield 211, 3) := by decide +kernel
theorem dX12_joinedAll_5 : decode cX12_joinedAll 5 = .ok (.lconst 0, 1) := by decide +kernel
theorem dX12_joinedAll_6 : decode cX12_joinedAll 6 = .ok (.lstore 4, 2) := by decide +kernel
theorem dX12_joinedAll_8 : decode cX12_joinedAll 8 = .ok (.iconst 0, 1) := by decide +kernel
theorem dX12_joinedAll_9 : decode cX12_joinedAll 9 = .ok (.istore 6, 2) := by decide +kernel
theorem dX12_joinedAll_11 : decode cX12_joinedAll 11 = .ok (.aload_n 0, 1) := by decide +kernel
theorem dX12_joinedAll_12 : decode cX12_joinedAll 12 = .ok (.iload_n 1, 1) := by decide +kernel
theorem dX12_joinedAll_13 : decode cX12_joinedAll 13 = .ok (.iload_n 2, 1) := by decide +kernel
theorem dX12_joinedAll_14 : decode cX12_joinedAll 14 = .ok (.invokevirtual 186, 3) := by decide +kernel
theorem dX12_joinedAll_17 : decode cX12_joinedAll 17 = .ok (.istore 7, 2) := by decide +kernel
theorem dX12_joinedAll_19 : decode cX12_joinedAll 19 = .ok (.iconst 0, 1) := by decide +kernel
theorem dX12_joinedAll_20 : decode cX12_joinedAll 20 = .ok (.istore 8, 2) := by decide +kernel
theorem dX12_joinedAll_22 : decode cX12_joinedAll 22 = .ok (.iload 8, 2) := by decide +kernel
theorem dX12_joinedAll_24 : decode cX12_joinedAll 24 = .ok (.iload 7, 2) := by decide +kernel
theorem dX12_joinedAll_26 : decode cX12_joinedAll 26 = .ok (.if_icmp .ge 152, 3) := by decide +kernel
theorem dX12_joinedAll_29 : decode cX12_joinedAll 29 = .ok (.bipush (-9), 2) := by decide +kernel
theorem dX12_joinedAll_31 : decode cX12_joinedAll 31 = .ok (.istore 9, 2) := by decide +kernel
theorem dX12_joinedAll_33 : decode cX12_joinedAll 33 = .ok (.sipush 164, 3) := by decide +kernel
theorem dX12_joinedAll_36 : decode cX12_joinedAll 36 = .ok (.iload_n 2, 1) := by decide +kernel
theorem dX12_joinedAll_37 : decode cX12_joinedAll 37 = .ok (.imul, 1) := by decide +kernel
theorem dX12_joinedAll_38 : decode cX12_joinedAll 38 = .ok (.istore 10, 2) := by decide +kernel
theorem dX12_joinedAll_40 : decode cX12_joinedAll 40 = .ok (.iload 10, 2) := by decide +kernel
theorem dX12_joinedAll_42 : decode cX12_joinedAll 42 = .ok (.sipush 164, 3) := by decide +kernel
theorem dX12_joinedAll_45 : decode cX12_joinedAll 45 = .ok (.iload_n 2, 1) := by decide +kernel
theorem dX12_joinedAll_46 : decode cX12_joinedAll 46 = .ok (.imul, 1) := by decide +kernel
theorem dX12_joinedAll_47 : decode cX12_joinedAll 47 = .ok (.sipush 164, 3) := by decide +kernel
theorem dX12_joinedAll_50 : decode cX12_joinedAll 50 = .ok (.iadd, 1) := by decide +kernel
theorem dX12_joinedAll_51 : decode cX12_joinedAll 51 = .ok (.if_icmp .ge 80, 3) := by decide +kernel
theorem dX12_joinedAll_54 : decode cX12_joinedAll 54 = .ok (.aload_n 0, 1) := by decide +kernel
theorem dX12_joinedAll_55 : decode cX12_joinedAll 55 = .ok (.getfield 39, 3) := by decide +kernel
theorem dX12_joinedAll_58 : decode cX12_joinedAll 58 = .ok (.iload 10, 2) := by decide +kernel
theorem dX12_joinedAll_60 : decode cX12_joinedAll 60 = .ok (.iaload, 1) := by decide +kernel
theorem dX12_joinedAll_61 : decode cX12_joinedAll 61 = .ok (.iload_n 1, 1) := by decide +kernel
theorem dX12_joinedAll_62 : decode cX12_joinedAll 62 = .ok (.invokestatic 183, 3) := by decide +kernel
theorem dX12_joinedAll_65 : decode cX12_joinedAll 65 = .ok (.ifCond .eq 19, 3) := by decide +kernel
theorem dX12_joinedAll_68 : decode cX12_joinedAll 68 = .ok (.aload_n 0, 1) := by decide +kernel
theorem dX12_joinedAll_69 : decode cX12_joinedAll 69 = .ok (.getfield 17, 3) := by decide +kernel
theorem dX12_joinedAll_72 : decode cX12_joinedAll 72 = .ok (.iload 10, 2) := by decide +kernel
theorem dX12_joinedAll_74 : decode cX12_joinedAll 74 = .ok (.iaload, 1) := by decide +kernel
theorem dX12_joinedAll_75 : decode cX12_joinedAll 75 = .ok (.iload 6, 2) := by decide +kernel
theorem dX12_joinedAll_77 : decode cX12_joinedAll 77 = .ok (.if_icmp .le 7, 3) := by decide +kernel
theorem dX12_joinedAll_80 : decode cX12_joinedAll 80 = .ok (.iconst 1, 1) := by decide +kernel
theorem dX12_joinedAll_81 : decode cX12_joinedAll 81 = .ok (.goto 4, 3) := by decide +kernel
theorem dX12_joinedAll_84 : decode cX12_joinedAll 84 = .ok (.iconst 0, 1) := by decide +kernel
theorem dX12_joinedAll_85 : decode cX12_joinedAll 85 = .ok (.istore 11, 2) := by decide +kernel
theorem dX12_joinedAll_87 : decode cX12_joinedAll 87 = .ok (.iload 11, 2) := by decide +kernel
theorem dX12_joinedAll_89 : decode cX12_joinedAll 89 = .ok (.ifCond .eq 32, 3) := by decide +kernel
theorem dX12_joinedAll_92 : decode cX12_joinedAll 92 = .ok (.iload 9, 2) := by decide +kernel
theorem dX12_joinedAll_94 : decode cX12_joinedAll 94 = .ok (.bipush (-9), 2) := by decide +kernel
theorem dX12_joinedAll_96 : decode cX12_joinedAll 96 = .ok (.if_icmp .eq 20, 3) := by decide +kernel
theorem dX12_joinedAll_99 : decode cX12_joinedAll 99 = .ok (.aload_n 0, 1) := by decide +kernel
theorem dX12_joinedAll_100 : decode cX12_joinedAll 100 = .ok (.getfield 17, 3) := by decide +kernel
theorem dX12_joinedAll_103 : decode cX12_joinedAll 103 = .ok (.iload 10, 2) := by decide +kernel
theorem dX12_joinedAll_105 : decode cX12_joinedAll 105 = .ok (.iaload, 1) := by decide +kernel
theorem dX12_joinedAll_106 : decode cX12_joinedAll 106 = .ok (.aload_n 0, 1) := by decide +kernel
theorem dX12_joinedAll_107 : decode cX12_joinedAll 107 = .ok (.getfield 17, 3) := by decide +kernel
theorem dX12_joinedAll_110 : decode cX12_joinedAll 110 = .ok (.iload 9, 2) := by decide +kernel
theorem dX12_joinedAll_112 : decode cX12_joinedAll 112 = .ok (.iaload, 1) := by decide +kernel
theorem dX12_joinedAll_113 : decode cX12_joinedAll 113 = .ok (.if_icmp .ge 8, 3) := by decide +kernel
theorem dX12_joinedAll_116 : decode cX12_joinedAll 116 = .ok (.iload 10, 2) := by decide +kernel
theorem dX12_joinedAll_118 : decode cX12_joinedAll 118 = .ok (.goto 5, 3) := by decide +kernel
theorem dX12_joinedAll_121 : decode cX12_joinedAll 121 = .ok (.iload 9, 2) := by decide +kernel
theorem dX12_joinedAll_123 : decode cX12_joinedAll 123 = .ok (.istore 9, 2) := by decide +kernel
theorem dX12_joinedAll_125 : decode cX12_joinedAll 125 = .ok (.iinc 10 1, 3) := by decide +kernel
theorem dX12_joinedAll_128 : decode cX12_joinedAll 128 = .ok (.goto (-88), 3) := by decide +kernel
theorem dX12_joinedAll_131 : decode cX12_joinedAll 131 = .ok (.aload_n 0, 1) := by decide +kernel
theorem dX12_joinedAll_132 : decode cX12_joinedAll 132 = .ok (.getfield 17, 3) := by decide +kernel
theorem dX12_joinedAll_135 : decode cX12_joinedAll 135 = .ok (.iload 9, 2) := by decide +kernel
theorem dX12_joinedAll_137 : decode cX12_joinedAll 137 = .ok (.iaload, 1) := by decide +kernel
theorem dX12_joinedAll_138 : decode cX12_joinedAll 138 = .ok (.istore 6, 2) := by decide +kernel
theorem dX12_joinedAll_140 : decode cX12_joinedAll 140 = .ok (.iload 8, 2) := by decide +kernel
theorem dX12_joinedAll_142 : decode cX12_joinedAll 142 = .ok (.ifCond .ne 13, 3) := by decide +kernel
theorem dX12_joinedAll_145 : decode cX12_joinedAll 145 = .ok (.aload_n 0, 1) := by decide +kernel
theorem dX12_joinedAll_146 : decode cX12_joinedAll 146 = .ok (.getfield 13, 3) := by decide +kernel
theorem dX12_joinedAll_149 : decode cX12_joinedAll 149 = .ok (.iload 9, 2) := by decide +kernel
theorem dX12_joinedAll_151 : decode cX12_joinedAll 151 = .ok (.laload, 1) := by decide +kernel
theorem dX12_joinedAll_152 : decode cX12_joinedAll 152 = .ok (.goto 18, 3) := by decide +kernel
theorem dX12_joinedAll_155 : decode cX12_joinedAll 155 = .ok (.aload_n 0, 1) := by decide +kernel
theorem dX12_joinedAll_156 : decode cX12_joinedAll 156 = .ok (.iload_n 2, 1) := by decide +kernel
theorem dX12_joinedAll_157 : decode cX12_joinedAll 157 = .ok (.iload_n 3, 1) := by decide +kernel
theorem dX12_joinedAll_158 : decode cX12_joinedAll 158 = .ok (.lload 4, 2) := by decide +kernel
theorem dX12_joinedAll_160 : decode cX12_joinedAll 160 = .ok (.aload_n 0, 1) := by decide +kernel
theorem dX12_joinedAll_161 : decode cX12_joinedAll 161 = .ok (.getfield 13, 3) := by decide +kernel
theorem dX12_joinedAll_164 : decode cX12_joinedAll 164 = .ok (.iload 9, 2) := by decide +kernel
theorem dX12_joinedAll_166 : decode cX12_joinedAll 166 = .ok (.laload, 1) := by decide +kernel
theorem dX12_joinedAll_167 : decode cX12_joinedAll 167 = .ok (.invokevirtual 222, 3) := by decide +kernel
theorem dX12_joinedAll_170 : decode cX12_joinedAll 170 = .ok (.lstore 4, 2) := by decide +kernel
theorem dX12_joinedAll_172 : decode cX12_joinedAll 172 = .ok (.iinc 8 1, 3) := by decide +kernel
theorem dX12_joinedAll_175 : decode cX12_joinedAll 175 = .ok (.goto (-153), 3) := by decide +kernel
theorem dX12_joinedAll_178 : decode cX12_joinedAll 178 = .ok (.iload_n 3, 1) := by decide +kernel
theorem dX12_joinedAll_179 : decode cX12_joinedAll 179 = .ok (.iconst 3, 1) := by decide +kernel
theorem dX12_joinedAll_180 : decode cX12_joinedAll 180 = .ok (.if_icmp .ne 52, 3) := by decide +kernel
theorem dX12_joinedAll_183 : decode cX12_joinedAll 183 = .ok (.aload_n 0, 1) := by decide +kernel
theorem dX12_joinedAll_184 : decode cX12_joinedAll 184 = .ok (.getfield 7, 3) := by decide +kernel
theorem dX12_joinedAll_187 : decode cX12_joinedAll 187 = .ok (.iload_n 2, 1) := by decide +kernel
theorem dX12_joinedAll_188 : decode cX12_joinedAll 188 = .ok (.iaload, 1) := by decide +kernel
theorem dX12_joinedAll_189 : decode cX12_joinedAll 189 = .ok (.ifCond .ne 43, 3) := by decide +kernel
theorem dX12_joinedAll_192 : decode cX12_joinedAll 192 = .ok (.lload 4, 2) := by decide +kernel
theorem dX12_joinedAll_194 : decode cX12_joinedAll 194 = .ok (.lconst 0, 1) := by decide +kernel
theorem dX12_joinedAll_195 : decode cX12_joinedAll 195 = .ok (.lcmp, 1) := by decide +kernel
theorem dX12_joinedAll_196 : decode cX12_joinedAll 196 = .ok (.ifCond .le 9, 3) := by decide +kernel
theorem dX12_joinedAll_199 : decode cX12_joinedAll 199 = .ok (.lload 4, 2) := by decide +kernel
theorem dX12_joinedAll_201 : decode cX12_joinedAll 201 = .ok (.lneg, 1) := by decide +kernel
theorem dX12_joinedAll_202 : decode cX12_joinedAll 202 = .ok (.goto 5, 3) := by decide +kernel
theorem dX12_joinedAll_205 : decode cX12_joinedAll 205 = .ok (.lload 4, 2) := by decide +kernel
theorem dX12_joinedAll_207 : decode cX12_joinedAll 207 = .ok (.lstore 4, 2) := by decide +kernel
theorem dX12_joinedAll_209 : decode cX12_joinedAll 209 = .ok (.aload_n 0, 1) := by decide +kernel
theorem dX12_joinedAll_210 : decode cX12_joinedAll 210 = .ok (.lload 4, 2) := by decide +kernel
theorem dX12_joinedAll_212 : decode cX12_joinedAll 212 = .ok (.ldc2_w 226, 3) := by decide +kernel
theorem dX12_joinedAll_215 : decode cX12_joinedAll 215 = .ok (.lcmp, 1) := by decide +kernel
theorem dX12_joinedAll_216 : decode cX12_joinedAll 216 = .ok (.ifCond .ne 7, 3) := by decide +kernel
theorem dX12_joinedAll_219 : decode cX12_joinedAll 219 = .ok (.iconst 1, 1) := by decide +kernel
theorem dX12_joinedAll_220 : decode cX12_joinedAll 220 = .ok (.goto 4, 3) := by decide +kernel
theorem dX12_joinedAll_223 : decode cX12_joinedAll 223 = .ok (.iconst 0, 1) := by decide +kernel
theorem dX12_joinedAll_224 : decode cX12_joinedAll 224 = .ok (.putfield 211, 3) := by decide +kernel
theorem dX12_joinedAll_227 : decode cX12_joinedAll 227 = .ok (.lload 4, 2) := by decide +kernel
theorem dX12_joinedAll_229 : decode cX12_joinedAll 229 = .ok (.lneg, 1) := by decide +kernel
theorem dX12_joinedAll_230 : decode cX12_joinedAll 230 = .ok (.lstore 4, 2) := by decide +kernel
theorem dX12_joinedAll_232 : decode cX12_joinedAll 232 = .ok (.lload 4, 2) := by decide +kernel
theorem dX12_joinedAll_234 : decode cX12_joinedAll 234 = .ok (.lreturn, 1) := by decide +kernel
theorem dX12_merges_0 : decode cX12_merges 0 = .ok (.aload_n 0, 1) := by decide +kernel
theorem dX12_merges_1 : decode cX12_merges 1 = .ok (.iload_n 1, 1) := by decide +kernel
theorem dX12_merges_2 : decode cX12_merges 2 = .ok (.invokevirtual 123, 3) := by decide +kernel
theorem dX12_merges_5 : decode cX12_merges 5 = .ok (.ifCond .eq 11, 3) := by decide +kernel
theorem dX12_merges_8 : decode cX12_merges 8 = .ok (.aload_n 0, 1) := by decide +kernel
theorem dX12_merges_9 : decode cX12_merges 9 = .ok (.iload_n 2, 1) := by decide +kernel
theorem dX12_merges_10 : decode cX12_merges 10 = .ok (.invokevirtual 119, 3) := by decide +kernel
theorem dX12_merges_13 : decode cX12_merges 13 = .ok (.ifCond .ne 5, 3) := by decide +kernel
theorem dX12_merges_16 : decode cX12_merges 16 = .ok (.iconst (-1), 1) := by decide +kernel
theorem dX12_merges_17 : decode cX12_merges 17 = .ok (.ireturn, 1) := by decide +kernel
theorem dX12_merges_18 : decode cX12_merges 18 = .ok (.aload_n 0, 1) := by decide +kernel
theorem dX12_merges_19 : decode cX12_merges 19 = .ok (.iload_n 2, 1) := by decide +kernel
theorem dX12_merges_20 : decode cX12_merges 20 = .ok (.invokevirtual 228, 3) := by decide +kernel
theorem dX12_merges_23 : decode cX12_merges 23 = .ok (.istore_n 3, 1) := by decide +kernel
theorem dX12_merges_24 : decode cX12_merges 24 = .ok (.iload_n 3, 1) := by decide +kernel
theorem dX12_merges_25 : decode cX12_merges 25 = .ok (.bipush (-9), 2) := by decide +kernel
theorem dX12_merges_27 : decode cX12_merges 27 = .ok (.if_icmp .eq 13, 3) := by decide +kernel
theorem dX12_merges_30 : decode cX12_merges 30 = .ok (.aload_n 0, 1) := by decide +kernel
theorem dX12_merges_31 : decode cX12_merges 31 = .ok (.iload_n 1, 1) := by decide +kernel
theorem dX12_merges_32 : decode cX12_merges 32 = .ok (.iload_n 2, 1) := by decide +kernel
theorem dX12_merges_33 : decode cX12_merges 33 = .ok (.invokevirtual 186, 3) := by decide +kernel
theorem dX12_merges_36 : decode cX12_merges 36 = .ok (.iconst 2, 1) := by decide +kernel
theorem dX12_merges_37 : decode cX12_merges 37 = .ok (.if_icmp .ge 6, 3) := by decide +kernel
theorem dX12_merges_40 : decode cX12_merges 40 = .ok (.bipush (-2), 2) := by decide +kernel
theorem dX12_merges_42 : decode cX12_merges 42 = .ok (.ireturn, 1) := by decide +kernel
theorem dX12_merges_43 : decode cX12_merges 43 = .ok (.aload_n 0, 1) := by decide +kernel
theorem dX12_merges_44 : decode cX12_merges 44 = .ok (.getfield 42, 3) := by decide +kernel
theorem dX12_merges_47 : decode cX12_merges 47 = .ok (.iconst 4, 1) := by decide +kernel
theorem dX12_merges_48 : decode cX12_merges 48 = .ok (.iload_n 2, 1) := by decide +kernel
theorem dX12_merges_49 : decode cX12_merges 49 = .ok (.imul, 1) := by decide +kernel
theorem dX12_merges_50 : decode cX12_merges 50 = .ok (.iload_n 1, 1) := by decide +kernel
theorem dX12_merges_51 : decode cX12_merges 51 = .ok (.iadd, 1) := by decide +kernel
theorem dX12_merges_52 : decode cX12_merges 52 = .ok (.iaload, 1) := by decide +kernel
theorem dX12_merges_53 : decode cX12_merges 53 = .ok (.bipush 40, 2) := by decide +kernel
theorem dX12_merges_55 : decode cX12_merges 55 = .ok (.if_icmp .ne 6, 3) := by decide +kernel
theorem dX12_merges_58 : decode cX12_merges 58 = .ok (.bipush (-3), 2) := by decide +kernel
theorem dX12_merges_60 : decode cX12_merges 60 = .ok (.ireturn, 1) := by decide +kernel
theorem dX12_merges_61 : decode cX12_merges 61 = .ok (.aload_n 0, 1) := by decide +kernel
theorem dX12_merges_62 : decode cX12_merges 62 = .ok (.iload_n 1, 1) := by decide +kernel
theorem dX12_merges_63 : decode cX12_merges 63 = .ok (.iload_n 2, 1) := by decide +kernel
theorem dX12_merges_64 : decode cX12_merges 64 = .ok (.iload_n 3, 1) := by decide +kernel
theorem dX12_merges_65 : decode cX12_merges 65 = .ok (.invokevirtual 232, 3) := by decide +kernel
theorem dX12_merges_68 : decode cX12_merges 68 = .ok (.lstore 4, 2) := by decide +kernel
theorem dX12_merges_70 : decode cX12_merges 70 = .ok (.aload_n 0, 1) := by decide +kernel
theorem dX12_merges_71 : decode cX12_merges 71 = .ok (.getfield 211, 3) := by decide +kernel
theorem dX12_merges_74 : decode cX12_merges 74 = .ok (.ifCond .eq 6, 3) := by decide +kernel
theorem dX12_merges_77 : decode cX12_merges 77 = .ok (.bipush (-5), 2) := by decide +kernel
theorem dX12_merges_79 : decode cX12_merges 79 = .ok (.ireturn, 1) := by decide +kernel
theorem dX12_merges_80 : decode cX12_merges 80 = .ok (.sipush 164, 3) := by decide +kernel
theorem dX12_merges_83 : decode cX12_merges 83 = .ok (.iload_n 2, 1) := by decide +kernel
theorem dX12_merges_84 : decode cX12_merges 84 = .ok (.imul, 1) := by decide +kernel
theorem dX12_merges_85 : decode cX12_merges 85 = .ok (.istore 6, 2) := by decide +kernel
theorem dX12_merges_87 : decode cX12_merges 87 = .ok (.iload 6, 2) := by decide +kernel
theorem dX12_merges_89 : decode cX12_merges 89 = .ok (.sipush 164, 3) := by decide +kernel
theorem dX12_merges_92 : decode cX12_merges 92 = .ok (.iload_n 2, 1) := by decide +kernel
theorem dX12_merges_93 : decode cX12_merges 93 = .ok (.imul, 1) := by decide +kernel
theorem dX12_merges_94 : decode cX12_merges 94 = .ok (.sipush 164, 3) := by decide +kernel
theorem dX12_merges_97 : decode cX12_merges 97 = .ok (.iadd, 1) := by decide +kernel
theorem dX12_merges_98 : decode cX12_merges 98 = .ok (.if_icmp .ge 54, 3) := by decide +kernel
theorem dX12_merges_101 : decode cX12_merges 101 = .ok (.aload_n 0, 1) := by decide +kernel
theorem dX12_merges_102 : decode cX12_merges 102 = .ok (.getfield 39, 3) := by decide +kernel
theorem dX12_merges_105 : decode cX12_merges 105 = .ok (.iload 6, 2) := by decide +kernel
theorem dX12_merges_107 : decode cX12_merges 107 = .ok (.iaload, 1) := by decide +kernel
theorem dX12_merges_108 : decode cX12_merges 108 = .ok (.iload_n 1, 1) := by decide +kernel
theorem dX12_merges_109 : decode cX12_merges 109 = .ok (.invokestatic 183, 3) := by decide +kernel
theorem dX12_merges_112 : decode cX12_merges 112 = .ok (.ifCond .eq 34, 3) := by decide +kernel
theorem dX12_merges_115 : decode cX12_merges 115 = .ok (.aload_n 0, 1) := by decide +kernel
theorem dX12_merges_116 : decode cX12_merges 116 = .ok (.getfield 26, 3) := by decide +kernel
theorem dX12_merges_119 : decode cX12_merges 119 = .ok (.iload 6, 2) := by decide +kernel
theorem dX12_merges_121 : decode cX12_merges 121 = .ok (.iconst 1, 1) := by decide +kernel
theorem dX12_merges_122 : decode cX12_merges 122 = .ok (.bastore, 1) := by decide +kernel
theorem dX12_merges_123 : decode cX12_merges 123 = .ok (.aload_n 0, 1) := by decide +kernel
theorem dX12_merges_124 : decode cX12_merges 124 = .ok (.getfield 36, 3) := by decide +kernel
theorem dX12_merges_127 : decode cX12_merges 127 = .ok (.iload 6, 2) := by decide +kernel
theorem dX12_merges_129 : decode cX12_merges 129 = .ok (.iconst 1, 1) := by decide +kernel
theorem dX12_merges_130 : decode cX12_merges 130 = .ok (.bastore, 1) := by decide +kernel
theorem dX12_merges_131 : decode cX12_merges 131 = .ok (.aload_n 0, 1) := by decide +kernel
theorem dX12_merges_132 : decode cX12_merges 132 = .ok (.getfield 39, 3) := by decide +kernel
theorem dX12_merges_135 : decode cX12_merges 135 = .ok (.iload 6, 2) := by decide +kernel
theorem dX12_merges_137 : decode cX12_merges 137 = .ok (.dup2, 1) := by decide +kernel
theorem dX12_merges_138 : decode cX12_merges 138 = .ok (.iaload, 1) := by decide +kernel
theorem dX12_merges_139 : decode cX12_merges 139 = .ok (.iconst 1, 1) := by decide +kernel
theorem dX12_merges_140 : decode cX12_merges 140 = .ok (.iload_n 1, 1) := by decide +kernel
theorem dX12_merges_141 : decode cX12_merges 141 = .ok (.ishl, 1) := by decide +kernel
theorem dX12_merges_142 : decode cX12_merges 142 = .ok (.iconst (-1), 1) := by decide +kernel
theorem dX12_merges_143 : decode cX12_merges 143 = .ok (.ixor, 1) := by decide +kernel
theorem dX12_merges_144 : decode cX12_merges 144 = .ok (.iand, 1) := by decide +kernel
theorem dX12_merges_145 : decode cX12_merges 145 = .ok (.iastore, 1) := by decide +kernel
theorem dX12_merges_146 : decode cX12_merges 146 = .ok (.iinc 6 1, 3) := by decide +kernel
theorem dX12_merges_149 : decode cX12_merges 149 = .ok (.goto (-62), 3) := by decide +kernel
theorem dX12_merges_152 : decode cX12_merges 152 = .ok (.iload_n 2, 1) := by decide +kernel
theorem dX12_merges_153 : decode cX12_merges 153 = .ok (.iload_n 1, 1) := by decide +kernel
theorem dX12_merges_154 : decode cX12_merges 154 = .ok (.aload_n 0, 1) := by decide +kernel
theorem dX12_merges_155 : decode cX12_merges 155 = .ok (.getfield 42, 3) := by decide +kernel
theorem dX12_merges_158 : decode cX12_merges 158 = .ok (.iconst 4, 1) := by decide +kernel
theorem dX12_merges_159 : decode cX12_merges 159 = .ok (.iload_n 2, 1) := by decide +kernel
theorem dX12_merges_160 : decode cX12_merges 160 = .ok (.imul, 1) := by decide +kernel
theorem dX12_merges_161 : decode cX12_merges 161 = .ok (.iload_n 1, 1) := by decide +kernel
theorem dX12_merges_162 : decode cX12_merges 162 = .ok (.iadd, 1) := by decide +kernel
theorem dX12_merges_163 : decode cX12_merges 163 = .ok (.iaload, 1) := by decide +kernel
theorem dX12_merges_164 : decode cX12_merges 164 = .ok (.iconst 1, 1) := by decide +kernel
theorem dX12_merges_165 : decode cX12_merges 165 = .ok (.iadd, 1) := by decide +kernel
theorem dX12_merges_166 : decode cX12_merges 166 = .ok (.invokestatic 199, 3) := by decide +kernel
theorem dX12_merges_169 : decode cX12_merges 169 = .ok (.istore 6, 2) := by decide +kernel
theorem dX12_merges_171 : decode cX12_merges 171 = .ok (.iconst 0, 1) := by decide +kernel
theorem dX12_merges_172 : decode cX12_merges 172 = .ok (.istore 7, 2) := by decide +kernel
theorem dX12_merges_174 : decode cX12_merges 174 = .ok (.iload 7, 2) := by decide +kernel
theorem dX12_merges_176 : decode cX12_merges 176 = .ok (.iconst 4, 1) := by decide +kernel
theorem dX12_merges_177 : decode cX12_merges 177 = .ok (.if_icmp .ge 59, 3) := by decide +kernel
theorem dX12_merges_180 : decode cX12_merges 180 = .ok (.aload_n 0, 1) := by decide +kernel
theorem dX12_merges_181 : decode cX12_merges 181 = .ok (.getfield 20, 3) := by decide +kernel
theorem dX12_merges_184 : decode cX12_merges 184 = .ok (.iconst 4, 1) := by decide +kernel
theorem dX12_merges_185 : decode cX12_merges 185 = .ok (.iload 6, 2) := by decide +kernel
theorem dX12_merges_187 : decode cX12_merges 187 = .ok (.imul, 1) := by decide +kernel
theorem dX12_merges_188 : decode cX12_merges 188 = .ok (.iload 7, 2) := by decide +kernel
theorem dX12_merges_190 : decode cX12_merges 190 = .ok (.iadd, 1) := by decide +kernel
theorem dX12_merges_191 : decode cX12_merges 191 = .ok (.aload_n 0, 1) := by decide +kernel
theorem dX12_merges_192 : decode cX12_merges 192 = .ok (.getfield 45, 3) := by decide +kernel
theorem dX12_merges_195 : decode cX12_merges 195 = .ok (.iload_n 2, 1) := by decide +kernel
theorem dX12_merges_196 : decode cX12_merges 196 = .ok (.iload_n 1, 1) := by decide +kernel
theorem dX12_merges_197 : decode cX12_merges 197 = .ok (.invokestatic 196, 3) := by decide +kernel
theorem dX12_merges_200 : decode cX12_merges 200 = .ok (.iload 7, 2) := by decide +kernel
theorem dX12_merges_202 : decode cX12_merges 202 = .ok (.iadd, 1) := by decide +kernel
theorem dX12_merges_203 : decode cX12_merges 203 = .ok (.iaload, 1) := by decide +kernel
theorem dX12_merges_204 : decode cX12_merges 204 = .ok (.iastore, 1) := by decide +kernel
theorem dX12_merges_205 : decode cX12_merges 205 = .ok (.aload_n 0, 1) := by decide +kernel
theorem dX12_merges_206 : decode cX12_merges 206 = .ok (.getfield 23, 3) := by decide +kernel
theorem dX12_merges_209 : decode cX12_merges 209 = .ok (.iconst 4, 1) := by decide +kernel
theorem dX12_merges_210 : decode cX12_merges 210 = .ok (.iload 6, 2) := by decide +kernel
theorem dX12_merges_212 : decode cX12_merges 212 = .ok (.imul, 1) := by decide +kernel
theorem dX12_merges_213 : decode cX12_merges 213 = .ok (.iload 7, 2) := by decide +kernel
theorem dX12_merges_215 : decode cX12_merges 215 = .ok (.iadd, 1) := by decide +kernel
theorem dX12_merges_216 : decode cX12_merges 216 = .ok (.aload_n 0, 1) := by decide +kernel
theorem dX12_merges_217 : decode cX12_merges 217 = .ok (.getfield 45, 3) := by decide +kernel
theorem dX12_merges_220 : decode cX12_merges 220 = .ok (.iload_n 2, 1) := by decide +kernel
theorem dX12_merges_221 : decode cX12_merges 221 = .ok (.iload_n 1, 1) := by decide +kernel
theorem dX12_merges_222 : decode cX12_merges 222 = .ok (.invokestatic 196, 3) := by decide +kernel
theorem dX12_merges_225 : decode cX12_merges 225 = .ok (.iload 7, 2) := by decide +kernel
theorem dX12_merges_227 : decode cX12_merges 227 = .ok (.iadd, 1) := by decide +kernel
theorem dX12_merges_228 : decode cX12_merges 228 = .ok (.iaload, 1) := by decide +kernel
theorem dX12_merges_229 : decode cX12_merges 229 = .ok (.iastore, 1) := by decide +kernel
theorem dX12_merges_230 : decode cX12_merges 230 = .ok (.iinc 7 1, 3) := by decide +kernel
theorem dX12_merges_233 : decode cX12_merges 233 = .ok (.goto (-59), 3) := by decide +kernel
theorem dX12_merges_236 : decode cX12_merges 236 = .ok (.aload_n 0, 1) := by decide +kernel
theorem dX12_merges_237 : decode cX12_merges 237 = .ok (.iload_n 2, 1) := by decide +kernel
theorem dX12_merges_238 : decode cX12_merges 238 = .ok (.iload_n 1, 1) := by decide +kernel
theorem dX12_merges_239 : decode cX12_merges 239 = .ok (.lload 4, 2) := by decide +kernel
theorem dX12_merges_241 : decode cX12_merges 241 = .ok (.invokevirtual 207, 3) := by decide +kernel
theorem dX12_merges_244 : decode cX12_merges 244 = .ok (.ireturn, 1) := by decide +kernel
theorem dX12_rules_0 : decode cX12_rules 0 = .ok (.aload_n 0, 1) := by decide +kernel
theorem dX12_rules_1 : decode cX12_rules 1 = .ok (.iload_n 1, 1) := by decide +kernel
theorem dX12_rules_2 : decode cX12_rules 2 = .ok (.invokevirtual 119, 3) := by decide +kernel
theorem dX12_rules_5 : decode cX12_rules 5 = .ok (.ifCond .eq 15, 3) := by decide +kernel
theorem dX12_rules_8 : decode cX12_rules 8 = .ok (.iload_n 2, 1) := by decide +kernel
theorem dX12_rules_9 : decode cX12_rules 9 = .ok (.i2l, 1) := by decide +kernel
theorem dX12_rules_10 : decode cX12_rules 10 = .ok (.lconst 0, 1) := by decide +kernel
theorem dX12_rules_11 : decode cX12_rules 11 = .ok (.ldc2_w 236, 3) := by decide +kernel
theorem dX12_rules_14 : decode cX12_rules 14 = .ok (.invokestatic 113, 3) := by decide +kernel
theorem dX12_rules_17 : decode cX12_rules 17 = .ok (.ifCond .ne 5, 3) := by decide +kernel
theorem dX12_rules_20 : decode cX12_rules 20 = .ok (.iconst (-1), 1) := by decide +kernel
theorem dX12_rules_21 : decode cX12_rules 21 = .ok (.ireturn, 1) := by decide +kernel
theorem dX12_rules_22 : decode cX12_rules 22 = .ok (.iconst 0, 1) := by decide +kernel
theorem dX12_rules_23 : decode cX12_rules 23 = .ok (.istore_n 3, 1) := by decide +kernel
theorem dX12_rules_24 : decode cX12_rules 24 = .ok (.iload_n 3, 1) := by decide +kernel
theorem dX12_rules_25 : decode cX12_rules 25 = .ok (.aload_n 0, 1) := by decide +kernel
theorem dX12_rules_26 : decode cX12_rules 26 = .ok (.getfield 110, 3) := by decide +kernel
theorem dX12_rules_29 : decode cX12_rules 29 = .ok (.if_icmp .ge 29, 3) := by decide +kernel
theorem dX12_rules_32 : decode cX12_rules 32 = .ok (.aload_n 0, 1) := by decide +kernel
theorem dX12_rules_33 : decode cX12_rules 33 = .ok (.getfield 60, 3) := by decide +kernel
theorem dX12_rules_36 : decode cX12_rules 36 = .ok (.iload_n 3, 1) := by decide +kernel
theorem dX12_rules_37 : decode cX12_rules 37 = .ok (.iaload, 1) := by decide +kernel
theorem dX12_rules_38 : decode cX12_rules 38 = .ok (.iload_n 1, 1) := by decide +kernel
theorem dX12_rules_39 : decode cX12_rules 39 = .ok (.if_icmp .ne 13, 3) := by decide +kernel
theorem dX12_rules_42 : decode cX12_rules 42 = .ok (.aload_n 0, 1) := by decide +kernel
theorem dX12_rules_43 : decode cX12_rules 43 = .ok (.getfield 63, 3) := by decide +kernel
theorem dX12_rules_46 : decode cX12_rules 46 = .ok (.iload_n 3, 1) := by decide +kernel
theorem dX12_rules_47 : decode cX12_rules 47 = .ok (.iload_n 2, 1) := by decide +kernel
theorem dX12_rules_48 : decode cX12_rules 48 = .ok (.iastore, 1) := by decide +kernel
theorem dX12_rules_49 : decode cX12_rules 49 = .ok (.bipush (-9), 2) := by decide +kernel
theorem dX12_rules_51 : decode cX12_rules 51 = .ok (.ireturn, 1) := by decide +kernel
theorem dX12_rules_52 : decode cX12_rules 52 = .ok (.iinc 3 1, 3) := by decide +kernel
theorem dX12_rules_55 : decode cX12_rules 55 = .ok (.goto (-31), 3) := by decide +kernel
theorem dX12_rules_58 : decode cX12_rules 58 = .ok (.bipush (-9), 2) := by decide +kernel
theorem dX12_rules_60 : decode cX12_rules 60 = .ok (.istore_n 3, 1) := by decide +kernel
theorem dX12_rules_61 : decode cX12_rules 61 = .ok (.aload_n 0, 1) := by decide +kernel
theorem dX12_rules_62 : decode cX12_rules 62 = .ok (.getfield 110, 3) := by decide +kernel
theorem dX12_rules_65 : decode cX12_rules 65 = .ok (.iconst 2, 1) := by decide +kernel
theorem dX12_rules_66 : decode cX12_rules 66 = .ok (.if_icmp .ne 39, 3) := by decide +kernel
theorem dX12_rules_69 : decode cX12_rules 69 = .ok (.aload_n 0, 1) := by decide +kernel
theorem dX12_rules_70 : decode cX12_rules 70 = .ok (.getfield 60, 3) := by decide +kernel
theorem dX12_rules_73 : decode cX12_rules 73 = .ok (.iconst 0, 1) := by decide +kernel
theorem dX12_rules_74 : decode cX12_rules 74 = .ok (.iaload, 1) := by decide +kernel
theorem dX12_rules_75 : decode cX12_rules 75 = .ok (.istore_n 3, 1) := by decide +kernel
theorem dX12_rules_76 : decode cX12_rules 76 = .ok (.aload_n 0, 1) := by decide +kernel
theorem dX12_rules_77 : decode cX12_rules 77 = .ok (.getfield 60, 3) := by decide +kernel
theorem dX12_rules_80 : decode cX12_rules 80 = .ok (.iconst 0, 1) := by decide +kernel
theorem dX12_rules_81 : decode cX12_rules 81 = .ok (.aload_n 0, 1) := by decide +kernel
theorem dX12_rules_82 : decode cX12_rules 82 = .ok (.getfield 60, 3) := by decide +kernel
theorem dX12_rules_85 : decode cX12_rules 85 = .ok (.iconst 1, 1) := by decide +kernel
theorem dX12_rules_86 : decode cX12_rules 86 = .ok (.iaload, 1) := by decide +kernel
theorem dX12_rules_87 : decode cX12_rules 87 = .ok (.iastore, 1) := by decide +kernel
theorem dX12_rules_88 : decode cX12_rules 88 = .ok (.aload_n 0, 1) := by decide +kernel
theorem dX12_rules_89 : decode cX12_rules 89 = .ok (.getfield 63, 3) := by decide +kernel
theorem dX12_rules_92 : decode cX12_rules 92 = .ok (.iconst 0, 1) := by decide +kernel
theorem dX12_rules_93 : decode cX12_rules 93 = .ok (.aload_n 0, 1) := by decide +kernel
theorem dX12_rules_94 : decode cX12_rules 94 = .ok (.getfield 63, 3) := by decide +kernel
theorem dX12_rules_97 : decode cX12_rules 97 = .ok (.iconst 1, 1) := by decide +kernel
theorem dX12_rules_98 : decode cX12_rules 98 = .ok (.iaload, 1) := by decide +kernel
theorem dX12_rules_99 : decode cX12_rules 99 = .ok (.iastore, 1) := by decide +kernel
theorem dX12_rules_100 : decode cX12_rules 100 = .ok (.aload_n 0, 1) := by decide +kernel
theorem dX12_rules_101 : decode cX12_rules 101 = .ok (.iconst 1, 1) := by decide +kernel
theorem dX12_rules_102 : decode cX12_rules 102 = .ok (.putfield 110, 3) := by decide +kernel
theorem dX12_rules_105 : decode cX12_rules 105 = .ok (.aload_n 0, 1) := by decide +kernel
theorem dX12_rules_106 : decode cX12_rules 106 = .ok (.getfield 60, 3) := by decide +kernel
theorem dX12_rules_109 : decode cX12_rules 109 = .ok (.aload_n 0, 1) := by decide +kernel
theorem dX12_rules_110 : decode cX12_rules 110 = .ok (.getfield 110, 3) := by decide +kernel
theorem dX12_rules_113 : decode cX12_rules 113 = .ok (.iload_n 1, 1) := by decide +kernel
theorem dX12_rules_114 : decode cX12_rules 114 = .ok (.iastore, 1) := by decide +kernel
theorem dX12_rules_115 : decode cX12_rules 115 = .ok (.aload_n 0, 1) := by decide +kernel
theorem dX12_rules_116 : decode cX12_rules 116 = .ok (.getfield 63, 3) := by decide +kernel
theorem dX12_rules_119 : decode cX12_rules 119 = .ok (.aload_n 0, 1) := by decide +kernel
theorem dX12_rules_120 : decode cX12_rules 120 = .ok (.getfield 110, 3) := by decide +kernel
theorem dX12_rules_123 : decode cX12_rules 123 = .ok (.iload_n 2, 1) := by decide +kernel
theorem dX12_rules_124 : decode cX12_rules 124 = .ok (.iastore, 1) := by decide +kernel
theorem dX12_rules_125 : decode cX12_rules 125 = .ok (.aload_n 0, 1) := by decide +kernel
theorem dX12_rules_126 : decode cX12_rules 126 = .ok (.dup, 1) := by decide +kernel
theorem dX12_rules_127 : decode cX12_rules 127 = .ok (.getfield 110, 3) := by decide +kernel
theorem dX12_rules_130 : decode cX12_rules 130 = .ok (.iconst 1, 1) := by decide +kernel
theorem dX12_rules_131 : decode cX12_rules 131 = .ok (.iadd, 1) := by decide +kernel
theorem dX12_rules_132 : decode cX12_rules 132 = .ok (.putfield 110, 3) := by decide +kernel
theorem dX12_rules_135 : decode cX12_rules 135 = .ok (.iload_n 3, 1) := by decide +kernel
theorem dX12_rules_136 : decode cX12_rules 136 = .ok (.ireturn, 1) := by decide +kernel
theorem dX12_row_0 : decode cX12_row 0 = .ok (.aload_n 0, 1) := by decide +kernel
theorem dX12_row_1 : decode cX12_row 1 = .ok (.iload_n 1, 1) := by decide +kernel
theorem dX12_row_2 : decode cX12_row 2 = .ok (.invokevirtual 123, 3) := by decide +kernel
theorem dX12_row_5 : decode cX12_row 5 = .ok (.ifCond .eq 34, 3) := by decide +kernel
theorem dX12_row_8 : decode cX12_row 8 = .ok (.aload_n 0, 1) := by decide +kernel
theorem dX12_row_9 : decode cX12_row 9 = .ok (.iload_n 2, 1) := by decide +kernel
theorem dX12_row_10 : decode cX12_row 10 = .ok (.invokevirtual 119, 3) := by decide +kernel
theorem dX12_row_13 : decode cX12_row 13 = .ok (.ifCond .eq 26, 3) := by decide +kernel
theorem dX12_row_16 : decode cX12_row 16 = .ok (.aload_n 0, 1) := by decide +kernel
theorem dX12_row_17 : decode cX12_row 17 = .ok (.iload_n 3, 1) := by decide +kernel
theorem dX12_row_18 : decode cX12_row 18 = .ok (.invokevirtual 123, 3) := by decide +kernel
theorem dX12_row_21 : decode cX12_row 21 = .ok (.ifCond .eq 18, 3) := by decide +kernel
theorem dX12_row_24 : decode cX12_row 24 = .ok (.aload_n 0, 1) := by decide +kernel
theorem dX12_row_25 : decode cX12_row 25 = .ok (.getfield 45, 3) := by decide +kernel
theorem dX12_row_28 : decode cX12_row 28 = .ok (.iload_n 2, 1) := by decide +kernel
theorem dX12_row_29 : decode cX12_row 29 = .ok (.iload_n 1, 1) := by decide +kernel
theorem dX12_row_30 : decode cX12_row 30 = .ok (.invokestatic 196, 3) := by decide +kernel
theorem dX12_row_33 : decode cX12_row 33 = .ok (.iload_n 3, 1) := by decide +kernel
theorem dX12_row_34 : decode cX12_row 34 = .ok (.iadd, 1) := by decide +kernel
theorem dX12_row_35 : decode cX12_row 35 = .ok (.iaload, 1) := by decide +kernel
theorem dX12_row_36 : decode cX12_row 36 = .ok (.goto 4, 3) := by decide +kernel
theorem dX12_row_39 : decode cX12_row 39 = .ok (.iconst (-1), 1) := by decide +kernel
theorem dX12_row_40 : decode cX12_row 40 = .ok (.ireturn, 1) := by decide +kernel
theorem dX12_sibling_0 : decode cX12_sibling 0 = .ok (.aload_n 0, 1) := by decide +kernel
theorem dX12_sibling_1 : decode cX12_sibling 1 = .ok (.iload_n 1, 1) := by decide +kernel
theorem dX12_sibling_2 : decode cX12_sibling 2 = .ok (.invokevirtual 123, 3) := by decide +kernel
theorem dX12_sibling_5 : decode cX12_sibling 5 = .ok (.ifCond .eq 28, 3) := by decide +kernel
theorem dX12_sibling_8 : decode cX12_sibling 8 = .ok (.aload_n 0, 1) := by decide +kernel
theorem dX12_sibling_9 : decode cX12_sibling 9 = .ok (.iload_n 2, 1) := by decide +kernel
theorem dX12_sibling_10 : decode cX12_sibling 10 = .ok (.invokevirtual 119, 3) := by decide +kernel
theorem dX12_sibling_13 : decode cX12_sibling 13 = .ok (.ifCond .eq 20, 3) := by decide +kernel
theorem dX12_sibling_16 : decode cX12_sibling 16 = .ok (.iload_n 3, 1) := by decide +kernel
theorem dX12_sibling_17 : decode cX12_sibling 17 = .ok (.ifCond .lt 16, 3) := by decide +kernel
theorem dX12_sibling_20 : decode cX12_sibling 20 = .ok (.iload 4, 2) := by decide +kernel
theorem dX12_sibling_22 : decode cX12_sibling 22 = .ok (.i2l, 1) := by decide +kernel
theorem dX12_sibling_23 : decode cX12_sibling 23 = .ok (.lconst 0, 1) := by decide +kernel
theorem dX12_sibling_24 : decode cX12_sibling 24 = .ok (.ldc2_w 117, 3) := by decide +kernel
theorem dX12_sibling_27 : decode cX12_sibling 27 = .ok (.invokestatic 113, 3) := by decide +kernel
theorem dX12_sibling_30 : decode cX12_sibling 30 = .ok (.ifCond .ne 7, 3) := by decide +kernel
theorem dX12_sibling_33 : decode cX12_sibling 33 = .ok (.ldc2_w 152, 3) := by decide +kernel
theorem dX12_sibling_36 : decode cX12_sibling 36 = .ok (.lreturn, 1) := by decide +kernel
theorem dX12_sibling_37 : decode cX12_sibling 37 = .ok (.iconst 0, 1) := by decide +kernel
theorem dX12_sibling_38 : decode cX12_sibling 38 = .ok (.istore 5, 2) := by decide +kernel
theorem dX12_sibling_40 : decode cX12_sibling 40 = .ok (.iconst 0, 1) := by decide +kernel
theorem dX12_sibling_41 : decode cX12_sibling 41 = .ok (.istore 6, 2) := by decide +kernel
theorem dX12_sibling_43 : decode cX12_sibling 43 = .ok (.iload 6, 2) := by decide +kernel
theorem dX12_sibling_45 : decode cX12_sibling 45 = .ok (.sipush 164, 3) := by decide +kernel
theorem dX12_sibling_48 : decode cX12_sibling 48 = .ok (.if_icmp .ge 96, 3) := by decide +kernel
theorem dX12_sibling_51 : decode cX12_sibling 51 = .ok (.sipush 164, 3) := by decide +kernel
theorem dX12_sibling_54 : decode cX12_sibling 54 = .ok (.iload_n 2, 1) := by decide +kernel
theorem dX12_sibling_55 : decode cX12_sibling 55 = .ok (.imul, 1) := by decide +kernel
theorem dX12_sibling_56 : decode cX12_sibling 56 = .ok (.iload 6, 2) := by decide +kernel
theorem dX12_sibling_58 : decode cX12_sibling 58 = .ok (.iadd, 1) := by decide +kernel
theorem dX12_sibling_59 : decode cX12_sibling 59 = .ok (.istore 7, 2) := by decide +kernel
theorem dX12_sibling_61 : decode cX12_sibling 61 = .ok (.aload_n 0, 1) := by decide +kernel
theorem dX12_sibling_62 : decode cX12_sibling 62 = .ok (.getfield 39, 3) := by decide +kernel
theorem dX12_sibling_65 : decode cX12_sibling 65 = .ok (.iload 7, 2) := by decide +kernel
theorem dX12_sibling_67 : decode cX12_sibling 67 = .ok (.iaload, 1) := by decide +kernel
theorem dX12_sibling_68 : decode cX12_sibling 68 = .ok (.iload_n 1, 1) := by decide +kernel
theorem dX12_sibling_69 : decode cX12_sibling 69 = .ok (.invokestatic 183, 3) := by decide +kernel
theorem dX12_sibling_72 : decode cX12_sibling 72 = .ok (.ifCond .eq 66, 3) := by decide +kernel
theorem dX12_sibling_75 : decode cX12_sibling 75 = .ok (.iload 5, 2) := by decide +kernel
theorem dX12_sibling_77 : decode cX12_sibling 77 = .ok (.iload_n 3, 1) := by decide +kernel
theorem dX12_sibling_78 : decode cX12_sibling 78 = .ok (.if_icmp .ne 57, 3) := by decide +kernel
theorem dX12_sibling_81 : decode cX12_sibling 81 = .ok (.iload 4, 2) := by decide +kernel
theorem dX12_sibling_83 : decode cX12_sibling 83 = .ok (.ifCond .ne 12, 3) := by decide +kernel
theorem dX12_sibling_86 : decode cX12_sibling 86 = .ok (.iload 6, 2) := by decide +kernel
theorem dX12_sibling_88 : decode cX12_sibling 88 = .ok (.bipush 41, 2) := by decide +kernel
theorem dX12_sibling_90 : decode cX12_sibling 90 = .ok (.idiv, 1) := by decide +kernel
theorem dX12_sibling_91 : decode cX12_sibling 91 = .ok (.i2l, 1) := by decide +kernel
theorem dX12_sibling_92 : decode cX12_sibling 92 = .ok (.goto 42, 3) := by decide +kernel
theorem dX12_sibling_95 : decode cX12_sibling 95 = .ok (.iload 4, 2) := by decide +kernel
theorem dX12_sibling_97 : decode cX12_sibling 97 = .ok (.iconst 1, 1) := by decide +kernel
theorem dX12_sibling_98 : decode cX12_sibling 98 = .ok (.if_icmp .ne 12, 3) := by decide +kernel
theorem dX12_sibling_101 : decode cX12_sibling 101 = .ok (.iload 6, 2) := by decide +kernel
theorem dX12_sibling_103 : decode cX12_sibling 103 = .ok (.bipush 41, 2) := by decide +kernel
theorem dX12_sibling_105 : decode cX12_sibling 105 = .ok (.irem, 1) := by decide +kernel
theorem dX12_sibling_106 : decode cX12_sibling 106 = .ok (.i2l, 1) := by decide +kernel
theorem dX12_sibling_107 : decode cX12_sibling 107 = .ok (.goto 27, 3) := by decide +kernel
theorem dX12_sibling_110 : decode cX12_sibling 110 = .ok (.iload 4, 2) := by decide +kernel
theorem dX12_sibling_112 : decode cX12_sibling 112 = .ok (.iconst 2, 1) := by decide +kernel
theorem dX12_sibling_113 : decode cX12_sibling 113 = .ok (.if_icmp .ne 14, 3) := by decide +kernel
theorem dX12_sibling_116 : decode cX12_sibling 116 = .ok (.aload_n 0, 1) := by decide +kernel
theorem dX12_sibling_117 : decode cX12_sibling 117 = .ok (.getfield 17, 3) := by decide +kernel
theorem dX12_sibling_120 : decode cX12_sibling 120 = .ok (.iload 7, 2) := by decide +kernel
theorem dX12_sibling_122 : decode cX12_sibling 122 = .ok (.iaload, 1) := by decide +kernel
theorem dX12_sibling_123 : decode cX12_sibling 123 = .ok (.i2l, 1) := by decide +kernel
theorem dX12_sibling_124 : decode cX12_sibling 124 = .ok (.goto 10, 3) := by decide +kernel
theorem dX12_sibling_127 : decode cX12_sibling 127 = .ok (.aload_n 0, 1) := by decide +kernel
theorem dX12_sibling_128 : decode cX12_sibling 128 = .ok (.getfield 13, 3) := by decide +kernel
theorem dX12_sibling_131 : decode cX12_sibling 131 = .ok (.iload 7, 2) := by decide +kernel
theorem dX12_sibling_133 : decode cX12_sibling 133 = .ok (.laload, 1) := by decide +kernel
theorem dX12_sibling_134 : decode cX12_sibling 134 = .ok (.lreturn, 1) := by decide +kernel
theorem dX12_sibling_135 : decode cX12_sibling 135 = .ok (.iinc 5 1, 3) := by decide +kernel
theorem dX12_sibling_138 : decode cX12_sibling 138 = .ok (.iinc 6 1, 3) := by decide +kernel
theorem dX12_sibling_141 : decode cX12_sibling 141 = .ok (.goto (-98), 3) := by decide +kernel
theorem dX12_sibling_144 : decode cX12_sibling 144 = .ok (.ldc2_w 238, 3) := by decide +kernel
theorem dX12_sibling_147 : decode cX12_sibling 147 = .ok (.lreturn, 1) := by decide +kernel
theorem dX12_context_0 : decode cX12_context 0 = .ok (.iload_n 1, 1) := by decide +kernel
theorem dX12_context_1 : decode cX12_context 1 = .ok (.invokestatic 193, 3) := by decide +kernel
theorem dX12_context_4 : decode cX12_context 4 = .ok (.ifCond .eq 31, 3) := by decide +kernel
theorem dX12_context_7 : decode cX12_context 7 = .ok (.iload_n 2, 1) := by decide +kernel
theorem dX12_context_8 : decode cX12_context 8 = .ok (.i2l, 1) := by decide +kernel
theorem dX12_context_9 : decode cX12_context 9 = .ok (.ldc2_w 152, 3) := by decide +kernel
theorem dX12_context_12 : decode cX12_context 12 = .ok (.ldc2_w 240, 3) := by decide +kernel
theorem dX12_context_15 : decode cX12_context 15 = .ok (.invokestatic 113, 3) := by decide +kernel
theorem dX12_context_18 : decode cX12_context 18 = .ok (.ifCond .eq 17, 3) := by decide +kernel
theorem dX12_context_21 : decode cX12_context 21 = .ok (.iload_n 2, 1) := by decide +kernel
theorem dX12_context_22 : decode cX12_context 22 = .ok (.ifCond .lt 15, 3) := by decide +kernel
theorem dX12_context_25 : decode cX12_context 25 = .ok (.aload_n 0, 1) := by decide +kernel
theorem dX12_context_26 : decode cX12_context 26 = .ok (.iload_n 2, 1) := by decide +kernel
theorem dX12_context_27 : decode cX12_context 27 = .ok (.iconst 4, 1) := by decide +kernel
theorem dX12_context_28 : decode cX12_context 28 = .ok (.irem, 1) := by decide +kernel
theorem dX12_context_29 : decode cX12_context 29 = .ok (.invokevirtual 123, 3) := by decide +kernel
theorem dX12_context_32 : decode cX12_context 32 = .ok (.ifCond .ne 5, 3) := by decide +kernel
theorem dX12_context_35 : decode cX12_context 35 = .ok (.iconst (-1), 1) := by decide +kernel
theorem dX12_context_36 : decode cX12_context 36 = .ok (.ireturn, 1) := by decide +kernel
theorem dX12_context_37 : decode cX12_context 37 = .ok (.aload_n 0, 1) := by decide +kernel
theorem dX12_context_38 : decode cX12_context 38 = .ok (.getfield 51, 3) := by decide +kernel
theorem dX12_context_41 : decode cX12_context 41 = .ok (.iload_n 1, 1) := by decide +kernel
theorem dX12_context_42 : decode cX12_context 42 = .ok (.iaload, 1) := by decide +kernel
theorem dX12_context_43 : decode cX12_context 43 = .ok (.bipush (-9), 2) := by decide +kernel
theorem dX12_context_45 : decode cX12_context 45 = .ok (.if_icmp .eq 7, 3) := by decide +kernel
theorem dX12_context_48 : decode cX12_context 48 = .ok (.iload_n 2, 1) := by decide +kernel
theorem dX12_context_49 : decode cX12_context 49 = .ok (.ifCond .ge 10, 3) := by decide +kernel
theorem dX12_context_52 : decode cX12_context 52 = .ok (.aload_n 0, 1) := by decide +kernel
theorem dX12_context_53 : decode cX12_context 53 = .ok (.getfield 51, 3) := by decide +kernel
theorem dX12_context_56 : decode cX12_context 56 = .ok (.iload_n 1, 1) := by decide +kernel
theorem dX12_context_57 : decode cX12_context 57 = .ok (.iaload, 1) := by decide +kernel
theorem dX12_context_58 : decode cX12_context 58 = .ok (.ireturn, 1) := by decide +kernel
theorem dX12_context_59 : decode cX12_context 59 = .ok (.iload_n 2, 1) := by decide +kernel
theorem dX12_context_60 : decode cX12_context 60 = .ok (.iconst 4, 1) := by decide +kernel
theorem dX12_context_61 : decode cX12_context 61 = .ok (.if_icmp .ge 16, 3) := by decide +kernel
theorem dX12_context_64 : decode cX12_context 64 = .ok (.aload_n 0, 1) := by decide +kernel
theorem dX12_context_65 : decode cX12_context 65 = .ok (.getfield 54, 3) := by decide +kernel
theorem dX12_context_68 : decode cX12_context 68 = .ok (.iconst 4, 1) := by decide +kernel
theorem dX12_context_69 : decode cX12_context 69 = .ok (.iload_n 1, 1) := by decide +kernel
theorem dX12_context_70 : decode cX12_context 70 = .ok (.imul, 1) := by decide +kernel
theorem dX12_context_71 : decode cX12_context 71 = .ok (.iload_n 2, 1) := by decide +kernel
theorem dX12_context_72 : decode cX12_context 72 = .ok (.iadd, 1) := by decide +kernel
theorem dX12_context_73 : decode cX12_context 73 = .ok (.iaload, 1) := by decide +kernel
theorem dX12_context_74 : decode cX12_context 74 = .ok (.goto 15, 3) := by decide +kernel
theorem dX12_context_77 : decode cX12_context 77 = .ok (.aload_n 0, 1) := by decide +kernel
theorem dX12_context_78 : decode cX12_context 78 = .ok (.getfield 57, 3) := by decide +kernel
theorem dX12_context_81 : decode cX12_context 81 = .ok (.iconst 4, 1) := by decide +kernel
theorem dX12_context_82 : decode cX12_context 82 = .ok (.iload_n 1, 1) := by decide +kernel
theorem dX12_context_83 : decode cX12_context 83 = .ok (.imul, 1) := by decide +kernel
theorem dX12_context_84 : decode cX12_context 84 = .ok (.iload_n 2, 1) := by decide +kernel
theorem dX12_context_85 : decode cX12_context 85 = .ok (.iadd, 1) := by decide +kernel
theorem dX12_context_86 : decode cX12_context 86 = .ok (.iconst 4, 1) := by decide +kernel
theorem dX12_context_87 : decode cX12_context 87 = .ok (.isub, 1) := by decide +kernel
theorem dX12_context_88 : decode cX12_context 88 = .ok (.iaload, 1) := by decide +kernel
theorem dX12_context_89 : decode cX12_context 89 = .ok (.ireturn, 1) := by decide +kernel
theorem dX12_bit_0 : decode cX12_bit 0 = .ok (.iload_n 0, 1) := by decide +kernel
theorem dX12_bit_1 : decode cX12_bit 1 = .ok (.ifCond .eq 7, 3) := by decide +kernel
theorem dX12_bit_4 : decode cX12_bit 4 = .ok (.iconst 1, 1) := by decide +kernel
theorem dX12_bit_5 : decode cX12_bit 5 = .ok (.goto 4, 3) := by decide +kernel
theorem dX12_bit_8 : decode cX12_bit 8 = .ok (.iconst 0, 1) := by decide +kernel
theorem dX12_bit_9 : decode cX12_bit 9 = .ok (.ireturn, 1) := by decide +kernel
theorem dX12_isLost_0 : decode cX12_isLost 0 = .ok (.aload_n 0, 1) := by decide +kernel
theorem dX12_isLost_1 : decode cX12_isLost 1 = .ok (.getfield 39, 3) := by decide +kernel
theorem dX12_isLost_4 : decode cX12_isLost 4 = .ok (.iload_n 1, 1) := by decide +kernel
theorem dX12_isLost_5 : decode cX12_isLost 5 = .ok (.iaload, 1) := by decide +kernel
theorem dX12_isLost_6 : decode cX12_isLost 6 = .ok (.ifCond .ne 16, 3) := by decide +kernel
theorem dX12_isLost_9 : decode cX12_isLost 9 = .ok (.aload_n 0, 1) := by decide +kernel
theorem dX12_isLost_10 : decode cX12_isLost 10 = .ok (.getfield 26, 3) := by decide +kernel
theorem dX12_isLost_13 : decode cX12_isLost 13 = .ok (.iload_n 1, 1) := by decide +kernel
theorem dX12_isLost_14 : decode cX12_isLost 14 = .ok (.baload, 1) := by decide +kernel
theorem dX12_isLost_15 : decode cX12_isLost 15 = .ok (.ifCond .ne 7, 3) := by decide +kernel
theorem dX12_isLost_18 : decode cX12_isLost 18 = .ok (.iconst 1, 1) := by decide +kernel
theorem dX12_isLost_19 : decode cX12_isLost 19 = .ok (.goto 4, 3) := by decide +kernel
theorem dX12_isLost_22 : decode cX12_isLost 22 = .ok (.iconst 0, 1) := by decide +kernel
theorem dX12_isLost_23 : decode cX12_isLost 23 = .ok (.ireturn, 1) := by decide +kernel
theorem dX12_write_0 : decode cX12_write 0 = .ok (.aload_n 0, 1) := by decide +kernel
theorem dX12_write_1 : decode cX12_write 1 = .ok (.iload_n 1, 1) := by decide +kernel
theorem dX12_write_2 : decode cX12_write 2 = .ok (.iload_n 2, 1) := by decide +kernel
theorem dX12_write_3 : decode cX12_write 3 = .ok (.iload_n 3, 1) := by decide +kernel
theorem dX12_write_4 : decode cX12_write 4 = .ok (.invokevirtual 242, 3) := by decide +kernel
theorem dX12_write_7 : decode cX12_write 7 = .ok (.ifCond .eq 16, 3) := by decide +kernel
theorem dX12_write_10 : decode cX12_write 10 = .ok (.iload 4, 2) := by decide +kernel
theorem dX12_write_12 : decode cX12_write 12 = .ok (.i2l, 1) := by decide +kernel
theorem dX12_write_13 : decode cX12_write 13 = .ok (.lconst 0, 1) := by decide +kernel
theorem dX12_write_14 : decode cX12_write 14 = .ok (.ldc2_w 240, 3) := by decide +kernel
theorem dX12_write_17 : decode cX12_write 17 = .ok (.invokestatic 113, 3) := by decide +kernel
theorem dX12_write_20 : decode cX12_write 20 = .ok (.ifCond .ne 7, 3) := by decide +kernel
theorem dX12_write_23 : decode cX12_write 23 = .ok (.ldc2_w 152, 3) := by decide +kernel
theorem dX12_write_26 : decode cX12_write 26 = .ok (.lreturn, 1) := by decide +kernel
theorem dX12_write_27 : decode cX12_write 27 = .ok (.iload_n 1, 1) := by decide +kernel
theorem dX12_write_28 : decode cX12_write 28 = .ok (.iload_n 2, 1) := by decide +kernel
theorem dX12_write_29 : decode cX12_write 29 = .ok (.iload_n 3, 1) := by decide +kernel
theorem dX12_write_30 : decode cX12_write 30 = .ok (.invokestatic 199, 3) := by decide +kernel
theorem dX12_write_33 : decode cX12_write 33 = .ok (.istore 5, 2) := by decide +kernel
theorem dX12_write_35 : decode cX12_write 35 = .ok (.iload 4, 2) := by decide +kernel
theorem dX12_write_37 : decode cX12_write 37 = .ok (.tableswitch 117 0 6 #[43, 51, 60, 72, 84, 96, 108], 43) := by decide +kernel
theorem dX12_write_80 : decode cX12_write 80 = .ok (.aload_n 0, 1) := by decide +kernel
theorem dX12_write_81 : decode cX12_write 81 = .ok (.getfield 13, 3) := by decide +kernel
theorem dX12_write_84 : decode cX12_write 84 = .ok (.iload 5, 2) := by decide +kernel
theorem dX12_write_86 : decode cX12_write 86 = .ok (.laload, 1) := by decide +kernel
theorem dX12_write_87 : decode cX12_write 87 = .ok (.lreturn, 1) := by decide +kernel
theorem dX12_write_88 : decode cX12_write 88 = .ok (.aload_n 0, 1) := by decide +kernel
theorem dX12_write_89 : decode cX12_write 89 = .ok (.getfield 17, 3) := by decide +kernel
theorem dX12_write_92 : decode cX12_write 92 = .ok (.iload 5, 2) := by decide +kernel
theorem dX12_write_94 : decode cX12_write 94 = .ok (.iaload, 1) := by decide +kernel
theorem dX12_write_95 : decode cX12_write 95 = .ok (.i2l, 1) := by decide +kernel
theorem dX12_write_96 : decode cX12_write 96 = .ok (.lreturn, 1) := by decide +kernel
theorem dX12_write_97 : decode cX12_write 97 = .ok (.aload_n 0, 1) := by decide +kernel
theorem dX12_write_98 : decode cX12_write 98 = .ok (.getfield 26, 3) := by decide +kernel
theorem dX12_write_101 : decode cX12_write 101 = .ok (.iload 5, 2) := by decide +kernel
theorem dX12_write_103 : decode cX12_write 103 = .ok (.baload, 1) := by decide +kernel
theorem dX12_write_104 : decode cX12_write 104 = .ok (.invokestatic 246, 3) := by decide +kernel
theorem dX12_write_107 : decode cX12_write 107 = .ok (.i2l, 1) := by decide +kernel
theorem dX12_write_108 : decode cX12_write 108 = .ok (.lreturn, 1) := by decide +kernel
theorem dX12_write_109 : decode cX12_write 109 = .ok (.aload_n 0, 1) := by decide +kernel
theorem dX12_write_110 : decode cX12_write 110 = .ok (.getfield 30, 3) := by decide +kernel
theorem dX12_write_113 : decode cX12_write 113 = .ok (.iload 5, 2) := by decide +kernel
theorem dX12_write_115 : decode cX12_write 115 = .ok (.baload, 1) := by decide +kernel
theorem dX12_write_116 : decode cX12_write 116 = .ok (.invokestatic 246, 3) := by decide +kernel
theorem dX12_write_119 : decode cX12_write 119 = .ok (.i2l, 1) := by decide +kernel
theorem dX12_write_120 : decode cX12_write 120 = .ok (.lreturn, 1) := by decide +kernel
theorem dX12_write_121 : decode cX12_write 121 = .ok (.aload_n 0, 1) := by decide +kernel
theorem dX12_write_122 : decode cX12_write 122 = .ok (.getfield 33, 3) := by decide +kernel
theorem dX12_write_125 : decode cX12_write 125 = .ok (.iload 5, 2) := by decide +kernel
theorem dX12_write_127 : decode cX12_write 127 = .ok (.baload, 1) := by decide +kernel
theorem dX12_write_128 : decode cX12_write 128 = .ok (.invokestatic 246, 3) := by decide +kernel
theorem dX12_write_131 : decode cX12_write 131 = .ok (.i2l, 1) := by decide +kernel
theorem dX12_write_132 : decode cX12_write 132 = .ok (.lreturn, 1) := by decide +kernel
theorem dX12_write_133 : decode cX12_write 133 = .ok (.aload_n 0, 1) := by decide +kernel
theorem dX12_write_134 : decode cX12_write 134 = .ok (.getfield 36, 3) := by decide +kernel
theorem dX12_write_137 : decode cX12_write 137 = .ok (.iload 5, 2) := by decide +kernel
theorem dX12_write_139 : decode cX12_write 139 = .ok (.baload, 1) := by decide +kernel
theorem dX12_write_140 : decode cX12_write 140 = .ok (.invokestatic 246, 3) := by decide +kernel
theorem dX12_write_143 : decode cX12_write 143 = .ok (.i2l, 1) := by decide +kernel
theorem dX12_write_144 : decode cX12_write 144 = .ok (.lreturn, 1) := by decide +kernel
theorem dX12_write_145 : decode cX12_write 145 = .ok (.aload_n 0, 1) := by decide +kernel
theorem dX12_write_146 : decode cX12_write 146 = .ok (.getfield 39, 3) := by decide +kernel
theorem dX12_write_149 : decode cX12_write 149 = .ok (.iload 5, 2) := by decide +kernel
theorem dX12_write_151 : decode cX12_write 151 = .ok (.iaload, 1) := by decide +kernel
theorem dX12_write_152 : decode cX12_write 152 = .ok (.i2l, 1) := by decide +kernel
theorem dX12_write_153 : decode cX12_write 153 = .ok (.lreturn, 1) := by decide +kernel
theorem dX12_write_154 : decode cX12_write 154 = .ok (.aload_n 0, 1) := by decide +kernel
theorem dX12_write_155 : decode cX12_write 155 = .ok (.iload 5, 2) := by decide +kernel
theorem dX12_write_157 : decode cX12_write 157 = .ok (.invokevirtual 250, 3) := by decide +kernel
theorem dX12_write_160 : decode cX12_write 160 = .ok (.invokestatic 246, 3) := by decide +kernel
theorem dX12_write_163 : decode cX12_write 163 = .ok (.i2l, 1) := by decide +kernel
theorem dX12_write_164 : decode cX12_write 164 = .ok (.lreturn, 1) := by decide +kernel
theorem dX12_ahead_0 : decode cX12_ahead 0 = .ok (.aload_n 0, 1) := by decide +kernel
theorem dX12_ahead_1 : decode cX12_ahead 1 = .ok (.iload_n 1, 1) := by decide +kernel
theorem dX12_ahead_2 : decode cX12_ahead 2 = .ok (.iload_n 2, 1) := by decide +kernel
theorem dX12_ahead_3 : decode cX12_ahead 3 = .ok (.iload_n 3, 1) := by decide +kernel
theorem dX12_ahead_4 : decode cX12_ahead 4 = .ok (.invokevirtual 242, 3) := by decide +kernel
theorem dX12_ahead_7 : decode cX12_ahead 7 = .ok (.ifCond .eq 26, 3) := by decide +kernel
theorem dX12_ahead_10 : decode cX12_ahead 10 = .ok (.aload_n 0, 1) := by decide +kernel
theorem dX12_ahead_11 : decode cX12_ahead 11 = .ok (.iload_n 1, 1) := by decide +kernel
theorem dX12_ahead_12 : decode cX12_ahead 12 = .ok (.iload 4, 2) := by decide +kernel
theorem dX12_ahead_14 : decode cX12_ahead 14 = .ok (.iload 5, 2) := by decide +kernel
theorem dX12_ahead_16 : decode cX12_ahead 16 = .ok (.invokevirtual 242, 3) := by decide +kernel
theorem dX12_ahead_19 : decode cX12_ahead 19 = .ok (.ifCond .eq 14, 3) := by decide +kernel
theorem dX12_ahead_22 : decode cX12_ahead 22 = .ok (.iload 6, 2) := by decide +kernel
theorem dX12_ahead_24 : decode cX12_ahead 24 = .ok (.i2l, 1) := by decide +kernel
theorem dX12_ahead_25 : decode cX12_ahead 25 = .ok (.lconst 0, 1) := by decide +kernel
theorem dX12_ahead_26 : decode cX12_ahead 26 = .ok (.lconst 1, 1) := by decide +kernel
theorem dX12_ahead_27 : decode cX12_ahead 27 = .ok (.invokestatic 113, 3) := by decide +kernel
theorem dX12_ahead_30 : decode cX12_ahead 30 = .ok (.ifCond .ne 5, 3) := by decide +kernel
theorem dX12_ahead_33 : decode cX12_ahead 33 = .ok (.iconst (-1), 1) := by decide +kernel
theorem dX12_ahead_34 : decode cX12_ahead 34 = .ok (.ireturn, 1) := by decide +kernel
theorem dX12_ahead_35 : decode cX12_ahead 35 = .ok (.iconst 4, 1) := by decide +kernel
theorem dX12_ahead_36 : decode cX12_ahead 36 = .ok (.iload_n 1, 1) := by decide +kernel
theorem dX12_ahead_37 : decode cX12_ahead 37 = .ok (.iload 4, 2) := by decide +kernel
theorem dX12_ahead_39 : decode cX12_ahead 39 = .ok (.iload 5, 2) := by decide +kernel
theorem dX12_ahead_41 : decode cX12_ahead 41 = .ok (.invokestatic 199, 3) := by decide +kernel
theorem dX12_ahead_44 : decode cX12_ahead 44 = .ok (.imul, 1) := by decide +kernel
theorem dX12_ahead_45 : decode cX12_ahead 45 = .ok (.iload_n 2, 1) := by decide +kernel
theorem dX12_ahead_46 : decode cX12_ahead 46 = .ok (.iadd, 1) := by decide +kernel
theorem dX12_ahead_47 : decode cX12_ahead 47 = .ok (.istore 7, 2) := by decide +kernel
theorem dX12_ahead_49 : decode cX12_ahead 49 = .ok (.iload 6, 2) := by decide +kernel
theorem dX12_ahead_51 : decode cX12_ahead 51 = .ok (.ifCond .ne 13, 3) := by decide +kernel
theorem dX12_ahead_54 : decode cX12_ahead 54 = .ok (.aload_n 0, 1) := by decide +kernel
theorem dX12_ahead_55 : decode cX12_ahead 55 = .ok (.getfield 20, 3) := by decide +kernel
theorem dX12_ahead_58 : decode cX12_ahead 58 = .ok (.iload 7, 2) := by decide +kernel
theorem dX12_ahead_60 : decode cX12_ahead 60 = .ok (.iaload, 1) := by decide +kernel
theorem dX12_ahead_61 : decode cX12_ahead 61 = .ok (.goto 10, 3) := by decide +kernel
theorem dX12_ahead_64 : decode cX12_ahead 64 = .ok (.aload_n 0, 1) := by decide +kernel
theorem dX12_ahead_65 : decode cX12_ahead 65 = .ok (.getfield 23, 3) := by decide +kernel
theorem dX12_ahead_68 : decode cX12_ahead 68 = .ok (.iload 7, 2) := by decide +kernel
theorem dX12_ahead_70 : decode cX12_ahead 70 = .ok (.iaload, 1) := by decide +kernel
theorem dX12_ahead_71 : decode cX12_ahead 71 = .ok (.iload_n 3, 1) := by decide +kernel
theorem dX12_ahead_72 : decode cX12_ahead 72 = .ok (.if_icmp .lt 7, 3) := by decide +kernel
theorem dX12_ahead_75 : decode cX12_ahead 75 = .ok (.iconst 1, 1) := by decide +kernel
theorem dX12_ahead_76 : decode cX12_ahead 76 = .ok (.goto 4, 3) := by decide +kernel
theorem dX12_ahead_79 : decode cX12_ahead 79 = .ok (.iconst 0, 1) := by decide +kernel
theorem dX12_ahead_80 : decode cX12_ahead 80 = .ok (.invokestatic 246, 3) := by decide +kernel
theorem dX12_ahead_83 : decode cX12_ahead 83 = .ok (.ireturn, 1) := by decide +kernel
theorem dX12_areAlike_0 : decode cX12_areAlike 0 = .ok (.iconst 1, 1) := by decide +kernel
theorem dX12_areAlike_1 : decode cX12_areAlike 1 = .ok (.istore 4, 2) := by decide +kernel
theorem dX12_areAlike_3 : decode cX12_areAlike 3 = .ok (.iconst 0, 1) := by decide +kernel
theorem dX12_areAlike_4 : decode cX12_areAlike 4 = .ok (.istore 5, 2) := by decide +kernel
theorem dX12_areAlike_6 : decode cX12_areAlike 6 = .ok (.iload 5, 2) := by decide +kernel
theorem dX12_areAlike_8 : decode cX12_areAlike 8 = .ok (.aload_n 0, 1) := by decide +kernel
theorem dX12_areAlike_9 : decode cX12_areAlike 9 = .ok (.getfield 91, 3) := by decide +kernel
theorem dX12_areAlike_12 : decode cX12_areAlike 12 = .ok (.if_icmp .ge 50, 3) := by decide +kernel
theorem dX12_areAlike_15 : decode cX12_areAlike 15 = .ok (.iload 4, 2) := by decide +kernel
theorem dX12_areAlike_17 : decode cX12_areAlike 17 = .ok (.ifCond .eq 36, 3) := by decide +kernel
theorem dX12_areAlike_20 : decode cX12_areAlike 20 = .ok (.aload_n 0, 1) := by decide +kernel
theorem dX12_areAlike_21 : decode cX12_areAlike 21 = .ok (.getfield 45, 3) := by decide +kernel
theorem dX12_areAlike_24 : decode cX12_areAlike 24 = .ok (.iload_n 3, 1) := by decide +kernel
theorem dX12_areAlike_25 : decode cX12_areAlike 25 = .ok (.iload_n 1, 1) := by decide +kernel
theorem dX12_areAlike_26 : decode cX12_areAlike 26 = .ok (.invokestatic 196, 3) := by decide +kernel
theorem dX12_areAlike_29 : decode cX12_areAlike 29 = .ok (.iload 5, 2) := by decide +kernel
theorem dX12_areAlike_31 : decode cX12_areAlike 31 = .ok (.iadd, 1) := by decide +kernel
theorem dX12_areAlike_32 : decode cX12_areAlike 32 = .ok (.iaload, 1) := by decide +kernel
theorem dX12_areAlike_33 : decode cX12_areAlike 33 = .ok (.aload_n 0, 1) := by decide +kernel
theorem dX12_areAlike_34 : decode cX12_areAlike 34 = .ok (.getfield 45, 3) := by decide +kernel
theorem dX12_areAlike_37 : decode cX12_areAlike 37 = .ok (.iload_n 3, 1) := by decide +kernel
theorem dX12_areAlike_38 : decode cX12_areAlike 38 = .ok (.iload_n 2, 1) := by decide +kernel
theorem dX12_areAlike_39 : decode cX12_areAlike 39 = .ok (.invokestatic 196, 3) := by decide +kernel
theorem dX12_areAlike_42 : decode cX12_areAlike 42 = .ok (.iload 5, 2) := by decide +kernel
theorem dX12_areAlike_44 : decode cX12_areAlike 44 = .ok (.iadd, 1) := by decide +kernel
theorem dX12_areAlike_45 : decode cX12_areAlike 45 = .ok (.iaload, 1) := by decide +kernel
theorem dX12_areAlike_46 : decode cX12_areAlike 46 = .ok (.if_icmp .ne 7, 3) := by decide +kernel
theorem dX12_areAlike_49 : decode cX12_areAlike 49 = .ok (.iconst 1, 1) := by decide +kernel
theorem dX12_areAlike_50 : decode cX12_areAlike 50 = .ok (.goto 4, 3) := by decide +kernel
theorem dX12_areAlike_53 : decode cX12_areAlike 53 = .ok (.iconst 0, 1) := by decide +kernel
theorem dX12_areAlike_54 : decode cX12_areAlike 54 = .ok (.istore 4, 2) := by decide +kernel
theorem dX12_areAlike_56 : decode cX12_areAlike 56 = .ok (.iinc 5 1, 3) := by decide +kernel
theorem dX12_areAlike_59 : decode cX12_areAlike 59 = .ok (.goto (-53), 3) := by decide +kernel
theorem dX12_areAlike_62 : decode cX12_areAlike 62 = .ok (.sipush 164, 3) := by decide +kernel
theorem dX12_areAlike_65 : decode cX12_areAlike 65 = .ok (.iload_n 3, 1) := by decide +kernel
theorem dX12_areAlike_66 : decode cX12_areAlike 66 = .ok (.imul, 1) := by decide +kernel
theorem dX12_areAlike_67 : decode cX12_areAlike 67 = .ok (.istore 5, 2) := by decide +kernel
theorem dX12_areAlike_69 : decode cX12_areAlike 69 = .ok (.iload 5, 2) := by decide +kernel
theorem dX12_areAlike_71 : decode cX12_areAlike 71 = .ok (.sipush 164, 3) := by decide +kernel
theorem dX12_areAlike_74 : decode cX12_areAlike 74 = .ok (.iload_n 3, 1) := by decide +kernel
theorem dX12_areAlike_75 : decode cX12_areAlike 75 = .ok (.imul, 1) := by decide +kernel
theorem dX12_areAlike_76 : decode cX12_areAlike 76 = .ok (.sipush 164, 3) := by decide +kernel
theorem dX12_areAlike_79 : decode cX12_areAlike 79 = .ok (.iadd, 1) := by decide +kernel
theorem dX12_areAlike_80 : decode cX12_areAlike 80 = .ok (.if_icmp .ge 46, 3) := by decide +kernel
theorem dX12_areAlike_83 : decode cX12_areAlike 83 = .ok (.iload 4, 2) := by decide +kernel
theorem dX12_areAlike_85 : decode cX12_areAlike 85 = .ok (.ifCond .eq 32, 3) := by decide +kernel
theorem dX12_areAlike_88 : decode cX12_areAlike 88 = .ok (.aload_n 0, 1) := by decide +kernel
theorem dX12_areAlike_89 : decode cX12_areAlike 89 = .ok (.getfield 39, 3) := by decide +kernel
theorem dX12_areAlike_92 : decode cX12_areAlike 92 = .ok (.iload 5, 2) := by decide +kernel
theorem dX12_areAlike_94 : decode cX12_areAlike 94 = .ok (.iaload, 1) := by decide +kernel
theorem dX12_areAlike_95 : decode cX12_areAlike 95 = .ok (.iload_n 1, 1) := by decide +kernel
theorem dX12_areAlike_96 : decode cX12_areAlike 96 = .ok (.invokestatic 183, 3) := by decide +kernel
theorem dX12_areAlike_99 : decode cX12_areAlike 99 = .ok (.aload_n 0, 1) := by decide +kernel
theorem dX12_areAlike_100 : decode cX12_areAlike 100 = .ok (.getfield 39, 3) := by decide +kernel
theorem dX12_areAlike_103 : decode cX12_areAlike 103 = .ok (.iload 5, 2) := by decide +kernel
theorem dX12_areAlike_105 : decode cX12_areAlike 105 = .ok (.iaload, 1) := by decide +kernel
theorem dX12_areAlike_106 : decode cX12_areAlike 106 = .ok (.iload_n 2, 1) := by decide +kernel
theorem dX12_areAlike_107 : decode cX12_areAlike 107 = .ok (.invokestatic 183, 3) := by decide +kernel
theorem dX12_areAlike_110 : decode cX12_areAlike 110 = .ok (.if_icmp .ne 7, 3) := by decide +kernel
theorem dX12_areAlike_113 : decode cX12_areAlike 113 = .ok (.iconst 1, 1) := by decide +kernel
theorem dX12_areAlike_114 : decode cX12_areAlike 114 = .ok (.goto 4, 3) := by decide +kernel
theorem dX12_areAlike_117 : decode cX12_areAlike 117 = .ok (.iconst 0, 1) := by decide +kernel
theorem dX12_areAlike_118 : decode cX12_areAlike 118 = .ok (.istore 4, 2) := by decide +kernel
theorem dX12_areAlike_120 : decode cX12_areAlike 120 = .ok (.iinc 5 1, 3) := by decide +kernel
theorem dX12_areAlike_123 : decode cX12_areAlike 123 = .ok (.goto (-54), 3) := by decide +kernel
theorem dX12_areAlike_126 : decode cX12_areAlike 126 = .ok (.iload 4, 2) := by decide +kernel
theorem dX12_areAlike_128 : decode cX12_areAlike 128 = .ok (.ireturn, 1) := by decide +kernel
theorem dX12_alike_0 : decode cX12_alike 0 = .ok (.aload_n 0, 1) := by decide +kernel
theorem dX12_alike_1 : decode cX12_alike 1 = .ok (.iload_n 1, 1) := by decide +kernel
theorem dX12_alike_2 : decode cX12_alike 2 = .ok (.invokevirtual 123, 3) := by decide +kernel
theorem dX12_alike_5 : decode cX12_alike 5 = .ok (.ifCond .eq 32, 3) := by decide +kernel
theorem dX12_alike_8 : decode cX12_alike 8 = .ok (.aload_n 0, 1) := by decide +kernel
theorem dX12_alike_9 : decode cX12_alike 9 = .ok (.iload_n 2, 1) := by decide +kernel
theorem dX12_alike_10 : decode cX12_alike 10 = .ok (.invokevirtual 123, 3) := by decide +kernel
theorem dX12_alike_13 : decode cX12_alike 13 = .ok (.ifCond .eq 24, 3) := by decide +kernel
theorem dX12_alike_16 : decode cX12_alike 16 = .ok (.aload_n 0, 1) := by decide +kernel
theorem dX12_alike_17 : decode cX12_alike 17 = .ok (.iload_n 3, 1) := by decide +kernel
theorem dX12_alike_18 : decode cX12_alike 18 = .ok (.invokevirtual 119, 3) := by decide +kernel
theorem dX12_alike_21 : decode cX12_alike 21 = .ok (.ifCond .eq 16, 3) := by decide +kernel
theorem dX12_alike_24 : decode cX12_alike 24 = .ok (.aload_n 0, 1) := by decide +kernel
theorem dX12_alike_25 : decode cX12_alike 25 = .ok (.iload_n 1, 1) := by decide +kernel
theorem dX12_alike_26 : decode cX12_alike 26 = .ok (.iload_n 2, 1) := by decide +kernel
theorem dX12_alike_27 : decode cX12_alike 27 = .ok (.iload_n 3, 1) := by decide +kernel
theorem dX12_alike_28 : decode cX12_alike 28 = .ok (.invokevirtual 253, 3) := by decide +kernel
theorem dX12_alike_31 : decode cX12_alike 31 = .ok (.invokestatic 246, 3) := by decide +kernel
theorem dX12_alike_34 : decode cX12_alike 34 = .ok (.goto 4, 3) := by decide +kernel
theorem dX12_alike_37 : decode cX12_alike 37 = .ok (.iconst (-1), 1) := by decide +kernel
theorem dX12_alike_38 : decode cX12_alike 38 = .ok (.ireturn, 1) := by decide +kernel
theorem dX12_behind_0 : decode cX12_behind 0 = .ok (.aload_n 0, 1) := by decide +kernel
theorem dX12_behind_1 : decode cX12_behind 1 = .ok (.iload_n 1, 1) := by decide +kernel
theorem dX12_behind_2 : decode cX12_behind 2 = .ok (.invokevirtual 123, 3) := by decide +kernel
theorem dX12_behind_5 : decode cX12_behind 5 = .ok (.ifCond .eq 11, 3) := by decide +kernel
theorem dX12_behind_8 : decode cX12_behind 8 = .ok (.aload_n 0, 1) := by decide +kernel
theorem dX12_behind_9 : decode cX12_behind 9 = .ok (.iload_n 2, 1) := by decide +kernel
theorem dX12_behind_10 : decode cX12_behind 10 = .ok (.invokevirtual 119, 3) := by decide +kernel
theorem dX12_behind_13 : decode cX12_behind 13 = .ok (.ifCond .ne 5, 3) := by decide +kernel
theorem dX12_behind_16 : decode cX12_behind 16 = .ok (.iconst (-1), 1) := by decide +kernel
theorem dX12_behind_17 : decode cX12_behind 17 = .ok (.ireturn, 1) := by decide +kernel
theorem dX12_behind_18 : decode cX12_behind 18 = .ok (.iconst 0, 1) := by decide +kernel
theorem dX12_behind_19 : decode cX12_behind 19 = .ok (.istore_n 3, 1) := by decide +kernel
theorem dX12_behind_20 : decode cX12_behind 20 = .ok (.iconst 0, 1) := by decide +kernel
theorem dX12_behind_21 : decode cX12_behind 21 = .ok (.istore 4, 2) := by decide +kernel
theorem dX12_behind_23 : decode cX12_behind 23 = .ok (.iload 4, 2) := by decide +kernel
theorem dX12_behind_25 : decode cX12_behind 25 = .ok (.aload_n 0, 1) := by decide +kernel
theorem dX12_behind_26 : decode cX12_behind 26 = .ok (.getfield 91, 3) := by decide +kernel
theorem dX12_behind_29 : decode cX12_behind 29 = .ok (.if_icmp .ge 81, 3) := by decide +kernel
theorem dX12_behind_32 : decode cX12_behind 32 = .ok (.iconst 0, 1) := by decide +kernel
theorem dX12_behind_33 : decode cX12_behind 33 = .ok (.istore 5, 2) := by decide +kernel
theorem dX12_behind_35 : decode cX12_behind 35 = .ok (.iconst 0, 1) := by decide +kernel
theorem dX12_behind_36 : decode cX12_behind 36 = .ok (.istore 6, 2) := by decide +kernel
theorem dX12_behind_38 : decode cX12_behind 38 = .ok (.iload 6, 2) := by decide +kernel
theorem dX12_behind_40 : decode cX12_behind 40 = .ok (.aload_n 0, 1) := by decide +kernel
theorem dX12_behind_41 : decode cX12_behind 41 = .ok (.getfield 91, 3) := by decide +kernel
theorem dX12_behind_44 : decode cX12_behind 44 = .ok (.if_icmp .ge 41, 3) := by decide +kernel
theorem dX12_behind_47 : decode cX12_behind 47 = .ok (.aload_n 0, 1) := by decide +kernel
theorem dX12_behind_48 : decode cX12_behind 48 = .ok (.getfield 45, 3) := by decide +kernel
theorem dX12_behind_51 : decode cX12_behind 51 = .ok (.iload_n 2, 1) := by decide +kernel
theorem dX12_behind_52 : decode cX12_behind 52 = .ok (.iload 6, 2) := by decide +kernel
theorem dX12_behind_54 : decode cX12_behind 54 = .ok (.invokestatic 196, 3) := by decide +kernel
theorem dX12_behind_57 : decode cX12_behind 57 = .ok (.iload 4, 2) := by decide +kernel
theorem dX12_behind_59 : decode cX12_behind 59 = .ok (.iadd, 1) := by decide +kernel
theorem dX12_behind_60 : decode cX12_behind 60 = .ok (.iaload, 1) := by decide +kernel
theorem dX12_behind_61 : decode cX12_behind 61 = .ok (.istore 7, 2) := by decide +kernel
theorem dX12_behind_63 : decode cX12_behind 63 = .ok (.iload 7, 2) := by decide +kernel
theorem dX12_behind_65 : decode cX12_behind 65 = .ok (.iload 5, 2) := by decide +kernel
theorem dX12_behind_67 : decode cX12_behind 67 = .ok (.if_icmp .le 8, 3) := by decide +kernel
theorem dX12_behind_70 : decode cX12_behind 70 = .ok (.iload 7, 2) := by decide +kernel
theorem dX12_behind_72 : decode cX12_behind 72 = .ok (.goto 5, 3) := by decide +kernel
theorem dX12_behind_75 : decode cX12_behind 75 = .ok (.iload 5, 2) := by decide +kernel
theorem dX12_behind_77 : decode cX12_behind 77 = .ok (.istore 5, 2) := by decide +kernel
theorem dX12_behind_79 : decode cX12_behind 79 = .ok (.iinc 6 1, 3) := by decide +kernel
theorem dX12_behind_82 : decode cX12_behind 82 = .ok (.goto (-44), 3) := by decide +kernel
theorem dX12_behind_85 : decode cX12_behind 85 = .ok (.iload_n 3, 1) := by decide +kernel
theorem dX12_behind_86 : decode cX12_behind 86 = .ok (.iload 5, 2) := by decide +kernel
theorem dX12_behind_88 : decode cX12_behind 88 = .ok (.aload_n 0, 1) := by decide +kernel
theorem dX12_behind_89 : decode cX12_behind 89 = .ok (.getfield 45, 3) := by decide +kernel
theorem dX12_behind_92 : decode cX12_behind 92 = .ok (.iload_n 2, 1) := by decide +kernel
theorem dX12_behind_93 : decode cX12_behind 93 = .ok (.iload_n 1, 1) := by decide +kernel
theorem dX12_behind_94 : decode cX12_behind 94 = .ok (.invokestatic 196, 3) := by decide +kernel
theorem dX12_behind_97 : decode cX12_behind 97 = .ok (.iload 4, 2) := by decide +kernel
theorem dX12_behind_99 : decode cX12_behind 99 = .ok (.iadd, 1) := by decide +kernel
theorem dX12_behind_100 : decode cX12_behind 100 = .ok (.iaload, 1) := by decide +kernel
theorem dX12_behind_101 : decode cX12_behind 101 = .ok (.isub, 1) := by decide +kernel
theorem dX12_behind_102 : decode cX12_behind 102 = .ok (.iadd, 1) := by decide +kernel
theorem dX12_behind_103 : decode cX12_behind 103 = .ok (.istore_n 3, 1) := by decide +kernel
theorem dX12_behind_104 : decode cX12_behind 104 = .ok (.iinc 4 1, 3) := by decide +kernel
theorem dX12_behind_107 : decode cX12_behind 107 = .ok (.goto (-84), 3) := by decide +kernel
theorem dX12_behind_110 : decode cX12_behind 110 = .ok (.iload_n 3, 1) := by decide +kernel
theorem dX12_behind_111 : decode cX12_behind 111 = .ok (.ireturn, 1) := by decide +kernel
theorem dX12_joinsSet_0 : decode cX12_joinsSet 0 = .ok (.iload_n 2, 1) := by decide +kernel
theorem dX12_joinsSet_1 : decode cX12_joinsSet 1 = .ok (.iconst 1, 1) := by decide +kernel
theorem dX12_joinsSet_2 : decode cX12_joinsSet 2 = .ok (.iload_n 3, 1) := by decide +kernel
theorem dX12_joinsSet_3 : decode cX12_joinsSet 3 = .ok (.ishl, 1) := by decide +kernel
theorem dX12_joinsSet_4 : decode cX12_joinsSet 4 = .ok (.iconst (-1), 1) := by decide +kernel
theorem dX12_joinsSet_5 : decode cX12_joinsSet 5 = .ok (.ixor, 1) := by decide +kernel
theorem dX12_joinsSet_6 : decode cX12_joinsSet 6 = .ok (.iand, 1) := by decide +kernel
theorem dX12_joinsSet_7 : decode cX12_joinsSet 7 = .ok (.istore 4, 2) := by decide +kernel
theorem dX12_joinsSet_9 : decode cX12_joinsSet 9 = .ok (.iconst 0, 1) := by decide +kernel
theorem dX12_joinsSet_10 : decode cX12_joinsSet 10 = .ok (.istore 5, 2) := by decide +kernel
theorem dX12_joinsSet_12 : decode cX12_joinsSet 12 = .ok (.iload 5, 2) := by decide +kernel
theorem dX12_joinsSet_14 : decode cX12_joinsSet 14 = .ok (.aload_n 0, 1) := by decide +kernel
theorem dX12_joinsSet_15 : decode cX12_joinsSet 15 = .ok (.getfield 91, 3) := by decide +kernel
theorem dX12_joinsSet_18 : decode cX12_joinsSet 18 = .ok (.if_icmp .ge 213, 3) := by decide +kernel
theorem dX12_joinsSet_21 : decode cX12_joinsSet 21 = .ok (.aload_n 0, 1) := by decide +kernel
theorem dX12_joinsSet_22 : decode cX12_joinsSet 22 = .ok (.getfield 45, 3) := by decide +kernel
theorem dX12_joinsSet_25 : decode cX12_joinsSet 25 = .ok (.iload_n 1, 1) := by decide +kernel
theorem dX12_joinsSet_26 : decode cX12_joinsSet 26 = .ok (.iload_n 3, 1) := by decide +kernel
theorem dX12_joinsSet_27 : decode cX12_joinsSet 27 = .ok (.invokestatic 196, 3) := by decide +kernel
theorem dX12_joinsSet_30 : decode cX12_joinsSet 30 = .ok (.iload 5, 2) := by decide +kernel
theorem dX12_joinsSet_32 : decode cX12_joinsSet 32 = .ok (.iadd, 1) := by decide +kernel
theorem dX12_joinsSet_33 : decode cX12_joinsSet 33 = .ok (.iaload, 1) := by decide +kernel
theorem dX12_joinsSet_34 : decode cX12_joinsSet 34 = .ok (.istore 6, 2) := by decide +kernel
theorem dX12_joinsSet_36 : decode cX12_joinsSet 36 = .ok (.iload 4, 2) := by decide +kernel
theorem dX12_joinsSet_38 : decode cX12_joinsSet 38 = .ok (.ifCond .ne 7, 3) := by decide +kernel
theorem dX12_joinsSet_41 : decode cX12_joinsSet 41 = .ok (.iconst 0, 1) := by decide +kernel
theorem dX12_joinsSet_42 : decode cX12_joinsSet 42 = .ok (.goto 15, 3) := by decide +kernel
theorem dX12_joinsSet_45 : decode cX12_joinsSet 45 = .ok (.aload_n 0, 1) := by decide +kernel
theorem dX12_joinsSet_46 : decode cX12_joinsSet 46 = .ok (.getfield 72, 3) := by decide +kernel
theorem dX12_joinsSet_49 : decode cX12_joinsSet 49 = .ok (.iconst 4, 1) := by decide +kernel
theorem dX12_joinsSet_50 : decode cX12_joinsSet 50 = .ok (.iload 4, 2) := by decide +kernel
theorem dX12_joinsSet_52 : decode cX12_joinsSet 52 = .ok (.imul, 1) := by decide +kernel
theorem dX12_joinsSet_53 : decode cX12_joinsSet 53 = .ok (.iload 5, 2) := by decide +kernel
theorem dX12_joinsSet_55 : decode cX12_joinsSet 55 = .ok (.iadd, 1) := by decide +kernel
theorem dX12_joinsSet_56 : decode cX12_joinsSet 56 = .ok (.iaload, 1) := by decide +kernel
theorem dX12_joinsSet_57 : decode cX12_joinsSet 57 = .ok (.istore 7, 2) := by decide +kernel
theorem dX12_joinsSet_59 : decode cX12_joinsSet 59 = .ok (.lconst 0, 1) := by decide +kernel
theorem dX12_joinsSet_60 : decode cX12_joinsSet 60 = .ok (.lstore 8, 2) := by decide +kernel
theorem dX12_joinsSet_62 : decode cX12_joinsSet 62 = .ok (.iconst 1, 1) := by decide +kernel
theorem dX12_joinsSet_63 : decode cX12_joinsSet 63 = .ok (.istore 10, 2) := by decide +kernel
theorem dX12_joinsSet_65 : decode cX12_joinsSet 65 = .ok (.iload 10, 2) := by decide +kernel
theorem dX12_joinsSet_67 : decode cX12_joinsSet 67 = .ok (.aload_n 0, 1) := by decide +kernel
theorem dX12_joinsSet_68 : decode cX12_joinsSet 68 = .ok (.getfield 42, 3) := by decide +kernel
theorem dX12_joinsSet_71 : decode cX12_joinsSet 71 = .ok (.iconst 4, 1) := by decide +kernel
theorem dX12_joinsSet_72 : decode cX12_joinsSet 72 = .ok (.iload_n 1, 1) := by decide +kernel
theorem dX12_joinsSet_73 : decode cX12_joinsSet 73 = .ok (.imul, 1) := by decide +kernel
theorem dX12_joinsSet_74 : decode cX12_joinsSet 74 = .ok (.iload 5, 2) := by decide +kernel
theorem dX12_joinsSet_76 : decode cX12_joinsSet 76 = .ok (.iadd, 1) := by decide +kernel
theorem dX12_joinsSet_77 : decode cX12_joinsSet 77 = .ok (.iaload, 1) := by decide +kernel
theorem dX12_joinsSet_78 : decode cX12_joinsSet 78 = .ok (.if_icmp .gt 109, 3) := by decide +kernel
theorem dX12_joinsSet_81 : decode cX12_joinsSet 81 = .ok (.aload_n 0, 1) := by decide +kernel
theorem dX12_joinsSet_82 : decode cX12_joinsSet 82 = .ok (.getfield 39, 3) := by decide +kernel
theorem dX12_joinsSet_85 : decode cX12_joinsSet 85 = .ok (.iload_n 1, 1) := by decide +kernel
theorem dX12_joinsSet_86 : decode cX12_joinsSet 86 = .ok (.iload 5, 2) := by decide +kernel
theorem dX12_joinsSet_88 : decode cX12_joinsSet 88 = .ok (.iload 10, 2) := by decide +kernel
theorem dX12_joinsSet_90 : decode cX12_joinsSet 90 = .ok (.invokestatic 199, 3) := by decide +kernel
theorem dX12_joinsSet_93 : decode cX12_joinsSet 93 = .ok (.iaload, 1) := by decide +kernel
theorem dX12_joinsSet_94 : decode cX12_joinsSet 94 = .ok (.iload_n 3, 1) := by decide +kernel
theorem dX12_joinsSet_95 : decode cX12_joinsSet 95 = .ok (.invokestatic 183, 3) := by decide +kernel
theorem dX12_joinsSet_98 : decode cX12_joinsSet 98 = .ok (.istore 11, 2) := by decide +kernel
theorem dX12_joinsSet_100 : decode cX12_joinsSet 100 = .ok (.iload 4, 2) := by decide +kernel
theorem dX12_joinsSet_102 : decode cX12_joinsSet 102 = .ok (.ifCond .eq 29, 3) := by decide +kernel
theorem dX12_joinsSet_105 : decode cX12_joinsSet 105 = .ok (.aload_n 0, 1) := by decide +kernel
theorem dX12_joinsSet_106 : decode cX12_joinsSet 106 = .ok (.getfield 75, 3) := by decide +kernel
theorem dX12_joinsSet_109 : decode cX12_joinsSet 109 = .ok (.iconst 4, 1) := by decide +kernel
theorem dX12_joinsSet_110 : decode cX12_joinsSet 110 = .ok (.iload 4, 2) := by decide +kernel
theorem dX12_joinsSet_112 : decode cX12_joinsSet 112 = .ok (.imul, 1) := by decide +kernel
theorem dX12_joinsSet_113 : decode cX12_joinsSet 113 = .ok (.iload 5, 2) := by decide +kernel
theorem dX12_joinsSet_115 : decode cX12_joinsSet 115 = .ok (.iadd, 1) := by decide +kernel
theorem dX12_joinsSet_116 : decode cX12_joinsSet 116 = .ok (.laload, 1) := by decide +kernel
theorem dX12_joinsSet_117 : decode cX12_joinsSet 117 = .ok (.iload 10, 2) := by decide +kernel
theorem dX12_joinsSet_119 : decode cX12_joinsSet 119 = .ok (.lshr, 1) := by decide +kernel
theorem dX12_joinsSet_120 : decode cX12_joinsSet 120 = .ok (.lconst 1, 1) := by decide +kernel
theorem dX12_joinsSet_121 : decode cX12_joinsSet 121 = .ok (.land, 1) := by decide +kernel
theorem dX12_joinsSet_122 : decode cX12_joinsSet 122 = .ok (.lconst 1, 1) := by decide +kernel
theorem dX12_joinsSet_123 : decode cX12_joinsSet 123 = .ok (.lcmp, 1) := by decide +kernel
theorem dX12_joinsSet_124 : decode cX12_joinsSet 124 = .ok (.ifCond .ne 7, 3) := by decide +kernel
theorem dX12_joinsSet_127 : decode cX12_joinsSet 127 = .ok (.iconst 1, 1) := by decide +kernel
theorem dX12_joinsSet_128 : decode cX12_joinsSet 128 = .ok (.goto 4, 3) := by decide +kernel
theorem dX12_joinsSet_131 : decode cX12_joinsSet 131 = .ok (.iconst 0, 1) := by decide +kernel
theorem dX12_joinsSet_132 : decode cX12_joinsSet 132 = .ok (.istore 12, 2) := by decide +kernel
theorem dX12_joinsSet_134 : decode cX12_joinsSet 134 = .ok (.lload 8, 2) := by decide +kernel
theorem dX12_joinsSet_136 : decode cX12_joinsSet 136 = .ok (.iload 11, 2) := by decide +kernel
theorem dX12_joinsSet_138 : decode cX12_joinsSet 138 = .ok (.ifCond .eq 8, 3) := by decide +kernel
theorem dX12_joinsSet_141 : decode cX12_joinsSet 141 = .ok (.iload 12, 2) := by decide +kernel
theorem dX12_joinsSet_143 : decode cX12_joinsSet 143 = .ok (.ifCond .ne 27, 3) := by decide +kernel
theorem dX12_joinsSet_146 : decode cX12_joinsSet 146 = .ok (.iload 11, 2) := by decide +kernel
theorem dX12_joinsSet_148 : decode cX12_joinsSet 148 = .ok (.ifCond .eq 10, 3) := by decide +kernel
theorem dX12_joinsSet_151 : decode cX12_joinsSet 151 = .ok (.iload 7, 2) := by decide +kernel
theorem dX12_joinsSet_153 : decode cX12_joinsSet 153 = .ok (.iload 10, 2) := by decide +kernel
theorem dX12_joinsSet_155 : decode cX12_joinsSet 155 = .ok (.if_icmp .lt 15, 3) := by decide +kernel
theorem dX12_joinsSet_158 : decode cX12_joinsSet 158 = .ok (.iload 12, 2) := by decide +kernel
theorem dX12_joinsSet_160 : decode cX12_joinsSet 160 = .ok (.ifCond .eq 17, 3) := by decide +kernel
theorem dX12_joinsSet_163 : decode cX12_joinsSet 163 = .ok (.iload 6, 2) := by decide +kernel
theorem dX12_joinsSet_165 : decode cX12_joinsSet 165 = .ok (.iload 10, 2) := by decide +kernel
theorem dX12_joinsSet_167 : decode cX12_joinsSet 167 = .ok (.if_icmp .ge 10, 3) := by decide +kernel
theorem dX12_joinsSet_170 : decode cX12_joinsSet 170 = .ok (.lconst 1, 1) := by decide +kernel
theorem dX12_joinsSet_171 : decode cX12_joinsSet 171 = .ok (.iload 10, 2) := by decide +kernel
theorem dX12_joinsSet_173 : decode cX12_joinsSet 173 = .ok (.lshl, 1) := by decide +kernel
theorem dX12_joinsSet_174 : decode cX12_joinsSet 174 = .ok (.goto 4, 3) := by decide +kernel
theorem dX12_joinsSet_177 : decode cX12_joinsSet 177 = .ok (.lconst 0, 1) := by decide +kernel
theorem dX12_joinsSet_178 : decode cX12_joinsSet 178 = .ok (.lor, 1) := by decide +kernel
theorem dX12_joinsSet_179 : decode cX12_joinsSet 179 = .ok (.lstore 8, 2) := by decide +kernel
theorem dX12_joinsSet_181 : decode cX12_joinsSet 181 = .ok (.iinc 10 1, 3) := by decide +kernel
theorem dX12_joinsSet_184 : decode cX12_joinsSet 184 = .ok (.goto (-119), 3) := by decide +kernel
theorem dX12_joinsSet_187 : decode cX12_joinsSet 187 = .ok (.aload_n 0, 1) := by decide +kernel
theorem dX12_joinsSet_188 : decode cX12_joinsSet 188 = .ok (.getfield 75, 3) := by decide +kernel
theorem dX12_joinsSet_191 : decode cX12_joinsSet 191 = .ok (.iconst 4, 1) := by decide +kernel
theorem dX12_joinsSet_192 : decode cX12_joinsSet 192 = .ok (.iload_n 2, 1) := by decide +kernel
theorem dX12_joinsSet_193 : decode cX12_joinsSet 193 = .ok (.imul, 1) := by decide +kernel
theorem dX12_joinsSet_194 : decode cX12_joinsSet 194 = .ok (.iload 5, 2) := by decide +kernel
theorem dX12_joinsSet_196 : decode cX12_joinsSet 196 = .ok (.iadd, 1) := by decide +kernel
theorem dX12_joinsSet_197 : decode cX12_joinsSet 197 = .ok (.lload 8, 2) := by decide +kernel
theorem dX12_joinsSet_199 : decode cX12_joinsSet 199 = .ok (.lastore, 1) := by decide +kernel
theorem dX12_joinsSet_200 : decode cX12_joinsSet 200 = .ok (.aload_n 0, 1) := by decide +kernel
theorem dX12_joinsSet_201 : decode cX12_joinsSet 201 = .ok (.getfield 72, 3) := by decide +kernel
theorem dX12_joinsSet_204 : decode cX12_joinsSet 204 = .ok (.iconst 4, 1) := by decide +kernel
theorem dX12_joinsSet_205 : decode cX12_joinsSet 205 = .ok (.iload_n 2, 1) := by decide +kernel
theorem dX12_joinsSet_206 : decode cX12_joinsSet 206 = .ok (.imul, 1) := by decide +kernel
theorem dX12_joinsSet_207 : decode cX12_joinsSet 207 = .ok (.iload 5, 2) := by decide +kernel
theorem dX12_joinsSet_209 : decode cX12_joinsSet 209 = .ok (.iadd, 1) := by decide +kernel
theorem dX12_joinsSet_210 : decode cX12_joinsSet 210 = .ok (.iload 6, 2) := by decide +kernel
theorem dX12_joinsSet_212 : decode cX12_joinsSet 212 = .ok (.iload 7, 2) := by decide +kernel
theorem dX12_joinsSet_214 : decode cX12_joinsSet 214 = .ok (.if_icmp .le 8, 3) := by decide +kernel
theorem dX12_joinsSet_217 : decode cX12_joinsSet 217 = .ok (.iload 6, 2) := by decide +kernel
theorem dX12_joinsSet_219 : decode cX12_joinsSet 219 = .ok (.goto 5, 3) := by decide +kernel
theorem dX12_joinsSet_222 : decode cX12_joinsSet 222 = .ok (.iload 7, 2) := by decide +kernel
theorem dX12_joinsSet_224 : decode cX12_joinsSet 224 = .ok (.iastore, 1) := by decide +kernel
theorem dX12_joinsSet_225 : decode cX12_joinsSet 225 = .ok (.iinc 5 1, 3) := by decide +kernel
theorem dX12_joinsSet_228 : decode cX12_joinsSet 228 = .ok (.goto (-216), 3) := by decide +kernel
theorem dX12_joinsSet_231 : decode cX12_joinsSet 231 = .ok (.return_, 1) := by decide +kernel
theorem dX12_areLike_0 : decode cX12_areLike 0 = .ok (.iconst 1, 1) := by decide +kernel
theorem dX12_areLike_1 : decode cX12_areLike 1 = .ok (.istore_n 3, 1) := by decide +kernel
theorem dX12_areLike_2 : decode cX12_areLike 2 = .ok (.iconst 0, 1) := by decide +kernel
theorem dX12_areLike_3 : decode cX12_areLike 3 = .ok (.istore 4, 2) := by decide +kernel
theorem dX12_areLike_5 : decode cX12_areLike 5 = .ok (.iload 4, 2) := by decide +kernel
theorem dX12_areLike_7 : decode cX12_areLike 7 = .ok (.aload_n 0, 1) := by decide +kernel
theorem dX12_areLike_8 : decode cX12_areLike 8 = .ok (.getfield 91, 3) := by decide +kernel
theorem dX12_areLike_11 : decode cX12_areLike 11 = .ok (.if_icmp .ge 70, 3) := by decide +kernel
theorem dX12_areLike_14 : decode cX12_areLike 14 = .ok (.iload_n 3, 1) := by decide +kernel
theorem dX12_areLike_15 : decode cX12_areLike 15 = .ok (.ifCond .eq 58, 3) := by decide +kernel
theorem dX12_areLike_18 : decode cX12_areLike 18 = .ok (.aload_n 0, 1) := by decide +kernel
theorem dX12_areLike_19 : decode cX12_areLike 19 = .ok (.getfield 72, 3) := by decide +kernel
theorem dX12_areLike_22 : decode cX12_areLike 22 = .ok (.iconst 4, 1) := by decide +kernel
theorem dX12_areLike_23 : decode cX12_areLike 23 = .ok (.iload_n 1, 1) := by decide +kernel
theorem dX12_areLike_24 : decode cX12_areLike 24 = .ok (.imul, 1) := by decide +kernel
theorem dX12_areLike_25 : decode cX12_areLike 25 = .ok (.iload 4, 2) := by decide +kernel
theorem dX12_areLike_27 : decode cX12_areLike 27 = .ok (.iadd, 1) := by decide +kernel
theorem dX12_areLike_28 : decode cX12_areLike 28 = .ok (.iaload, 1) := by decide +kernel
theorem dX12_areLike_29 : decode cX12_areLike 29 = .ok (.aload_n 0, 1) := by decide +kernel
theorem dX12_areLike_30 : decode cX12_areLike 30 = .ok (.getfield 72, 3) := by decide +kernel
theorem dX12_areLike_33 : decode cX12_areLike 33 = .ok (.iconst 4, 1) := by decide +kernel
theorem dX12_areLike_34 : decode cX12_areLike 34 = .ok (.iload_n 2, 1) := by decide +kernel
theorem dX12_areLike_35 : decode cX12_areLike 35 = .ok (.imul, 1) := by decide +kernel
theorem dX12_areLike_36 : decode cX12_areLike 36 = .ok (.iload 4, 2) := by decide +kernel
theorem dX12_areLike_38 : decode cX12_areLike 38 = .ok (.iadd, 1) := by decide +kernel
theorem dX12_areLike_39 : decode cX12_areLike 39 = .ok (.iaload, 1) := by decide +kernel
theorem dX12_areLike_40 : decode cX12_areLike 40 = .ok (.if_icmp .ne 33, 3) := by decide +kernel
theorem dX12_areLike_43 : decode cX12_areLike 43 = .ok (.aload_n 0, 1) := by decide +kernel
theorem dX12_areLike_44 : decode cX12_areLike 44 = .ok (.getfield 75, 3) := by decide +kernel
theorem dX12_areLike_47 : decode cX12_areLike 47 = .ok (.iconst 4, 1) := by decide +kernel
theorem dX12_areLike_48 : decode cX12_areLike 48 = .ok (.iload_n 1, 1) := by decide +kernel
theorem dX12_areLike_49 : decode cX12_areLike 49 = .ok (.imul, 1) := by decide +kernel
theorem dX12_areLike_50 : decode cX12_areLike 50 = .ok (.iload 4, 2) := by decide +kernel
theorem dX12_areLike_52 : decode cX12_areLike 52 = .ok (.iadd, 1) := by decide +kernel
theorem dX12_areLike_53 : decode cX12_areLike 53 = .ok (.laload, 1) := by decide +kernel
theorem dX12_areLike_54 : decode cX12_areLike 54 = .ok (.aload_n 0, 1) := by decide +kernel
theorem dX12_areLike_55 : decode cX12_areLike 55 = .ok (.getfield 75, 3) := by decide +kernel
theorem dX12_areLike_58 : decode cX12_areLike 58 = .ok (.iconst 4, 1) := by decide +kernel
theorem dX12_areLike_59 : decode cX12_areLike 59 = .ok (.iload_n 2, 1) := by decide +kernel
theorem dX12_areLike_60 : decode cX12_areLike 60 = .ok (.imul, 1) := by decide +kernel
theorem dX12_areLike_61 : decode cX12_areLike 61 = .ok (.iload 4, 2) := by decide +kernel
theorem dX12_areLike_63 : decode cX12_areLike 63 = .ok (.iadd, 1) := by decide +kernel
theorem dX12_areLike_64 : decode cX12_areLike 64 = .ok (.laload, 1) := by decide +kernel
theorem dX12_areLike_65 : decode cX12_areLike 65 = .ok (.lcmp, 1) := by decide +kernel
theorem dX12_areLike_66 : decode cX12_areLike 66 = .ok (.ifCond .ne 7, 3) := by decide +kernel
theorem dX12_areLike_69 : decode cX12_areLike 69 = .ok (.iconst 1, 1) := by decide +kernel
theorem dX12_areLike_70 : decode cX12_areLike 70 = .ok (.goto 4, 3) := by decide +kernel
theorem dX12_areLike_73 : decode cX12_areLike 73 = .ok (.iconst 0, 1) := by decide +kernel
theorem dX12_areLike_74 : decode cX12_areLike 74 = .ok (.istore_n 3, 1) := by decide +kernel
theorem dX12_areLike_75 : decode cX12_areLike 75 = .ok (.iinc 4 1, 3) := by decide +kernel
theorem dX12_areLike_78 : decode cX12_areLike 78 = .ok (.goto (-73), 3) := by decide +kernel
theorem dX12_areLike_81 : decode cX12_areLike 81 = .ok (.iload_n 3, 1) := by decide +kernel
theorem dX12_areLike_82 : decode cX12_areLike 82 = .ok (.ireturn, 1) := by decide +kernel
theorem dX12_laysSets_0 : decode cX12_laysSets 0 = .ok (.iconst 1, 1) := by decide +kernel
theorem dX12_laysSets_1 : decode cX12_laysSets 1 = .ok (.istore_n 2, 1) := by decide +kernel
theorem dX12_laysSets_2 : decode cX12_laysSets 2 = .ok (.iload_n 2, 1) := by decide +kernel
theorem dX12_laysSets_3 : decode cX12_laysSets 3 = .ok (.iconst 1, 1) := by decide +kernel
theorem dX12_laysSets_4 : decode cX12_laysSets 4 = .ok (.aload_n 0, 1) := by decide +kernel
theorem dX12_laysSets_5 : decode cX12_laysSets 5 = .ok (.getfield 91, 3) := by decide +kernel
theorem dX12_laysSets_8 : decode cX12_laysSets 8 = .ok (.ishl, 1) := by decide +kernel
theorem dX12_laysSets_9 : decode cX12_laysSets 9 = .ok (.if_icmp .ge 87, 3) := by decide +kernel
theorem dX12_laysSets_12 : decode cX12_laysSets 12 = .ok (.aload_n 0, 1) := by decide +kernel
theorem dX12_laysSets_13 : decode cX12_laysSets 13 = .ok (.getfield 91, 3) := by decide +kernel
theorem dX12_laysSets_16 : decode cX12_laysSets 16 = .ok (.iconst 1, 1) := by decide +kernel
theorem dX12_laysSets_17 : decode cX12_laysSets 17 = .ok (.isub, 1) := by decide +kernel
theorem dX12_laysSets_18 : decode cX12_laysSets 18 = .ok (.istore_n 3, 1) := by decide +kernel
theorem dX12_laysSets_19 : decode cX12_laysSets 19 = .ok (.iload_n 2, 1) := by decide +kernel
theorem dX12_laysSets_20 : decode cX12_laysSets 20 = .ok (.iload_n 3, 1) := by decide +kernel
theorem dX12_laysSets_21 : decode cX12_laysSets 21 = .ok (.invokestatic 183, 3) := by decide +kernel
theorem dX12_laysSets_24 : decode cX12_laysSets 24 = .ok (.ifCond .ne 9, 3) := by decide +kernel
theorem dX12_laysSets_27 : decode cX12_laysSets 27 = .ok (.iinc 3 (-1), 3) := by decide +kernel
theorem dX12_laysSets_30 : decode cX12_laysSets 30 = .ok (.goto (-11), 3) := by decide +kernel
theorem dX12_laysSets_33 : decode cX12_laysSets 33 = .ok (.aload_n 0, 1) := by decide +kernel
theorem dX12_laysSets_34 : decode cX12_laysSets 34 = .ok (.iload_n 1, 1) := by decide +kernel
theorem dX12_laysSets_35 : decode cX12_laysSets 35 = .ok (.iload_n 2, 1) := by decide +kernel
theorem dX12_laysSets_36 : decode cX12_laysSets 36 = .ok (.iload_n 3, 1) := by decide +kernel
theorem dX12_laysSets_37 : decode cX12_laysSets 37 = .ok (.invokevirtual 256, 3) := by decide +kernel
theorem dX12_laysSets_40 : decode cX12_laysSets 40 = .ok (.aload_n 0, 1) := by decide +kernel
theorem dX12_laysSets_41 : decode cX12_laysSets 41 = .ok (.getfield 78, 3) := by decide +kernel
theorem dX12_laysSets_44 : decode cX12_laysSets 44 = .ok (.iload_n 2, 1) := by decide +kernel
theorem dX12_laysSets_45 : decode cX12_laysSets 45 = .ok (.iload_n 2, 1) := by decide +kernel
theorem dX12_laysSets_46 : decode cX12_laysSets 46 = .ok (.iastore, 1) := by decide +kernel
theorem dX12_laysSets_47 : decode cX12_laysSets 47 = .ok (.iload_n 2, 1) := by decide +kernel
theorem dX12_laysSets_48 : decode cX12_laysSets 48 = .ok (.iconst 1, 1) := by decide +kernel
theorem dX12_laysSets_49 : decode cX12_laysSets 49 = .ok (.isub, 1) := by decide +kernel
theorem dX12_laysSets_50 : decode cX12_laysSets 50 = .ok (.istore 4, 2) := by decide +kernel
theorem dX12_laysSets_52 : decode cX12_laysSets 52 = .ok (.iload 4, 2) := by decide +kernel
theorem dX12_laysSets_54 : decode cX12_laysSets 54 = .ok (.ifCond .le 36, 3) := by decide +kernel
theorem dX12_laysSets_57 : decode cX12_laysSets 57 = .ok (.aload_n 0, 1) := by decide +kernel
theorem dX12_laysSets_58 : decode cX12_laysSets 58 = .ok (.getfield 78, 3) := by decide +kernel
theorem dX12_laysSets_61 : decode cX12_laysSets 61 = .ok (.iload_n 2, 1) := by decide +kernel
theorem dX12_laysSets_62 : decode cX12_laysSets 62 = .ok (.aload_n 0, 1) := by decide +kernel
theorem dX12_laysSets_63 : decode cX12_laysSets 63 = .ok (.iload 4, 2) := by decide +kernel
theorem dX12_laysSets_65 : decode cX12_laysSets 65 = .ok (.iload_n 2, 1) := by decide +kernel
theorem dX12_laysSets_66 : decode cX12_laysSets 66 = .ok (.invokevirtual 260, 3) := by decide +kernel
theorem dX12_laysSets_69 : decode cX12_laysSets 69 = .ok (.ifCond .eq 8, 3) := by decide +kernel
theorem dX12_laysSets_72 : decode cX12_laysSets 72 = .ok (.iload 4, 2) := by decide +kernel
theorem dX12_laysSets_74 : decode cX12_laysSets 74 = .ok (.goto 9, 3) := by decide +kernel
theorem dX12_laysSets_77 : decode cX12_laysSets 77 = .ok (.aload_n 0, 1) := by decide +kernel
theorem dX12_laysSets_78 : decode cX12_laysSets 78 = .ok (.getfield 78, 3) := by decide +kernel
theorem dX12_laysSets_81 : decode cX12_laysSets 81 = .ok (.iload_n 2, 1) := by decide +kernel
theorem dX12_laysSets_82 : decode cX12_laysSets 82 = .ok (.iaload, 1) := by decide +kernel
theorem dX12_laysSets_83 : decode cX12_laysSets 83 = .ok (.iastore, 1) := by decide +kernel
theorem dX12_laysSets_84 : decode cX12_laysSets 84 = .ok (.iinc 4 (-1), 3) := by decide +kernel
theorem dX12_laysSets_87 : decode cX12_laysSets 87 = .ok (.goto (-35), 3) := by decide +kernel
theorem dX12_laysSets_90 : decode cX12_laysSets 90 = .ok (.iinc 2 1, 3) := by decide +kernel
theorem dX12_laysSets_93 : decode cX12_laysSets 93 = .ok (.goto (-91), 3) := by decide +kernel
theorem dX12_laysSets_96 : decode cX12_laysSets 96 = .ok (.return_, 1) := by decide +kernel
theorem dX12_setOf_0 : decode cX12_setOf 0 = .ok (.iload_n 0, 1) := by decide +kernel
theorem dX12_setOf_1 : decode cX12_setOf 1 = .ok (.iconst 4, 1) := by decide +kernel
theorem dX12_setOf_2 : decode cX12_setOf 2 = .ok (.iload_n 1, 1) := by decide +kernel
theorem dX12_setOf_3 : decode cX12_setOf 3 = .ok (.imul, 1) := by decide +kernel
theorem dX12_setOf_4 : decode cX12_setOf 4 = .ok (.ishr, 1) := by decide +kernel
theorem dX12_setOf_5 : decode cX12_setOf 5 = .ok (.bipush 15, 2) := by decide +kernel
theorem dX12_setOf_7 : decode cX12_setOf 7 = .ok (.iand, 1) := by decide +kernel
theorem dX12_setOf_8 : decode cX12_setOf 8 = .ok (.ireturn, 1) := by decide +kernel
theorem dX12_isAll_0 : decode cX12_isAll 0 = .ok (.iconst 1, 1) := by decide +kernel
theorem dX12_isAll_1 : decode cX12_isAll 1 = .ok (.istore_n 2, 1) := by decide +kernel
theorem dX12_isAll_2 : decode cX12_isAll 2 = .ok (.iconst 1, 1) := by decide +kernel
theorem dX12_isAll_3 : decode cX12_isAll 3 = .ok (.istore_n 3, 1) := by decide +kernel
theorem dX12_isAll_4 : decode cX12_isAll 4 = .ok (.iload_n 3, 1) := by decide +kernel
theorem dX12_isAll_5 : decode cX12_isAll 5 = .ok (.aload_n 0, 1) := by decide +kernel
theorem dX12_isAll_6 : decode cX12_isAll 6 = .ok (.getfield 91, 3) := by decide +kernel
theorem dX12_isAll_9 : decode cX12_isAll 9 = .ok (.if_icmp .ge 42, 3) := by decide +kernel
theorem dX12_isAll_12 : decode cX12_isAll 12 = .ok (.iload_n 2, 1) := by decide +kernel
theorem dX12_isAll_13 : decode cX12_isAll 13 = .ok (.ifCond .eq 30, 3) := by decide +kernel
theorem dX12_isAll_16 : decode cX12_isAll 16 = .ok (.aload_n 0, 1) := by decide +kernel
theorem dX12_isAll_17 : decode cX12_isAll 17 = .ok (.getfield 78, 3) := by decide +kernel
theorem dX12_isAll_20 : decode cX12_isAll 20 = .ok (.iload_n 1, 1) := by decide +kernel
theorem dX12_isAll_21 : decode cX12_isAll 21 = .ok (.iload_n 3, 1) := by decide +kernel
theorem dX12_isAll_22 : decode cX12_isAll 22 = .ok (.invokestatic 263, 3) := by decide +kernel
theorem dX12_isAll_25 : decode cX12_isAll 25 = .ok (.iaload, 1) := by decide +kernel
theorem dX12_isAll_26 : decode cX12_isAll 26 = .ok (.aload_n 0, 1) := by decide +kernel
theorem dX12_isAll_27 : decode cX12_isAll 27 = .ok (.getfield 78, 3) := by decide +kernel
theorem dX12_isAll_30 : decode cX12_isAll 30 = .ok (.iload_n 1, 1) := by decide +kernel
theorem dX12_isAll_31 : decode cX12_isAll 31 = .ok (.iconst 0, 1) := by decide +kernel
theorem dX12_isAll_32 : decode cX12_isAll 32 = .ok (.invokestatic 263, 3) := by decide +kernel
theorem dX12_isAll_35 : decode cX12_isAll 35 = .ok (.iaload, 1) := by decide +kernel
theorem dX12_isAll_36 : decode cX12_isAll 36 = .ok (.if_icmp .ne 7, 3) := by decide +kernel
theorem dX12_isAll_39 : decode cX12_isAll 39 = .ok (.iconst 1, 1) := by decide +kernel
theorem dX12_isAll_40 : decode cX12_isAll 40 = .ok (.goto 4, 3) := by decide +kernel
theorem dX12_isAll_43 : decode cX12_isAll 43 = .ok (.iconst 0, 1) := by decide +kernel
theorem dX12_isAll_44 : decode cX12_isAll 44 = .ok (.istore_n 2, 1) := by decide +kernel
theorem dX12_isAll_45 : decode cX12_isAll 45 = .ok (.iinc 3 1, 3) := by decide +kernel
theorem dX12_isAll_48 : decode cX12_isAll 48 = .ok (.goto (-44), 3) := by decide +kernel
theorem dX12_isAll_51 : decode cX12_isAll 51 = .ok (.iload_n 2, 1) := by decide +kernel
theorem dX12_isAll_52 : decode cX12_isAll 52 = .ok (.ireturn, 1) := by decide +kernel
theorem dX12_sent_0 : decode cX12_sent 0 = .ok (.iload_n 0, 1) := by decide +kernel
theorem dX12_sent_1 : decode cX12_sent 1 = .ok (.iload_n 0, 1) := by decide +kernel
theorem dX12_sent_2 : decode cX12_sent 2 = .ok (.iload_n 1, 1) := by decide +kernel
theorem dX12_sent_3 : decode cX12_sent 3 = .ok (.invokestatic 263, 3) := by decide +kernel
theorem dX12_sent_6 : decode cX12_sent 6 = .ok (.iconst 4, 1) := by decide +kernel
theorem dX12_sent_7 : decode cX12_sent 7 = .ok (.iload_n 2, 1) := by decide +kernel
theorem dX12_sent_8 : decode cX12_sent 8 = .ok (.imul, 1) := by decide +kernel
theorem dX12_sent_9 : decode cX12_sent 9 = .ok (.ishl, 1) := by decide +kernel
theorem dX12_sent_10 : decode cX12_sent 10 = .ok (.ior, 1) := by decide +kernel
theorem dX12_sent_11 : decode cX12_sent 11 = .ok (.ireturn, 1) := by decide +kernel
theorem dX12_fewest_0 : decode cX12_fewest 0 = .ok (.iconst 0, 1) := by decide +kernel
theorem dX12_fewest_1 : decode cX12_fewest 1 = .ok (.istore_n 2, 1) := by decide +kernel
theorem dX12_fewest_2 : decode cX12_fewest 2 = .ok (.iload_n 2, 1) := by decide +kernel
theorem dX12_fewest_3 : decode cX12_fewest 3 = .ok (.ldc 81, 2) := by decide +kernel
theorem dX12_fewest_5 : decode cX12_fewest 5 = .ok (.if_icmp .ge 16, 3) := by decide +kernel
theorem dX12_fewest_8 : decode cX12_fewest 8 = .ok (.aload_n 0, 1) := by decide +kernel
theorem dX12_fewest_9 : decode cX12_fewest 9 = .ok (.getfield 82, 3) := by decide +kernel
theorem dX12_fewest_12 : decode cX12_fewest 12 = .ok (.iload_n 2, 1) := by decide +kernel
theorem dX12_fewest_13 : decode cX12_fewest 13 = .ok (.iconst (-1), 1) := by decide +kernel
theorem dX12_fewest_14 : decode cX12_fewest 14 = .ok (.iastore, 1) := by decide +kernel
theorem dX12_fewest_15 : decode cX12_fewest 15 = .ok (.iinc 2 1, 3) := by decide +kernel
theorem dX12_fewest_18 : decode cX12_fewest 18 = .ok (.goto (-16), 3) := by decide +kernel
theorem dX12_fewest_21 : decode cX12_fewest 21 = .ok (.aload_n 0, 1) := by decide +kernel
theorem dX12_fewest_22 : decode cX12_fewest 22 = .ok (.getfield 82, 3) := by decide +kernel
theorem dX12_fewest_25 : decode cX12_fewest 25 = .ok (.iload_n 1, 1) := by decide +kernel
theorem dX12_fewest_26 : decode cX12_fewest 26 = .ok (.iconst 0, 1) := by decide +kernel
theorem dX12_fewest_27 : decode cX12_fewest 27 = .ok (.iastore, 1) := by decide +kernel
theorem dX12_fewest_28 : decode cX12_fewest 28 = .ok (.aload_n 0, 1) := by decide +kernel
theorem dX12_fewest_29 : decode cX12_fewest 29 = .ok (.getfield 85, 3) := by decide +kernel
theorem dX12_fewest_32 : decode cX12_fewest 32 = .ok (.iconst 0, 1) := by decide +kernel
theorem dX12_fewest_33 : decode cX12_fewest 33 = .ok (.iload_n 1, 1) := by decide +kernel
theorem dX12_fewest_34 : decode cX12_fewest 34 = .ok (.iastore, 1) := by decide +kernel
theorem dX12_fewest_35 : decode cX12_fewest 35 = .ok (.iconst 1, 1) := by decide +kernel
theorem dX12_fewest_36 : decode cX12_fewest 36 = .ok (.istore_n 2, 1) := by decide +kernel
theorem dX12_fewest_37 : decode cX12_fewest 37 = .ok (.iconst 0, 1) := by decide +kernel
theorem dX12_fewest_38 : decode cX12_fewest 38 = .ok (.istore_n 3, 1) := by decide +kernel
theorem dX12_fewest_39 : decode cX12_fewest 39 = .ok (.iload_n 3, 1) := by decide +kernel
theorem dX12_fewest_40 : decode cX12_fewest 40 = .ok (.iload_n 2, 1) := by decide +kernel
theorem dX12_fewest_41 : decode cX12_fewest 41 = .ok (.if_icmp .ge 115, 3) := by decide +kernel
theorem dX12_fewest_44 : decode cX12_fewest 44 = .ok (.aload_n 0, 1) := by decide +kernel
theorem dX12_fewest_45 : decode cX12_fewest 45 = .ok (.getfield 85, 3) := by decide +kernel
theorem dX12_fewest_48 : decode cX12_fewest 48 = .ok (.iload_n 3, 1) := by decide +kernel
theorem dX12_fewest_49 : decode cX12_fewest 49 = .ok (.iaload, 1) := by decide +kernel
theorem dX12_fewest_50 : decode cX12_fewest 50 = .ok (.istore 4, 2) := by decide +kernel
theorem dX12_fewest_52 : decode cX12_fewest 52 = .ok (.aload_n 0, 1) := by decide +kernel
theorem dX12_fewest_53 : decode cX12_fewest 53 = .ok (.iload 4, 2) := by decide +kernel
theorem dX12_fewest_55 : decode cX12_fewest 55 = .ok (.invokevirtual 266, 3) := by decide +kernel
theorem dX12_fewest_58 : decode cX12_fewest 58 = .ok (.ifCond .eq 11, 3) := by decide +kernel
theorem dX12_fewest_61 : decode cX12_fewest 61 = .ok (.aload_n 0, 1) := by decide +kernel
theorem dX12_fewest_62 : decode cX12_fewest 62 = .ok (.getfield 82, 3) := by decide +kernel
theorem dX12_fewest_65 : decode cX12_fewest 65 = .ok (.iload 4, 2) := by decide +kernel
theorem dX12_fewest_67 : decode cX12_fewest 67 = .ok (.iaload, 1) := by decide +kernel
theorem dX12_fewest_68 : decode cX12_fewest 68 = .ok (.ireturn, 1) := by decide +kernel
theorem dX12_fewest_69 : decode cX12_fewest 69 = .ok (.iconst 0, 1) := by decide +kernel
theorem dX12_fewest_70 : decode cX12_fewest 70 = .ok (.istore 5, 2) := by decide +kernel
theorem dX12_fewest_72 : decode cX12_fewest 72 = .ok (.iload 5, 2) := by decide +kernel
theorem dX12_fewest_74 : decode cX12_fewest 74 = .ok (.aload_n 0, 1) := by decide +kernel
theorem dX12_fewest_75 : decode cX12_fewest 75 = .ok (.getfield 91, 3) := by decide +kernel
theorem dX12_fewest_78 : decode cX12_fewest 78 = .ok (.aload_n 0, 1) := by decide +kernel
theorem dX12_fewest_79 : decode cX12_fewest 79 = .ok (.getfield 91, 3) := by decide +kernel
theorem dX12_fewest_82 : decode cX12_fewest 82 = .ok (.imul, 1) := by decide +kernel
theorem dX12_fewest_83 : decode cX12_fewest 83 = .ok (.if_icmp .ge 67, 3) := by decide +kernel
theorem dX12_fewest_86 : decode cX12_fewest 86 = .ok (.iload 4, 2) := by decide +kernel
theorem dX12_fewest_88 : decode cX12_fewest 88 = .ok (.iload 5, 2) := by decide +kernel
theorem dX12_fewest_90 : decode cX12_fewest 90 = .ok (.aload_n 0, 1) := by decide +kernel
theorem dX12_fewest_91 : decode cX12_fewest 91 = .ok (.getfield 91, 3) := by decide +kernel
theorem dX12_fewest_94 : decode cX12_fewest 94 = .ok (.idiv, 1) := by decide +kernel
theorem dX12_fewest_95 : decode cX12_fewest 95 = .ok (.iload 5, 2) := by decide +kernel
theorem dX12_fewest_97 : decode cX12_fewest 97 = .ok (.aload_n 0, 1) := by decide +kernel
theorem dX12_fewest_98 : decode cX12_fewest 98 = .ok (.getfield 91, 3) := by decide +kernel
theorem dX12_fewest_101 : decode cX12_fewest 101 = .ok (.irem, 1) := by decide +kernel
theorem dX12_fewest_102 : decode cX12_fewest 102 = .ok (.invokestatic 269, 3) := by decide +kernel
theorem dX12_fewest_105 : decode cX12_fewest 105 = .ok (.istore 6, 2) := by decide +kernel
theorem dX12_fewest_107 : decode cX12_fewest 107 = .ok (.aload_n 0, 1) := by decide +kernel
theorem dX12_fewest_108 : decode cX12_fewest 108 = .ok (.getfield 82, 3) := by decide +kernel
theorem dX12_fewest_111 : decode cX12_fewest 111 = .ok (.iload 6, 2) := by decide +kernel
theorem dX12_fewest_113 : decode cX12_fewest 113 = .ok (.iaload, 1) := by decide +kernel
theorem dX12_fewest_114 : decode cX12_fewest 114 = .ok (.ifCond .ge 30, 3) := by decide +kernel
theorem dX12_fewest_117 : decode cX12_fewest 117 = .ok (.aload_n 0, 1) := by decide +kernel
theorem dX12_fewest_118 : decode cX12_fewest 118 = .ok (.getfield 82, 3) := by decide +kernel
theorem dX12_fewest_121 : decode cX12_fewest 121 = .ok (.iload 6, 2) := by decide +kernel
theorem dX12_fewest_123 : decode cX12_fewest 123 = .ok (.aload_n 0, 1) := by decide +kernel
theorem dX12_fewest_124 : decode cX12_fewest 124 = .ok (.getfield 82, 3) := by decide +kernel
theorem dX12_fewest_127 : decode cX12_fewest 127 = .ok (.iload 4, 2) := by decide +kernel
theorem dX12_fewest_129 : decode cX12_fewest 129 = .ok (.iaload, 1) := by decide +kernel
theorem dX12_fewest_130 : decode cX12_fewest 130 = .ok (.iconst 1, 1) := by decide +kernel
theorem dX12_fewest_131 : decode cX12_fewest 131 = .ok (.iadd, 1) := by decide +kernel
theorem dX12_fewest_132 : decode cX12_fewest 132 = .ok (.iastore, 1) := by decide +kernel
theorem dX12_fewest_133 : decode cX12_fewest 133 = .ok (.aload_n 0, 1) := by decide +kernel
theorem dX12_fewest_134 : decode cX12_fewest 134 = .ok (.getfield 85, 3) := by decide +kernel
theorem dX12_fewest_137 : decode cX12_fewest 137 = .ok (.iload_n 2, 1) := by decide +kernel
theorem dX12_fewest_138 : decode cX12_fewest 138 = .ok (.iload 6, 2) := by decide +kernel
theorem dX12_fewest_140 : decode cX12_fewest 140 = .ok (.iastore, 1) := by decide +kernel
theorem dX12_fewest_141 : decode cX12_fewest 141 = .ok (.iinc 2 1, 3) := by decide +kernel
theorem dX12_fewest_144 : decode cX12_fewest 144 = .ok (.iinc 5 1, 3) := by decide +kernel
theorem dX12_fewest_147 : decode cX12_fewest 147 = .ok (.goto (-75), 3) := by decide +kernel
theorem dX12_fewest_150 : decode cX12_fewest 150 = .ok (.iinc 3 1, 3) := by decide +kernel
theorem dX12_fewest_153 : decode cX12_fewest 153 = .ok (.goto (-114), 3) := by decide +kernel
theorem dX12_fewest_156 : decode cX12_fewest 156 = .ok (.bipush (-9), 2) := by decide +kernel
theorem dX12_fewest_158 : decode cX12_fewest 158 = .ok (.ireturn, 1) := by decide +kernel
theorem dX12_spread_0 : decode cX12_spread 0 = .ok (.aload_n 0, 1) := by decide +kernel
theorem dX12_spread_1 : decode cX12_spread 1 = .ok (.iload_n 1, 1) := by decide +kernel
theorem dX12_spread_2 : decode cX12_spread 2 = .ok (.invokevirtual 119, 3) := by decide +kernel
theorem dX12_spread_5 : decode cX12_spread 5 = .ok (.ifCond .eq 13, 3) := by decide +kernel
theorem dX12_spread_8 : decode cX12_spread 8 = .ok (.iload_n 2, 1) := by decide +kernel
theorem dX12_spread_9 : decode cX12_spread 9 = .ok (.i2l, 1) := by decide +kernel
theorem dX12_spread_10 : decode cX12_spread 10 = .ok (.lconst 0, 1) := by decide +kernel
theorem dX12_spread_11 : decode cX12_spread 11 = .ok (.lconst 1, 1) := by decide +kernel
theorem dX12_spread_12 : decode cX12_spread 12 = .ok (.invokestatic 113, 3) := by decide +kernel
theorem dX12_spread_15 : decode cX12_spread 15 = .ok (.ifCond .ne 5, 3) := by decide +kernel
theorem dX12_spread_18 : decode cX12_spread 18 = .ok (.iconst (-1), 1) := by decide +kernel
theorem dX12_spread_19 : decode cX12_spread 19 = .ok (.ireturn, 1) := by decide +kernel
theorem dX12_spread_20 : decode cX12_spread 20 = .ok (.aload_n 0, 1) := by decide +kernel
theorem dX12_spread_21 : decode cX12_spread 21 = .ok (.iload_n 1, 1) := by decide +kernel
theorem dX12_spread_22 : decode cX12_spread 22 = .ok (.invokevirtual 272, 3) := by decide +kernel
theorem dX12_spread_25 : decode cX12_spread 25 = .ok (.iconst 0, 1) := by decide +kernel
theorem dX12_spread_26 : decode cX12_spread 26 = .ok (.istore_n 3, 1) := by decide +kernel
theorem dX12_spread_27 : decode cX12_spread 27 = .ok (.iconst 0, 1) := by decide +kernel
theorem dX12_spread_28 : decode cX12_spread 28 = .ok (.istore 4, 2) := by decide +kernel
theorem dX12_spread_30 : decode cX12_spread 30 = .ok (.iload 4, 2) := by decide +kernel
theorem dX12_spread_32 : decode cX12_spread 32 = .ok (.aload_n 0, 1) := by decide +kernel
theorem dX12_spread_33 : decode cX12_spread 33 = .ok (.getfield 91, 3) := by decide +kernel
theorem dX12_spread_36 : decode cX12_spread 36 = .ok (.if_icmp .ge 21, 3) := by decide +kernel
theorem dX12_spread_39 : decode cX12_spread 39 = .ok (.iload_n 3, 1) := by decide +kernel
theorem dX12_spread_40 : decode cX12_spread 40 = .ok (.iconst 1, 1) := by decide +kernel
theorem dX12_spread_41 : decode cX12_spread 41 = .ok (.iload 4, 2) := by decide +kernel
theorem dX12_spread_43 : decode cX12_spread 43 = .ok (.ishl, 1) := by decide +kernel
theorem dX12_spread_44 : decode cX12_spread 44 = .ok (.iconst 4, 1) := by decide +kernel
theorem dX12_spread_45 : decode cX12_spread 45 = .ok (.iload 4, 2) := by decide +kernel
theorem dX12_spread_47 : decode cX12_spread 47 = .ok (.imul, 1) := by decide +kernel
theorem dX12_spread_48 : decode cX12_spread 48 = .ok (.ishl, 1) := by decide +kernel
theorem dX12_spread_49 : decode cX12_spread 49 = .ok (.ior, 1) := by decide +kernel
theorem dX12_spread_50 : decode cX12_spread 50 = .ok (.istore_n 3, 1) := by decide +kernel
theorem dX12_spread_51 : decode cX12_spread 51 = .ok (.iinc 4 1, 3) := by decide +kernel
theorem dX12_spread_54 : decode cX12_spread 54 = .ok (.goto (-24), 3) := by decide +kernel
theorem dX12_spread_57 : decode cX12_spread 57 = .ok (.aload_n 0, 1) := by decide +kernel
theorem dX12_spread_58 : decode cX12_spread 58 = .ok (.iload_n 3, 1) := by decide +kernel
theorem dX12_spread_59 : decode cX12_spread 59 = .ok (.invokevirtual 276, 3) := by decide +kernel
theorem dX12_spread_62 : decode cX12_spread 62 = .ok (.istore 4, 2) := by decide +kernel
theorem dX12_spread_64 : decode cX12_spread 64 = .ok (.iload_n 2, 1) := by decide +kernel
theorem dX12_spread_65 : decode cX12_spread 65 = .ok (.ifCond .ne 6, 3) := by decide +kernel
theorem dX12_spread_68 : decode cX12_spread 68 = .ok (.iload 4, 2) := by decide +kernel
theorem dX12_spread_70 : decode cX12_spread 70 = .ok (.ireturn, 1) := by decide +kernel
theorem dX12_spread_71 : decode cX12_spread 71 = .ok (.iconst 0, 1) := by decide +kernel
theorem dX12_spread_72 : decode cX12_spread 72 = .ok (.istore 5, 2) := by decide +kernel
theorem dX12_spread_74 : decode cX12_spread 74 = .ok (.iload 5, 2) := by decide +kernel
theorem dX12_spread_76 : decode cX12_spread 76 = .ok (.aload_n 0, 1) := by decide +kernel
theorem dX12_spread_77 : decode cX12_spread 77 = .ok (.getfield 91, 3) := by decide +kernel
theorem dX12_spread_80 : decode cX12_spread 80 = .ok (.aload_n 0, 1) := by decide +kernel
theorem dX12_spread_81 : decode cX12_spread 81 = .ok (.getfield 91, 3) := by decide +kernel
theorem dX12_spread_84 : decode cX12_spread 84 = .ok (.imul, 1) := by decide +kernel
theorem dX12_spread_85 : decode cX12_spread 85 = .ok (.if_icmp .ge 67, 3) := by decide +kernel
theorem dX12_spread_88 : decode cX12_spread 88 = .ok (.iload 4, 2) := by decide +kernel
theorem dX12_spread_90 : decode cX12_spread 90 = .ok (.ifCond .le 62, 3) := by decide +kernel
theorem dX12_spread_93 : decode cX12_spread 93 = .ok (.iload 5, 2) := by decide +kernel
theorem dX12_spread_95 : decode cX12_spread 95 = .ok (.aload_n 0, 1) := by decide +kernel
theorem dX12_spread_96 : decode cX12_spread 96 = .ok (.getfield 91, 3) := by decide +kernel
theorem dX12_spread_99 : decode cX12_spread 99 = .ok (.idiv, 1) := by decide +kernel
theorem dX12_spread_100 : decode cX12_spread 100 = .ok (.istore 6, 2) := by decide +kernel
theorem dX12_spread_102 : decode cX12_spread 102 = .ok (.iload 5, 2) := by decide +kernel
theorem dX12_spread_104 : decode cX12_spread 104 = .ok (.aload_n 0, 1) := by decide +kernel
theorem dX12_spread_105 : decode cX12_spread 105 = .ok (.getfield 91, 3) := by decide +kernel
theorem dX12_spread_108 : decode cX12_spread 108 = .ok (.irem, 1) := by decide +kernel
theorem dX12_spread_109 : decode cX12_spread 109 = .ok (.istore 7, 2) := by decide +kernel
theorem dX12_spread_111 : decode cX12_spread 111 = .ok (.iload 6, 2) := by decide +kernel
theorem dX12_spread_113 : decode cX12_spread 113 = .ok (.iload 7, 2) := by decide +kernel
theorem dX12_spread_115 : decode cX12_spread 115 = .ok (.if_icmp .eq 31, 3) := by decide +kernel
theorem dX12_spread_118 : decode cX12_spread 118 = .ok (.aload_n 0, 1) := by decide +kernel
theorem dX12_spread_119 : decode cX12_spread 119 = .ok (.iload_n 3, 1) := by decide +kernel
theorem dX12_spread_120 : decode cX12_spread 120 = .ok (.iload 6, 2) := by decide +kernel
theorem dX12_spread_122 : decode cX12_spread 122 = .ok (.iload 7, 2) := by decide +kernel
theorem dX12_spread_124 : decode cX12_spread 124 = .ok (.invokestatic 269, 3) := by decide +kernel
theorem dX12_spread_127 : decode cX12_spread 127 = .ok (.invokevirtual 276, 3) := by decide +kernel
theorem dX12_spread_130 : decode cX12_spread 130 = .ok (.iload 4, 2) := by decide +kernel
theorem dX12_spread_132 : decode cX12_spread 132 = .ok (.iconst 1, 1) := by decide +kernel
theorem dX12_spread_133 : decode cX12_spread 133 = .ok (.isub, 1) := by decide +kernel
theorem dX12_spread_134 : decode cX12_spread 134 = .ok (.if_icmp .ne 12, 3) := by decide +kernel
theorem dX12_spread_137 : decode cX12_spread 137 = .ok (.bipush 10, 2) := by decide +kernel
theorem dX12_spread_139 : decode cX12_spread 139 = .ok (.iload 6, 2) := by decide +kernel
theorem dX12_spread_141 : decode cX12_spread 141 = .ok (.imul, 1) := by decide +kernel
theorem dX12_spread_142 : decode cX12_spread 142 = .ok (.iload 7, 2) := by decide +kernel
theorem dX12_spread_144 : decode cX12_spread 144 = .ok (.iadd, 1) := by decide +kernel
theorem dX12_spread_145 : decode cX12_spread 145 = .ok (.ireturn, 1) := by decide +kernel
theorem dX12_spread_146 : decode cX12_spread 146 = .ok (.iinc 5 1, 3) := by decide +kernel
theorem dX12_spread_149 : decode cX12_spread 149 = .ok (.goto (-75), 3) := by decide +kernel
theorem dX12_spread_152 : decode cX12_spread 152 = .ok (.bipush (-9), 2) := by decide +kernel
theorem dX12_spread_154 : decode cX12_spread 154 = .ok (.ireturn, 1) := by decide +kernel
theorem dX12_rule_0 : decode cX12_rule 0 = .ok (.iload_n 1, 1) := by decide +kernel
theorem dX12_rule_1 : decode cX12_rule 1 = .ok (.ifCond .lt 13, 3) := by decide +kernel
theorem dX12_rule_4 : decode cX12_rule 4 = .ok (.iload_n 2, 1) := by decide +kernel
theorem dX12_rule_5 : decode cX12_rule 5 = .ok (.i2l, 1) := by decide +kernel
theorem dX12_rule_6 : decode cX12_rule 6 = .ok (.lconst 0, 1) := by decide +kernel
theorem dX12_rule_7 : decode cX12_rule 7 = .ok (.lconst 1, 1) := by decide +kernel
theorem dX12_rule_8 : decode cX12_rule 8 = .ok (.invokestatic 113, 3) := by decide +kernel
theorem dX12_rule_11 : decode cX12_rule 11 = .ok (.ifCond .ne 5, 3) := by decide +kernel
theorem dX12_rule_14 : decode cX12_rule 14 = .ok (.iconst (-1), 1) := by decide +kernel
theorem dX12_rule_15 : decode cX12_rule 15 = .ok (.ireturn, 1) := by decide +kernel
theorem dX12_rule_16 : decode cX12_rule 16 = .ok (.iload_n 1, 1) := by decide +kernel
theorem dX12_rule_17 : decode cX12_rule 17 = .ok (.aload_n 0, 1) := by decide +kernel
theorem dX12_rule_18 : decode cX12_rule 18 = .ok (.getfield 110, 3) := by decide +kernel
theorem dX12_rule_21 : decode cX12_rule 21 = .ok (.if_icmp .lt 8, 3) := by decide +kernel
theorem dX12_rule_24 : decode cX12_rule 24 = .ok (.bipush (-9), 2) := by decide +kernel
theorem dX12_rule_26 : decode cX12_rule 26 = .ok (.goto 22, 3) := by decide +kernel
theorem dX12_rule_29 : decode cX12_rule 29 = .ok (.iload_n 2, 1) := by decide +kernel
theorem dX12_rule_30 : decode cX12_rule 30 = .ok (.ifCond .ne 12, 3) := by decide +kernel
theorem dX12_rule_33 : decode cX12_rule 33 = .ok (.aload_n 0, 1) := by decide +kernel
theorem dX12_rule_34 : decode cX12_rule 34 = .ok (.getfield 60, 3) := by decide +kernel
theorem dX12_rule_37 : decode cX12_rule 37 = .ok (.iload_n 1, 1) := by decide +kernel
theorem dX12_rule_38 : decode cX12_rule 38 = .ok (.iaload, 1) := by decide +kernel
theorem dX12_rule_39 : decode cX12_rule 39 = .ok (.goto 9, 3) := by decide +kernel
theorem dX12_rule_42 : decode cX12_rule 42 = .ok (.aload_n 0, 1) := by decide +kernel
theorem dX12_rule_43 : decode cX12_rule 43 = .ok (.getfield 63, 3) := by decide +kernel
theorem dX12_rule_46 : decode cX12_rule 46 = .ok (.iload_n 1, 1) := by decide +kernel
theorem dX12_rule_47 : decode cX12_rule 47 = .ok (.iaload, 1) := by decide +kernel
theorem dX12_rule_48 : decode cX12_rule 48 = .ok (.ireturn, 1) := by decide +kernel
theorem dX12_counted_0 : decode cX12_counted 0 = .ok (.iconst 0, 1) := by decide +kernel
theorem dX12_counted_1 : decode cX12_counted 1 = .ok (.istore_n 3, 1) := by decide +kernel
theorem dX12_counted_2 : decode cX12_counted 2 = .ok (.iconst 0, 1) := by decide +kernel
theorem dX12_counted_3 : decode cX12_counted 3 = .ok (.istore 4, 2) := by decide +kernel
theorem dX12_counted_5 : decode cX12_counted 5 = .ok (.iload 4, 2) := by decide +kernel
theorem dX12_counted_7 : decode cX12_counted 7 = .ok (.aload_n 0, 1) := by decide +kernel
theorem dX12_counted_8 : decode cX12_counted 8 = .ok (.getfield 91, 3) := by decide +kernel
theorem dX12_counted_11 : decode cX12_counted 11 = .ok (.if_icmp .ge 123, 3) := by decide +kernel
theorem dX12_counted_14 : decode cX12_counted 14 = .ok (.iconst 1, 1) := by decide +kernel
theorem dX12_counted_15 : decode cX12_counted 15 = .ok (.istore 5, 2) := by decide +kernel
theorem dX12_counted_17 : decode cX12_counted 17 = .ok (.iload 5, 2) := by decide +kernel
theorem dX12_counted_19 : decode cX12_counted 19 = .ok (.aload_n 0, 1) := by decide +kernel
theorem dX12_counted_20 : decode cX12_counted 20 = .ok (.getfield 42, 3) := by decide +kernel
theorem dX12_counted_23 : decode cX12_counted 23 = .ok (.iconst 4, 1) := by decide +kernel
theorem dX12_counted_24 : decode cX12_counted 24 = .ok (.iload_n 1, 1) := by decide +kernel
theorem dX12_counted_25 : decode cX12_counted 25 = .ok (.imul, 1) := by decide +kernel
theorem dX12_counted_26 : decode cX12_counted 26 = .ok (.iload 4, 2) := by decide +kernel
theorem dX12_counted_28 : decode cX12_counted 28 = .ok (.iadd, 1) := by decide +kernel
theorem dX12_counted_29 : decode cX12_counted 29 = .ok (.iaload, 1) := by decide +kernel
theorem dX12_counted_30 : decode cX12_counted 30 = .ok (.if_icmp .gt 98, 3) := by decide +kernel
theorem dX12_counted_33 : decode cX12_counted 33 = .ok (.iload_n 1, 1) := by decide +kernel
theorem dX12_counted_34 : decode cX12_counted 34 = .ok (.iload 4, 2) := by decide +kernel
theorem dX12_counted_36 : decode cX12_counted 36 = .ok (.iload 5, 2) := by decide +kernel
theorem dX12_counted_38 : decode cX12_counted 38 = .ok (.invokestatic 199, 3) := by decide +kernel
theorem dX12_counted_41 : decode cX12_counted 41 = .ok (.istore 6, 2) := by decide +kernel
theorem dX12_counted_43 : decode cX12_counted 43 = .ok (.iload_n 2, 1) := by decide +kernel
theorem dX12_counted_44 : decode cX12_counted 44 = .ok (.iconst 1, 1) := by decide +kernel
theorem dX12_counted_45 : decode cX12_counted 45 = .ok (.if_icmp .eq 62, 3) := by decide +kernel
theorem dX12_counted_48 : decode cX12_counted 48 = .ok (.iload_n 2, 1) := by decide +kernel
theorem dX12_counted_49 : decode cX12_counted 49 = .ok (.iconst 2, 1) := by decide +kernel
theorem dX12_counted_50 : decode cX12_counted 50 = .ok (.if_icmp .ne 13, 3) := by decide +kernel
theorem dX12_counted_53 : decode cX12_counted 53 = .ok (.aload_n 0, 1) := by decide +kernel
theorem dX12_counted_54 : decode cX12_counted 54 = .ok (.getfield 33, 3) := by decide +kernel
theorem dX12_counted_57 : decode cX12_counted 57 = .ok (.iload 6, 2) := by decide +kernel
theorem dX12_counted_59 : decode cX12_counted 59 = .ok (.baload, 1) := by decide +kernel
theorem dX12_counted_60 : decode cX12_counted 60 = .ok (.ifCond .ne 47, 3) := by decide +kernel
theorem dX12_counted_63 : decode cX12_counted 63 = .ok (.iload_n 2, 1) := by decide +kernel
theorem dX12_counted_64 : decode cX12_counted 64 = .ok (.iconst 3, 1) := by decide +kernel
theorem dX12_counted_65 : decode cX12_counted 65 = .ok (.if_icmp .ne 13, 3) := by decide +kernel
theorem dX12_counted_68 : decode cX12_counted 68 = .ok (.aload_n 0, 1) := by decide +kernel
theorem dX12_counted_69 : decode cX12_counted 69 = .ok (.getfield 36, 3) := by decide +kernel
theorem dX12_counted_72 : decode cX12_counted 72 = .ok (.iload 6, 2) := by decide +kernel
theorem dX12_counted_74 : decode cX12_counted 74 = .ok (.baload, 1) := by decide +kernel
theorem dX12_counted_75 : decode cX12_counted 75 = .ok (.ifCond .ne 32, 3) := by decide +kernel
theorem dX12_counted_78 : decode cX12_counted 78 = .ok (.iload_n 2, 1) := by decide +kernel
theorem dX12_counted_79 : decode cX12_counted 79 = .ok (.iconst 4, 1) := by decide +kernel
theorem dX12_counted_80 : decode cX12_counted 80 = .ok (.if_icmp .ne 13, 3) := by decide +kernel
theorem dX12_counted_83 : decode cX12_counted 83 = .ok (.aload_n 0, 1) := by decide +kernel
theorem dX12_counted_84 : decode cX12_counted 84 = .ok (.getfield 30, 3) := by decide +kernel
theorem dX12_counted_87 : decode cX12_counted 87 = .ok (.iload 6, 2) := by decide +kernel
theorem dX12_counted_89 : decode cX12_counted 89 = .ok (.baload, 1) := by decide +kernel
theorem dX12_counted_90 : decode cX12_counted 90 = .ok (.ifCond .ne 17, 3) := by decide +kernel
theorem dX12_counted_93 : decode cX12_counted 93 = .ok (.iload_n 2, 1) := by decide +kernel
theorem dX12_counted_94 : decode cX12_counted 94 = .ok (.iconst 5, 1) := by decide +kernel
theorem dX12_counted_95 : decode cX12_counted 95 = .ok (.if_icmp .ne 16, 3) := by decide +kernel
theorem dX12_counted_98 : decode cX12_counted 98 = .ok (.aload_n 0, 1) := by decide +kernel
theorem dX12_counted_99 : decode cX12_counted 99 = .ok (.iload 6, 2) := by decide +kernel
theorem dX12_counted_101 : decode cX12_counted 101 = .ok (.invokevirtual 250, 3) := by decide +kernel
theorem dX12_counted_104 : decode cX12_counted 104 = .ok (.ifCond .eq 7, 3) := by decide +kernel
theorem dX12_counted_107 : decode cX12_counted 107 = .ok (.iconst 1, 1) := by decide +kernel
theorem dX12_counted_108 : decode cX12_counted 108 = .ok (.goto 4, 3) := by decide +kernel
theorem dX12_counted_111 : decode cX12_counted 111 = .ok (.iconst 0, 1) := by decide +kernel
theorem dX12_counted_112 : decode cX12_counted 112 = .ok (.istore 7, 2) := by decide +kernel
theorem dX12_counted_114 : decode cX12_counted 114 = .ok (.iload_n 3, 1) := by decide +kernel
theorem dX12_counted_115 : decode cX12_counted 115 = .ok (.iload 7, 2) := by decide +kernel
theorem dX12_counted_117 : decode cX12_counted 117 = .ok (.invokestatic 246, 3) := by decide +kernel
theorem dX12_counted_120 : decode cX12_counted 120 = .ok (.iadd, 1) := by decide +kernel
theorem dX12_counted_121 : decode cX12_counted 121 = .ok (.istore_n 3, 1) := by decide +kernel
theorem dX12_counted_122 : decode cX12_counted 122 = .ok (.iinc 5 1, 3) := by decide +kernel
theorem dX12_counted_125 : decode cX12_counted 125 = .ok (.goto (-108), 3) := by decide +kernel
theorem dX12_counted_128 : decode cX12_counted 128 = .ok (.iinc 4 1, 3) := by decide +kernel
theorem dX12_counted_131 : decode cX12_counted 131 = .ok (.goto (-126), 3) := by decide +kernel
theorem dX12_counted_134 : decode cX12_counted 134 = .ok (.iload_n 3, 1) := by decide +kernel
theorem dX12_counted_135 : decode cX12_counted 135 = .ok (.ireturn, 1) := by decide +kernel
theorem dX12_tally_0 : decode cX12_tally 0 = .ok (.aload_n 0, 1) := by decide +kernel
theorem dX12_tally_1 : decode cX12_tally 1 = .ok (.iload_n 1, 1) := by decide +kernel
theorem dX12_tally_2 : decode cX12_tally 2 = .ok (.invokevirtual 119, 3) := by decide +kernel
theorem dX12_tally_5 : decode cX12_tally 5 = .ok (.ifCond .eq 15, 3) := by decide +kernel
theorem dX12_tally_8 : decode cX12_tally 8 = .ok (.iload_n 2, 1) := by decide +kernel
theorem dX12_tally_9 : decode cX12_tally 9 = .ok (.i2l, 1) := by decide +kernel
theorem dX12_tally_10 : decode cX12_tally 10 = .ok (.lconst 0, 1) := by decide +kernel
theorem dX12_tally_11 : decode cX12_tally 11 = .ok (.ldc2_w 279, 3) := by decide +kernel
theorem dX12_tally_14 : decode cX12_tally 14 = .ok (.invokestatic 113, 3) := by decide +kernel
theorem dX12_tally_17 : decode cX12_tally 17 = .ok (.ifCond .ne 5, 3) := by decide +kernel
theorem dX12_tally_20 : decode cX12_tally 20 = .ok (.iconst (-1), 1) := by decide +kernel
theorem dX12_tally_21 : decode cX12_tally 21 = .ok (.ireturn, 1) := by decide +kernel
theorem dX12_tally_22 : decode cX12_tally 22 = .ok (.iload_n 2, 1) := by decide +kernel
theorem dX12_tally_23 : decode cX12_tally 23 = .ok (.ifCond .ne 12, 3) := by decide +kernel
theorem dX12_tally_26 : decode cX12_tally 26 = .ok (.aload_n 0, 1) := by decide +kernel
theorem dX12_tally_27 : decode cX12_tally 27 = .ok (.getfield 7, 3) := by decide +kernel
theorem dX12_tally_30 : decode cX12_tally 30 = .ok (.iload_n 1, 1) := by decide +kernel
theorem dX12_tally_31 : decode cX12_tally 31 = .ok (.iaload, 1) := by decide +kernel
theorem dX12_tally_32 : decode cX12_tally 32 = .ok (.goto 24, 3) := by decide +kernel
theorem dX12_tally_35 : decode cX12_tally 35 = .ok (.iload_n 2, 1) := by decide +kernel
theorem dX12_tally_36 : decode cX12_tally 36 = .ok (.bipush 6, 2) := by decide +kernel
theorem dX12_tally_38 : decode cX12_tally 38 = .ok (.if_icmp .ne 12, 3) := by decide +kernel
theorem dX12_tally_41 : decode cX12_tally 41 = .ok (.aload_n 0, 1) := by decide +kernel
theorem dX12_tally_42 : decode cX12_tally 42 = .ok (.getfield 48, 3) := by decide +kernel
theorem dX12_tally_45 : decode cX12_tally 45 = .ok (.iload_n 1, 1) := by decide +kernel
theorem dX12_tally_46 : decode cX12_tally 46 = .ok (.iaload, 1) := by decide +kernel
theorem dX12_tally_47 : decode cX12_tally 47 = .ok (.goto 9, 3) := by decide +kernel
theorem dX12_tally_50 : decode cX12_tally 50 = .ok (.aload_n 0, 1) := by decide +kernel
theorem dX12_tally_51 : decode cX12_tally 51 = .ok (.iload_n 1, 1) := by decide +kernel
theorem dX12_tally_52 : decode cX12_tally 52 = .ok (.iload_n 2, 1) := by decide +kernel
theorem dX12_tally_53 : decode cX12_tally 53 = .ok (.invokevirtual 281, 3) := by decide +kernel
theorem dX12_tally_56 : decode cX12_tally 56 = .ok (.ireturn, 1) := by decide +kernel
theorem dX12_count_0 : decode cX12_count 0 = .ok (.iload_n 1, 1) := by decide +kernel
theorem dX12_count_1 : decode cX12_count 1 = .ok (.tableswitch 69 0 5 #[39, 44, 49, 54, 59, 64], 39) := by decide +kernel
theorem dX12_count_40 : decode cX12_count 40 = .ok (.aload_n 0, 1) := by decide +kernel
theorem dX12_count_41 : decode cX12_count 41 = .ok (.getfield 91, 3) := by decide +kernel
theorem dX12_count_44 : decode cX12_count 44 = .ok (.ireturn, 1) := by decide +kernel
theorem dX12_count_45 : decode cX12_count 45 = .ok (.aload_n 0, 1) := by decide +kernel
theorem dX12_count_46 : decode cX12_count 46 = .ok (.getfield 101, 3) := by decide +kernel
theorem dX12_count_49 : decode cX12_count 49 = .ok (.ireturn, 1) := by decide +kernel
theorem dX12_count_50 : decode cX12_count 50 = .ok (.aload_n 0, 1) := by decide +kernel
theorem dX12_count_51 : decode cX12_count 51 = .ok (.getfield 95, 3) := by decide +kernel
theorem dX12_count_54 : decode cX12_count 54 = .ok (.ireturn, 1) := by decide +kernel
theorem dX12_count_55 : decode cX12_count 55 = .ok (.aload_n 0, 1) := by decide +kernel
theorem dX12_count_56 : decode cX12_count 56 = .ok (.getfield 98, 3) := by decide +kernel
theorem dX12_count_59 : decode cX12_count 59 = .ok (.ireturn, 1) := by decide +kernel
theorem dX12_count_60 : decode cX12_count 60 = .ok (.aload_n 0, 1) := by decide +kernel
theorem dX12_count_61 : decode cX12_count 61 = .ok (.getfield 107, 3) := by decide +kernel
theorem dX12_count_64 : decode cX12_count 64 = .ok (.ireturn, 1) := by decide +kernel
theorem dX12_count_65 : decode cX12_count 65 = .ok (.aload_n 0, 1) := by decide +kernel
theorem dX12_count_66 : decode cX12_count 66 = .ok (.getfield 128, 3) := by decide +kernel
theorem dX12_count_69 : decode cX12_count 69 = .ok (.ireturn, 1) := by decide +kernel
theorem dX12_count_70 : decode cX12_count 70 = .ok (.iconst (-1), 1) := by decide +kernel
theorem dX12_count_71 : decode cX12_count 71 = .ok (.ireturn, 1) := by decide +kernel
